theorem dX0_init_0 : decode cX0_init 0 = .ok (.aload_n 0, 1) := by decide +kernel
theorem dX0_init_1 : decode cX0_init 1 = .ok (.invokespecial 3, 3) := by decide +kernel
theorem dX0_init_4 : decode cX0_init 4 = .ok (.aload_n 0, 1) := by decide +kernel
theorem dX0_init_5 : decode cX0_init 5 = .ok (.bipush 40, 2) := by decide +kernel
theorem dX0_init_7 : decode cX0_init 7 = .ok (.newarray .int, 2) := by decide +kernel
theorem dX0_init_9 : decode cX0_init 9 = .ok (.putfield 9, 3) := by decide +kernel
theorem dX0_init_12 : decode cX0_init 12 = .ok (.aload_n 0, 1) := by decide +kernel
theorem dX0_init_13 : decode cX0_init 13 = .ok (.iconst (-1), 1) := by decide +kernel
theorem dX0_init_14 : decode cX0_init 14 = .ok (.putfield 15, 3) := by decide +kernel
theorem dX0_init_17 : decode cX0_init 17 = .ok (.return_, 1) := by decide +kernel
theorem dX0_isText_0 : decode cX0_isText 0 = .ok (.bipush 24, 2) := by decide +kernel
theorem dX0_isText_2 : decode cX0_isText 2 = .ok (.istore_n 1, 1) := by decide +kernel
theorem dX0_isText_3 : decode cX0_isText 3 = .ok (.iload_n 1, 1) := by decide +kernel
theorem dX0_isText_4 : decode cX0_isText 4 = .ok (.ifCond .lt 35, 3) := by decide +kernel
theorem dX0_isText_7 : decode cX0_isText 7 = .ok (.iload_n 0, 1) := by decide +kernel
theorem dX0_isText_8 : decode cX0_isText 8 = .ok (.iload_n 1, 1) := by decide +kernel
theorem dX0_isText_9 : decode cX0_isText 9 = .ok (.ishr, 1) := by decide +kernel
theorem dX0_isText_10 : decode cX0_isText 10 = .ok (.sipush 255, 3) := by decide +kernel
theorem dX0_isText_13 : decode cX0_isText 13 = .ok (.iand, 1) := by decide +kernel
theorem dX0_isText_14 : decode cX0_isText 14 = .ok (.istore_n 2, 1) := by decide +kernel
theorem dX0_isText_15 : decode cX0_isText 15 = .ok (.iload_n 2, 1) := by decide +kernel
theorem dX0_isText_16 : decode cX0_isText 16 = .ok (.ifCond .eq 17, 3) := by decide +kernel
theorem dX0_isText_19 : decode cX0_isText 19 = .ok (.iload_n 2, 1) := by decide +kernel
theorem dX0_isText_20 : decode cX0_isText 20 = .ok (.bipush 33, 2) := by decide +kernel
theorem dX0_isText_22 : decode cX0_isText 22 = .ok (.if_icmp .lt 9, 3) := by decide +kernel
theorem dX0_isText_25 : decode cX0_isText 25 = .ok (.iload_n 2, 1) := by decide +kernel
theorem dX0_isText_26 : decode cX0_isText 26 = .ok (.bipush 126, 2) := by decide +kernel
theorem dX0_isText_28 : decode cX0_isText 28 = .ok (.if_icmp .le 5, 3) := by decide +kernel
theorem dX0_isText_31 : decode cX0_isText 31 = .ok (.iconst 0, 1) := by decide +kernel
theorem dX0_isText_32 : decode cX0_isText 32 = .ok (.ireturn, 1) := by decide +kernel
theorem dX0_isText_33 : decode cX0_isText 33 = .ok (.iinc 1 (-8), 3) := by decide +kernel
theorem dX0_isText_36 : decode cX0_isText 36 = .ok (.goto (-33), 3) := by decide +kernel
theorem dX0_isText_39 : decode cX0_isText 39 = .ok (.iconst 1, 1) := by decide +kernel
theorem dX0_isText_40 : decode cX0_isText 40 = .ok (.ireturn, 1) := by decide +kernel
theorem dX0_hasRoomFor_0 : decode cX0_hasRoomFor 0 = .ok (.iconst 0, 1) := by decide +kernel
theorem dX0_hasRoomFor_1 : decode cX0_hasRoomFor 1 = .ok (.istore_n 2, 1) := by decide +kernel
theorem dX0_hasRoomFor_2 : decode cX0_hasRoomFor 2 = .ok (.bipush 24, 2) := by decide +kernel
theorem dX0_hasRoomFor_4 : decode cX0_hasRoomFor 4 = .ok (.istore_n 3, 1) := by decide +kernel
theorem dX0_hasRoomFor_5 : decode cX0_hasRoomFor 5 = .ok (.iload_n 3, 1) := by decide +kernel
theorem dX0_hasRoomFor_6 : decode cX0_hasRoomFor 6 = .ok (.ifCond .lt 22, 3) := by decide +kernel
theorem dX0_hasRoomFor_9 : decode cX0_hasRoomFor 9 = .ok (.iload_n 1, 1) := by decide +kernel
theorem dX0_hasRoomFor_10 : decode cX0_hasRoomFor 10 = .ok (.iload_n 3, 1) := by decide +kernel
theorem dX0_hasRoomFor_11 : decode cX0_hasRoomFor 11 = .ok (.ishr, 1) := by decide +kernel
theorem dX0_hasRoomFor_12 : decode cX0_hasRoomFor 12 = .ok (.sipush 255, 3) := by decide +kernel
theorem dX0_hasRoomFor_15 : decode cX0_hasRoomFor 15 = .ok (.iand, 1) := by decide +kernel
theorem dX0_hasRoomFor_16 : decode cX0_hasRoomFor 16 = .ok (.ifCond .eq 6, 3) := by decide +kernel
theorem dX0_hasRoomFor_19 : decode cX0_hasRoomFor 19 = .ok (.iinc 2 1, 3) := by decide +kernel
theorem dX0_hasRoomFor_22 : decode cX0_hasRoomFor 22 = .ok (.iinc 3 (-8), 3) := by decide +kernel
theorem dX0_hasRoomFor_25 : decode cX0_hasRoomFor 25 = .ok (.goto (-20), 3) := by decide +kernel
theorem dX0_hasRoomFor_28 : decode cX0_hasRoomFor 28 = .ok (.aload_n 0, 1) := by decide +kernel
theorem dX0_hasRoomFor_29 : decode cX0_hasRoomFor 29 = .ok (.getfield 19, 3) := by decide +kernel
theorem dX0_hasRoomFor_32 : decode cX0_hasRoomFor 32 = .ok (.iload_n 2, 1) := by decide +kernel
theorem dX0_hasRoomFor_33 : decode cX0_hasRoomFor 33 = .ok (.iadd, 1) := by decide +kernel
theorem dX0_hasRoomFor_34 : decode cX0_hasRoomFor 34 = .ok (.bipush 40, 2) := by decide +kernel
theorem dX0_hasRoomFor_36 : decode cX0_hasRoomFor 36 = .ok (.if_icmp .gt 7, 3) := by decide +kernel
theorem dX0_hasRoomFor_39 : decode cX0_hasRoomFor 39 = .ok (.iconst 1, 1) := by decide +kernel
theorem dX0_hasRoomFor_40 : decode cX0_hasRoomFor 40 = .ok (.goto 4, 3) := by decide +kernel
theorem dX0_hasRoomFor_43 : decode cX0_hasRoomFor 43 = .ok (.iconst 0, 1) := by decide +kernel
theorem dX0_hasRoomFor_44 : decode cX0_hasRoomFor 44 = .ok (.ireturn, 1) := by decide +kernel
theorem dX0_add_0 : decode cX0_add 0 = .ok (.bipush 24, 2) := by decide +kernel
theorem dX0_add_2 : decode cX0_add 2 = .ok (.istore_n 2, 1) := by decide +kernel
theorem dX0_add_3 : decode cX0_add 3 = .ok (.iload_n 2, 1) := by decide +kernel
theorem dX0_add_4 : decode cX0_add 4 = .ok (.ifCond .lt 57, 3) := by decide +kernel
theorem dX0_add_7 : decode cX0_add 7 = .ok (.iload_n 1, 1) := by decide +kernel
theorem dX0_add_8 : decode cX0_add 8 = .ok (.iload_n 2, 1) := by decide +kernel
theorem dX0_add_9 : decode cX0_add 9 = .ok (.ishr, 1) := by decide +kernel
theorem dX0_add_10 : decode cX0_add 10 = .ok (.sipush 255, 3) := by decide +kernel
theorem dX0_add_13 : decode cX0_add 13 = .ok (.iand, 1) := by decide +kernel
theorem dX0_add_14 : decode cX0_add 14 = .ok (.istore_n 3, 1) := by decide +kernel
theorem dX0_add_15 : decode cX0_add 15 = .ok (.iload_n 3, 1) := by decide +kernel
theorem dX0_add_16 : decode cX0_add 16 = .ok (.ifCond .eq 39, 3) := by decide +kernel
theorem dX0_add_19 : decode cX0_add 19 = .ok (.aload_n 0, 1) := by decide +kernel
theorem dX0_add_20 : decode cX0_add 20 = .ok (.getfield 19, 3) := by decide +kernel
theorem dX0_add_23 : decode cX0_add 23 = .ok (.ifCond .lt 32, 3) := by decide +kernel
theorem dX0_add_26 : decode cX0_add 26 = .ok (.aload_n 0, 1) := by decide +kernel
theorem dX0_add_27 : decode cX0_add 27 = .ok (.getfield 19, 3) := by decide +kernel
theorem dX0_add_30 : decode cX0_add 30 = .ok (.bipush 40, 2) := by decide +kernel
theorem dX0_add_32 : decode cX0_add 32 = .ok (.if_icmp .ge 23, 3) := by decide +kernel
theorem dX0_add_35 : decode cX0_add 35 = .ok (.aload_n 0, 1) := by decide +kernel
theorem dX0_add_36 : decode cX0_add 36 = .ok (.getfield 9, 3) := by decide +kernel
theorem dX0_add_39 : decode cX0_add 39 = .ok (.aload_n 0, 1) := by decide +kernel
theorem dX0_add_40 : decode cX0_add 40 = .ok (.getfield 19, 3) := by decide +kernel
theorem dX0_add_43 : decode cX0_add 43 = .ok (.iload_n 3, 1) := by decide +kernel
theorem dX0_add_44 : decode cX0_add 44 = .ok (.iastore, 1) := by decide +kernel
theorem dX0_add_45 : decode cX0_add 45 = .ok (.aload_n 0, 1) := by decide +kernel
theorem dX0_add_46 : decode cX0_add 46 = .ok (.dup, 1) := by decide +kernel
theorem dX0_add_47 : decode cX0_add 47 = .ok (.getfield 19, 3) := by decide +kernel
theorem dX0_add_50 : decode cX0_add 50 = .ok (.iconst 1, 1) := by decide +kernel
theorem dX0_add_51 : decode cX0_add 51 = .ok (.iadd, 1) := by decide +kernel
theorem dX0_add_52 : decode cX0_add 52 = .ok (.putfield 19, 3) := by decide +kernel
theorem dX0_add_55 : decode cX0_add 55 = .ok (.iinc 2 (-8), 3) := by decide +kernel
theorem dX0_add_58 : decode cX0_add 58 = .ok (.goto (-55), 3) := by decide +kernel
theorem dX0_add_61 : decode cX0_add 61 = .ok (.aload_n 0, 1) := by decide +kernel
theorem dX0_add_62 : decode cX0_add 62 = .ok (.getfield 19, 3) := by decide +kernel
theorem dX0_add_65 : decode cX0_add 65 = .ok (.ireturn, 1) := by decide +kernel
theorem dX0_readEvent_0 : decode cX0_readEvent 0 = .ok (.aload_n 0, 1) := by decide +kernel
theorem dX0_readEvent_1 : decode cX0_readEvent 1 = .ok (.iconst 0, 1) := by decide +kernel
theorem dX0_readEvent_2 : decode cX0_readEvent 2 = .ok (.putfield 22, 3) := by decide +kernel
theorem dX0_readEvent_5 : decode cX0_readEvent 5 = .ok (.aload_n 0, 1) := by decide +kernel
theorem dX0_readEvent_6 : decode cX0_readEvent 6 = .ok (.invokevirtual 25, 3) := by decide +kernel
theorem dX0_readEvent_9 : decode cX0_readEvent 9 = .ok (.ifCond .eq 39, 3) := by decide +kernel
theorem dX0_readEvent_12 : decode cX0_readEvent 12 = .ok (.aload_n 0, 1) := by decide +kernel
theorem dX0_readEvent_13 : decode cX0_readEvent 13 = .ok (.invokevirtual 29, 3) := by decide +kernel
theorem dX0_readEvent_16 : decode cX0_readEvent 16 = .ok (.ifCond .eq 32, 3) := by decide +kernel
theorem dX0_readEvent_19 : decode cX0_readEvent 19 = .ok (.aload_n 0, 1) := by decide +kernel
theorem dX0_readEvent_20 : decode cX0_readEvent 20 = .ok (.invokevirtual 32, 3) := by decide +kernel
theorem dX0_readEvent_23 : decode cX0_readEvent 23 = .ok (.ifCond .eq 25, 3) := by decide +kernel
theorem dX0_readEvent_26 : decode cX0_readEvent 26 = .ok (.aload_n 0, 1) := by decide +kernel
theorem dX0_readEvent_27 : decode cX0_readEvent 27 = .ok (.invokevirtual 35, 3) := by decide +kernel
theorem dX0_readEvent_30 : decode cX0_readEvent 30 = .ok (.ifCond .eq 18, 3) := by decide +kernel
theorem dX0_readEvent_33 : decode cX0_readEvent 33 = .ok (.aload_n 0, 1) := by decide +kernel
theorem dX0_readEvent_34 : decode cX0_readEvent 34 = .ok (.getfield 22, 3) := by decide +kernel
theorem dX0_readEvent_37 : decode cX0_readEvent 37 = .ok (.aload_n 0, 1) := by decide +kernel
theorem dX0_readEvent_38 : decode cX0_readEvent 38 = .ok (.getfield 19, 3) := by decide +kernel
theorem dX0_readEvent_41 : decode cX0_readEvent 41 = .ok (.if_icmp .ne 7, 3) := by decide +kernel
theorem dX0_readEvent_44 : decode cX0_readEvent 44 = .ok (.iconst 1, 1) := by decide +kernel
theorem dX0_readEvent_45 : decode cX0_readEvent 45 = .ok (.goto 4, 3) := by decide +kernel
theorem dX0_readEvent_48 : decode cX0_readEvent 48 = .ok (.iconst 0, 1) := by decide +kernel
theorem dX0_readEvent_49 : decode cX0_readEvent 49 = .ok (.istore_n 1, 1) := by decide +kernel
theorem dX0_readEvent_50 : decode cX0_readEvent 50 = .ok (.aload_n 0, 1) := by decide +kernel
theorem dX0_readEvent_51 : decode cX0_readEvent 51 = .ok (.iload_n 1, 1) := by decide +kernel
theorem dX0_readEvent_52 : decode cX0_readEvent 52 = .ok (.ifCond .eq 7, 3) := by decide +kernel
theorem dX0_readEvent_55 : decode cX0_readEvent 55 = .ok (.iconst (-1), 1) := by decide +kernel
theorem dX0_readEvent_56 : decode cX0_readEvent 56 = .ok (.goto 7, 3) := by decide +kernel
theorem dX0_readEvent_59 : decode cX0_readEvent 59 = .ok (.aload_n 0, 1) := by decide +kernel
theorem dX0_readEvent_60 : decode cX0_readEvent 60 = .ok (.getfield 22, 3) := by decide +kernel
theorem dX0_readEvent_63 : decode cX0_readEvent 63 = .ok (.putfield 15, 3) := by decide +kernel
theorem dX0_readEvent_66 : decode cX0_readEvent 66 = .ok (.aload_n 0, 1) := by decide +kernel
theorem dX0_readEvent_67 : decode cX0_readEvent 67 = .ok (.iconst 0, 1) := by decide +kernel
theorem dX0_readEvent_68 : decode cX0_readEvent 68 = .ok (.putfield 19, 3) := by decide +kernel
theorem dX0_readEvent_71 : decode cX0_readEvent 71 = .ok (.iload_n 1, 1) := by decide +kernel
theorem dX0_readEvent_72 : decode cX0_readEvent 72 = .ok (.ireturn, 1) := by decide +kernel
theorem dX0_readTeacher_0 : decode cX0_readTeacher 0 = .ok (.aload_n 0, 1) := by decide +kernel
theorem dX0_readTeacher_1 : decode cX0_readTeacher 1 = .ok (.aload_n 0, 1) := by decide +kernel
theorem dX0_readTeacher_2 : decode cX0_readTeacher 2 = .ok (.invokevirtual 38, 3) := by decide +kernel
theorem dX0_readTeacher_5 : decode cX0_readTeacher 5 = .ok (.putfield 42, 3) := by decide +kernel
theorem dX0_readTeacher_8 : decode cX0_readTeacher 8 = .ok (.aload_n 0, 1) := by decide +kernel
theorem dX0_readTeacher_9 : decode cX0_readTeacher 9 = .ok (.getfield 42, 3) := by decide +kernel
theorem dX0_readTeacher_12 : decode cX0_readTeacher 12 = .ok (.ifCond .lt 12, 3) := by decide +kernel
theorem dX0_readTeacher_15 : decode cX0_readTeacher 15 = .ok (.aload_n 0, 1) := by decide +kernel
theorem dX0_readTeacher_16 : decode cX0_readTeacher 16 = .ok (.getfield 42, 3) := by decide +kernel
theorem dX0_readTeacher_19 : decode cX0_readTeacher 19 = .ok (.bipush 6, 2) := by decide +kernel
theorem dX0_readTeacher_21 : decode cX0_readTeacher 21 = .ok (.if_icmp .lt 5, 3) := by decide +kernel
theorem dX0_readTeacher_24 : decode cX0_readTeacher 24 = .ok (.iconst 0, 1) := by decide +kernel
theorem dX0_readTeacher_25 : decode cX0_readTeacher 25 = .ok (.ireturn, 1) := by decide +kernel
theorem dX0_readTeacher_26 : decode cX0_readTeacher 26 = .ok (.aload_n 0, 1) := by decide +kernel
theorem dX0_readTeacher_27 : decode cX0_readTeacher 27 = .ok (.dup, 1) := by decide +kernel
theorem dX0_readTeacher_28 : decode cX0_readTeacher 28 = .ok (.getfield 22, 3) := by decide +kernel
theorem dX0_readTeacher_31 : decode cX0_readTeacher 31 = .ok (.iconst 1, 1) := by decide +kernel
theorem dX0_readTeacher_32 : decode cX0_readTeacher 32 = .ok (.iadd, 1) := by decide +kernel
theorem dX0_readTeacher_33 : decode cX0_readTeacher 33 = .ok (.putfield 22, 3) := by decide +kernel
theorem dX0_readTeacher_36 : decode cX0_readTeacher 36 = .ok (.aload_n 0, 1) := by decide +kernel
theorem dX0_readTeacher_37 : decode cX0_readTeacher 37 = .ok (.bipush 58, 2) := by decide +kernel
theorem dX0_readTeacher_39 : decode cX0_readTeacher 39 = .ok (.invokevirtual 45, 3) := by decide +kernel
theorem dX0_readTeacher_42 : decode cX0_readTeacher 42 = .ok (.ireturn, 1) := by decide +kernel
theorem dX0_readGroups_0 : decode cX0_readGroups 0 = .ok (.aload_n 0, 1) := by decide +kernel
theorem dX0_readGroups_1 : decode cX0_readGroups 1 = .ok (.iconst 0, 1) := by decide +kernel
theorem dX0_readGroups_2 : decode cX0_readGroups 2 = .ok (.putfield 49, 3) := by decide +kernel
theorem dX0_readGroups_5 : decode cX0_readGroups 5 = .ok (.iconst (-1), 1) := by decide +kernel
theorem dX0_readGroups_6 : decode cX0_readGroups 6 = .ok (.istore_n 1, 1) := by decide +kernel
theorem dX0_readGroups_7 : decode cX0_readGroups 7 = .ok (.iconst 0, 1) := by decide +kernel
theorem dX0_readGroups_8 : decode cX0_readGroups 8 = .ok (.istore_n 2, 1) := by decide +kernel
theorem dX0_readGroups_9 : decode cX0_readGroups 9 = .ok (.iload_n 2, 1) := by decide +kernel
theorem dX0_readGroups_10 : decode cX0_readGroups 10 = .ok (.bipush 6, 2) := by decide +kernel
theorem dX0_readGroups_12 : decode cX0_readGroups 12 = .ok (.if_icmp .ge 62, 3) := by decide +kernel
theorem dX0_readGroups_15 : decode cX0_readGroups 15 = .ok (.aload_n 0, 1) := by decide +kernel
theorem dX0_readGroups_16 : decode cX0_readGroups 16 = .ok (.invokevirtual 38, 3) := by decide +kernel
theorem dX0_readGroups_19 : decode cX0_readGroups 19 = .ok (.istore_n 3, 1) := by decide +kernel
theorem dX0_readGroups_20 : decode cX0_readGroups 20 = .ok (.iload_n 3, 1) := by decide +kernel
theorem dX0_readGroups_21 : decode cX0_readGroups 21 = .ok (.iload_n 1, 1) := by decide +kernel
theorem dX0_readGroups_22 : decode cX0_readGroups 22 = .ok (.if_icmp .le 9, 3) := by decide +kernel
theorem dX0_readGroups_25 : decode cX0_readGroups 25 = .ok (.iload_n 3, 1) := by decide +kernel
theorem dX0_readGroups_26 : decode cX0_readGroups 26 = .ok (.bipush 6, 2) := by decide +kernel
theorem dX0_readGroups_28 : decode cX0_readGroups 28 = .ok (.if_icmp .lt 5, 3) := by decide +kernel
theorem dX0_readGroups_31 : decode cX0_readGroups 31 = .ok (.iconst 0, 1) := by decide +kernel
theorem dX0_readGroups_32 : decode cX0_readGroups 32 = .ok (.ireturn, 1) := by decide +kernel
theorem dX0_readGroups_33 : decode cX0_readGroups 33 = .ok (.aload_n 0, 1) := by decide +kernel
theorem dX0_readGroups_34 : decode cX0_readGroups 34 = .ok (.dup, 1) := by decide +kernel
theorem dX0_readGroups_35 : decode cX0_readGroups 35 = .ok (.getfield 49, 3) := by decide +kernel
theorem dX0_readGroups_38 : decode cX0_readGroups 38 = .ok (.iconst 1, 1) := by decide +kernel
theorem dX0_readGroups_39 : decode cX0_readGroups 39 = .ok (.iload_n 3, 1) := by decide +kernel
theorem dX0_readGroups_40 : decode cX0_readGroups 40 = .ok (.ishl, 1) := by decide +kernel
theorem dX0_readGroups_41 : decode cX0_readGroups 41 = .ok (.ior, 1) := by decide +kernel
theorem dX0_readGroups_42 : decode cX0_readGroups 42 = .ok (.putfield 49, 3) := by decide +kernel
theorem dX0_readGroups_45 : decode cX0_readGroups 45 = .ok (.iload_n 3, 1) := by decide +kernel
theorem dX0_readGroups_46 : decode cX0_readGroups 46 = .ok (.istore_n 1, 1) := by decide +kernel
theorem dX0_readGroups_47 : decode cX0_readGroups 47 = .ok (.aload_n 0, 1) := by decide +kernel
theorem dX0_readGroups_48 : decode cX0_readGroups 48 = .ok (.dup, 1) := by decide +kernel
theorem dX0_readGroups_49 : decode cX0_readGroups 49 = .ok (.getfield 22, 3) := by decide +kernel
theorem dX0_readGroups_52 : decode cX0_readGroups 52 = .ok (.iconst 1, 1) := by decide +kernel
theorem dX0_readGroups_53 : decode cX0_readGroups 53 = .ok (.iadd, 1) := by decide +kernel
theorem dX0_readGroups_54 : decode cX0_readGroups 54 = .ok (.putfield 22, 3) := by decide +kernel
theorem dX0_readGroups_57 : decode cX0_readGroups 57 = .ok (.aload_n 0, 1) := by decide +kernel
theorem dX0_readGroups_58 : decode cX0_readGroups 58 = .ok (.bipush 44, 2) := by decide +kernel
theorem dX0_readGroups_60 : decode cX0_readGroups 60 = .ok (.invokevirtual 45, 3) := by decide +kernel
theorem dX0_readGroups_63 : decode cX0_readGroups 63 = .ok (.ifCond .ne 5, 3) := by decide +kernel
theorem dX0_readGroups_66 : decode cX0_readGroups 66 = .ok (.iconst 1, 1) := by decide +kernel
theorem dX0_readGroups_67 : decode cX0_readGroups 67 = .ok (.ireturn, 1) := by decide +kernel
theorem dX0_readGroups_68 : decode cX0_readGroups 68 = .ok (.iinc 2 1, 3) := by decide +kernel
theorem dX0_readGroups_71 : decode cX0_readGroups 71 = .ok (.goto (-62), 3) := by decide +kernel
theorem dX0_readGroups_74 : decode cX0_readGroups 74 = .ok (.iconst 0, 1) := by decide +kernel
theorem dX0_readGroups_75 : decode cX0_readGroups 75 = .ok (.ireturn, 1) := by decide +kernel
theorem dX0_readNeeds_0 : decode cX0_readNeeds 0 = .ok (.aload_n 0, 1) := by decide +kernel
theorem dX0_readNeeds_1 : decode cX0_readNeeds 1 = .ok (.iconst 0, 1) := by decide +kernel
theorem dX0_readNeeds_2 : decode cX0_readNeeds 2 = .ok (.putfield 52, 3) := by decide +kernel
theorem dX0_readNeeds_5 : decode cX0_readNeeds 5 = .ok (.aload_n 0, 1) := by decide +kernel
theorem dX0_readNeeds_6 : decode cX0_readNeeds 6 = .ok (.bipush 47, 2) := by decide +kernel
theorem dX0_readNeeds_8 : decode cX0_readNeeds 8 = .ok (.invokevirtual 45, 3) := by decide +kernel
theorem dX0_readNeeds_11 : decode cX0_readNeeds 11 = .ok (.ifCond .ne 5, 3) := by decide +kernel
theorem dX0_readNeeds_14 : decode cX0_readNeeds 14 = .ok (.iconst 1, 1) := by decide +kernel
theorem dX0_readNeeds_15 : decode cX0_readNeeds 15 = .ok (.ireturn, 1) := by decide +kernel
theorem dX0_readNeeds_16 : decode cX0_readNeeds 16 = .ok (.aload_n 0, 1) := by decide +kernel
theorem dX0_readNeeds_17 : decode cX0_readNeeds 17 = .ok (.getfield 22, 3) := by decide +kernel
theorem dX0_readNeeds_20 : decode cX0_readNeeds 20 = .ok (.istore_n 1, 1) := by decide +kernel
theorem dX0_readNeeds_21 : decode cX0_readNeeds 21 = .ok (.aload_n 0, 1) := by decide +kernel
theorem dX0_readNeeds_22 : decode cX0_readNeeds 22 = .ok (.invokevirtual 38, 3) := by decide +kernel
theorem dX0_readNeeds_25 : decode cX0_readNeeds 25 = .ok (.istore_n 2, 1) := by decide +kernel
theorem dX0_readNeeds_26 : decode cX0_readNeeds 26 = .ok (.iload_n 2, 1) := by decide +kernel
theorem dX0_readNeeds_27 : decode cX0_readNeeds 27 = .ok (.ifCond .ge 5, 3) := by decide +kernel
theorem dX0_readNeeds_30 : decode cX0_readNeeds 30 = .ok (.iconst 0, 1) := by decide +kernel
theorem dX0_readNeeds_31 : decode cX0_readNeeds 31 = .ok (.ireturn, 1) := by decide +kernel
theorem dX0_readNeeds_32 : decode cX0_readNeeds 32 = .ok (.aload_n 0, 1) := by decide +kernel
theorem dX0_readNeeds_33 : decode cX0_readNeeds 33 = .ok (.dup, 1) := by decide +kernel
theorem dX0_readNeeds_34 : decode cX0_readNeeds 34 = .ok (.getfield 22, 3) := by decide +kernel
theorem dX0_readNeeds_37 : decode cX0_readNeeds 37 = .ok (.iconst 1, 1) := by decide +kernel
theorem dX0_readNeeds_38 : decode cX0_readNeeds 38 = .ok (.iadd, 1) := by decide +kernel
theorem dX0_readNeeds_39 : decode cX0_readNeeds 39 = .ok (.putfield 22, 3) := by decide +kernel
theorem dX0_readNeeds_42 : decode cX0_readNeeds 42 = .ok (.aload_n 0, 1) := by decide +kernel
theorem dX0_readNeeds_43 : decode cX0_readNeeds 43 = .ok (.invokevirtual 38, 3) := by decide +kernel
theorem dX0_readNeeds_46 : decode cX0_readNeeds 46 = .ok (.istore_n 3, 1) := by decide +kernel
theorem dX0_readNeeds_47 : decode cX0_readNeeds 47 = .ok (.iload_n 2, 1) := by decide +kernel
theorem dX0_readNeeds_48 : decode cX0_readNeeds 48 = .ok (.ifCond .le 24, 3) := by decide +kernel
theorem dX0_readNeeds_51 : decode cX0_readNeeds 51 = .ok (.iload_n 3, 1) := by decide +kernel
theorem dX0_readNeeds_52 : decode cX0_readNeeds 52 = .ok (.ifCond .lt 20, 3) := by decide +kernel
theorem dX0_readNeeds_55 : decode cX0_readNeeds 55 = .ok (.bipush 10, 2) := by decide +kernel
theorem dX0_readNeeds_57 : decode cX0_readNeeds 57 = .ok (.iload_n 2, 1) := by decide +kernel
theorem dX0_readNeeds_58 : decode cX0_readNeeds 58 = .ok (.imul, 1) := by decide +kernel
theorem dX0_readNeeds_59 : decode cX0_readNeeds 59 = .ok (.iload_n 3, 1) := by decide +kernel
theorem dX0_readNeeds_60 : decode cX0_readNeeds 60 = .ok (.iadd, 1) := by decide +kernel
theorem dX0_readNeeds_61 : decode cX0_readNeeds 61 = .ok (.istore_n 2, 1) := by decide +kernel
theorem dX0_readNeeds_62 : decode cX0_readNeeds 62 = .ok (.aload_n 0, 1) := by decide +kernel
theorem dX0_readNeeds_63 : decode cX0_readNeeds 63 = .ok (.dup, 1) := by decide +kernel
theorem dX0_readNeeds_64 : decode cX0_readNeeds 64 = .ok (.getfield 22, 3) := by decide +kernel
theorem dX0_readNeeds_67 : decode cX0_readNeeds 67 = .ok (.iconst 1, 1) := by decide +kernel
theorem dX0_readNeeds_68 : decode cX0_readNeeds 68 = .ok (.iadd, 1) := by decide +kernel
theorem dX0_readNeeds_69 : decode cX0_readNeeds 69 = .ok (.putfield 22, 3) := by decide +kernel
theorem dX0_readNeeds_72 : decode cX0_readNeeds 72 = .ok (.iload_n 2, 1) := by decide +kernel
theorem dX0_readNeeds_73 : decode cX0_readNeeds 73 = .ok (.bipush 15, 2) := by decide +kernel
theorem dX0_readNeeds_75 : decode cX0_readNeeds 75 = .ok (.if_icmp .le 10, 3) := by decide +kernel
theorem dX0_readNeeds_78 : decode cX0_readNeeds 78 = .ok (.aload_n 0, 1) := by decide +kernel
theorem dX0_readNeeds_79 : decode cX0_readNeeds 79 = .ok (.iload_n 1, 1) := by decide +kernel
theorem dX0_readNeeds_80 : decode cX0_readNeeds 80 = .ok (.putfield 22, 3) := by decide +kernel
theorem dX0_readNeeds_83 : decode cX0_readNeeds 83 = .ok (.iconst 0, 1) := by decide +kernel
theorem dX0_readNeeds_84 : decode cX0_readNeeds 84 = .ok (.ireturn, 1) := by decide +kernel
theorem dX0_readNeeds_85 : decode cX0_readNeeds 85 = .ok (.aload_n 0, 1) := by decide +kernel
theorem dX0_readNeeds_86 : decode cX0_readNeeds 86 = .ok (.iload_n 2, 1) := by decide +kernel
theorem dX0_readNeeds_87 : decode cX0_readNeeds 87 = .ok (.putfield 52, 3) := by decide +kernel
theorem dX0_readNeeds_90 : decode cX0_readNeeds 90 = .ok (.iconst 1, 1) := by decide +kernel
theorem dX0_readNeeds_91 : decode cX0_readNeeds 91 = .ok (.ireturn, 1) := by decide +kernel
theorem dX0_readLength_0 : decode cX0_readLength 0 = .ok (.aload_n 0, 1) := by decide +kernel
theorem dX0_readLength_1 : decode cX0_readLength 1 = .ok (.iconst 1, 1) := by decide +kernel
theorem dX0_readLength_2 : decode cX0_readLength 2 = .ok (.putfield 55, 3) := by decide +kernel
theorem dX0_readLength_5 : decode cX0_readLength 5 = .ok (.aload_n 0, 1) := by decide +kernel
theorem dX0_readLength_6 : decode cX0_readLength 6 = .ok (.bipush 42, 2) := by decide +kernel
theorem dX0_readLength_8 : decode cX0_readLength 8 = .ok (.invokevirtual 45, 3) := by decide +kernel
theorem dX0_readLength_11 : decode cX0_readLength 11 = .ok (.ifCond .ne 5, 3) := by decide +kernel
theorem dX0_readLength_14 : decode cX0_readLength 14 = .ok (.iconst 1, 1) := by decide +kernel
theorem dX0_readLength_15 : decode cX0_readLength 15 = .ok (.ireturn, 1) := by decide +kernel
theorem dX0_readLength_16 : decode cX0_readLength 16 = .ok (.aload_n 0, 1) := by decide +kernel
theorem dX0_readLength_17 : decode cX0_readLength 17 = .ok (.invokevirtual 38, 3) := by decide +kernel
theorem dX0_readLength_20 : decode cX0_readLength 20 = .ok (.istore_n 1, 1) := by decide +kernel
theorem dX0_readLength_21 : decode cX0_readLength 21 = .ok (.iload_n 1, 1) := by decide +kernel
theorem dX0_readLength_22 : decode cX0_readLength 22 = .ok (.iconst 1, 1) := by decide +kernel
theorem dX0_readLength_23 : decode cX0_readLength 23 = .ok (.if_icmp .eq 10, 3) := by decide +kernel
theorem dX0_readLength_26 : decode cX0_readLength 26 = .ok (.iload_n 1, 1) := by decide +kernel
theorem dX0_readLength_27 : decode cX0_readLength 27 = .ok (.iconst 2, 1) := by decide +kernel
theorem dX0_readLength_28 : decode cX0_readLength 28 = .ok (.if_icmp .eq 5, 3) := by decide +kernel
theorem dX0_readLength_31 : decode cX0_readLength 31 = .ok (.iconst 0, 1) := by decide +kernel
theorem dX0_readLength_32 : decode cX0_readLength 32 = .ok (.ireturn, 1) := by decide +kernel
theorem dX0_readLength_33 : decode cX0_readLength 33 = .ok (.aload_n 0, 1) := by decide +kernel
theorem dX0_readLength_34 : decode cX0_readLength 34 = .ok (.iload_n 1, 1) := by decide +kernel
theorem dX0_readLength_35 : decode cX0_readLength 35 = .ok (.putfield 55, 3) := by decide +kernel
theorem dX0_readLength_38 : decode cX0_readLength 38 = .ok (.aload_n 0, 1) := by decide +kernel
theorem dX0_readLength_39 : decode cX0_readLength 39 = .ok (.dup, 1) := by decide +kernel
theorem dX0_readLength_40 : decode cX0_readLength 40 = .ok (.getfield 22, 3) := by decide +kernel
theorem dX0_readLength_43 : decode cX0_readLength 43 = .ok (.iconst 1, 1) := by decide +kernel
theorem dX0_readLength_44 : decode cX0_readLength 44 = .ok (.iadd, 1) := by decide +kernel
theorem dX0_readLength_45 : decode cX0_readLength 45 = .ok (.putfield 22, 3) := by decide +kernel
theorem dX0_readLength_48 : decode cX0_readLength 48 = .ok (.iconst 1, 1) := by decide +kernel
theorem dX0_readLength_49 : decode cX0_readLength 49 = .ok (.ireturn, 1) := by decide +kernel
theorem dX0_sign_0 : decode cX0_sign 0 = .ok (.aload_n 0, 1) := by decide +kernel
theorem dX0_sign_1 : decode cX0_sign 1 = .ok (.getfield 22, 3) := by decide +kernel
theorem dX0_sign_4 : decode cX0_sign 4 = .ok (.ifCond .lt 35, 3) := by decide +kernel
theorem dX0_sign_7 : decode cX0_sign 7 = .ok (.aload_n 0, 1) := by decide +kernel
theorem dX0_sign_8 : decode cX0_sign 8 = .ok (.getfield 22, 3) := by decide +kernel
theorem dX0_sign_11 : decode cX0_sign 11 = .ok (.bipush 40, 2) := by decide +kernel
theorem dX0_sign_13 : decode cX0_sign 13 = .ok (.if_icmp .ge 26, 3) := by decide +kernel
theorem dX0_sign_16 : decode cX0_sign 16 = .ok (.aload_n 0, 1) := by decide +kernel
theorem dX0_sign_17 : decode cX0_sign 17 = .ok (.getfield 22, 3) := by decide +kernel
theorem dX0_sign_20 : decode cX0_sign 20 = .ok (.aload_n 0, 1) := by decide +kernel
theorem dX0_sign_21 : decode cX0_sign 21 = .ok (.getfield 19, 3) := by decide +kernel
theorem dX0_sign_24 : decode cX0_sign 24 = .ok (.if_icmp .ge 15, 3) := by decide +kernel
theorem dX0_sign_27 : decode cX0_sign 27 = .ok (.aload_n 0, 1) := by decide +kernel
theorem dX0_sign_28 : decode cX0_sign 28 = .ok (.getfield 9, 3) := by decide +kernel
theorem dX0_sign_31 : decode cX0_sign 31 = .ok (.aload_n 0, 1) := by decide +kernel
theorem dX0_sign_32 : decode cX0_sign 32 = .ok (.getfield 22, 3) := by decide +kernel
theorem dX0_sign_35 : decode cX0_sign 35 = .ok (.iaload, 1) := by decide +kernel
theorem dX0_sign_36 : decode cX0_sign 36 = .ok (.goto 4, 3) := by decide +kernel
theorem dX0_sign_39 : decode cX0_sign 39 = .ok (.iconst 0, 1) := by decide +kernel
theorem dX0_sign_40 : decode cX0_sign 40 = .ok (.ireturn, 1) := by decide +kernel
theorem dX0_digit_0 : decode cX0_digit 0 = .ok (.aload_n 0, 1) := by decide +kernel
theorem dX0_digit_1 : decode cX0_digit 1 = .ok (.invokevirtual 58, 3) := by decide +kernel
theorem dX0_digit_4 : decode cX0_digit 4 = .ok (.bipush 48, 2) := by decide +kernel
theorem dX0_digit_6 : decode cX0_digit 6 = .ok (.isub, 1) := by decide +kernel
theorem dX0_digit_7 : decode cX0_digit 7 = .ok (.istore_n 1, 1) := by decide +kernel
theorem dX0_digit_8 : decode cX0_digit 8 = .ok (.iload_n 1, 1) := by decide +kernel
theorem dX0_digit_9 : decode cX0_digit 9 = .ok (.ifCond .lt 13, 3) := by decide +kernel
theorem dX0_digit_12 : decode cX0_digit 12 = .ok (.iload_n 1, 1) := by decide +kernel
theorem dX0_digit_13 : decode cX0_digit 13 = .ok (.bipush 9, 2) := by decide +kernel
theorem dX0_digit_15 : decode cX0_digit 15 = .ok (.if_icmp .gt 7, 3) := by decide +kernel
theorem dX0_digit_18 : decode cX0_digit 18 = .ok (.iload_n 1, 1) := by decide +kernel
theorem dX0_digit_19 : decode cX0_digit 19 = .ok (.goto 4, 3) := by decide +kernel
theorem dX0_digit_22 : decode cX0_digit 22 = .ok (.iconst (-1), 1) := by decide +kernel
theorem dX0_digit_23 : decode cX0_digit 23 = .ok (.ireturn, 1) := by decide +kernel
theorem dX0_skip_0 : decode cX0_skip 0 = .ok (.aload_n 0, 1) := by decide +kernel
theorem dX0_skip_1 : decode cX0_skip 1 = .ok (.invokevirtual 58, 3) := by decide +kernel
theorem dX0_skip_4 : decode cX0_skip 4 = .ok (.iload_n 1, 1) := by decide +kernel
theorem dX0_skip_5 : decode cX0_skip 5 = .ok (.if_icmp .eq 5, 3) := by decide +kernel
theorem dX0_skip_8 : decode cX0_skip 8 = .ok (.iconst 0, 1) := by decide +kernel
theorem dX0_skip_9 : decode cX0_skip 9 = .ok (.ireturn, 1) := by decide +kernel
theorem dX0_skip_10 : decode cX0_skip 10 = .ok (.aload_n 0, 1) := by decide +kernel
theorem dX0_skip_11 : decode cX0_skip 11 = .ok (.dup, 1) := by decide +kernel
theorem dX0_skip_12 : decode cX0_skip 12 = .ok (.getfield 22, 3) := by decide +kernel
theorem dX0_skip_15 : decode cX0_skip 15 = .ok (.iconst 1, 1) := by decide +kernel
theorem dX0_skip_16 : decode cX0_skip 16 = .ok (.iadd, 1) := by decide +kernel
theorem dX0_skip_17 : decode cX0_skip 17 = .ok (.putfield 22, 3) := by decide +kernel
theorem dX0_skip_20 : decode cX0_skip 20 = .ok (.iconst 1, 1) := by decide +kernel
theorem dX0_skip_21 : decode cX0_skip 21 = .ok (.ireturn, 1) := by decide +kernel
theorem dX1_init_0 : decode cX1_init 0 = .ok (.aload_n 0, 1) := by decide +kernel
theorem dX1_init_1 : decode cX1_init 1 = .ok (.invokespecial 3, 3) := by decide +kernel
theorem dX1_init_4 : decode cX1_init 4 = .ok (.aload_n 0, 1) := by decide +kernel
theorem dX1_init_5 : decode cX1_init 5 = .ok (.bipush 7, 2) := by decide +kernel
theorem dX1_init_7 : decode cX1_init 7 = .ok (.anewarray 9, 3) := by decide +kernel
theorem dX1_init_10 : decode cX1_init 10 = .ok (.putfield 11, 3) := by decide +kernel
theorem dX1_init_13 : decode cX1_init 13 = .ok (.iconst 0, 1) := by decide +kernel
theorem dX1_init_14 : decode cX1_init 14 = .ok (.istore_n 1, 1) := by decide +kernel
theorem dX1_init_15 : decode cX1_init 15 = .ok (.iload_n 1, 1) := by decide +kernel
theorem dX1_init_16 : decode cX1_init 16 = .ok (.aload_n 0, 1) := by decide +kernel
theorem dX1_init_17 : decode cX1_init 17 = .ok (.getfield 11, 3) := by decide +kernel
theorem dX1_init_20 : decode cX1_init 20 = .ok (.arraylength, 1) := by decide +kernel
theorem dX1_init_21 : decode cX1_init 21 = .ok (.if_icmp .ge 22, 3) := by decide +kernel
theorem dX1_init_24 : decode cX1_init 24 = .ok (.aload_n 0, 1) := by decide +kernel
theorem dX1_init_25 : decode cX1_init 25 = .ok (.getfield 11, 3) := by decide +kernel
theorem dX1_init_28 : decode cX1_init 28 = .ok (.iload_n 1, 1) := by decide +kernel
theorem dX1_init_29 : decode cX1_init 29 = .ok (.new 9, 3) := by decide +kernel
theorem dX1_init_32 : decode cX1_init 32 = .ok (.dup, 1) := by decide +kernel
theorem dX1_init_33 : decode cX1_init 33 = .ok (.invokespecial 17, 3) := by decide +kernel
theorem dX1_init_36 : decode cX1_init 36 = .ok (.aastore, 1) := by decide +kernel
theorem dX1_init_37 : decode cX1_init 37 = .ok (.iinc 1 1, 3) := by decide +kernel
theorem dX1_init_40 : decode cX1_init 40 = .ok (.goto (-25), 3) := by decide +kernel
theorem dX1_init_43 : decode cX1_init 43 = .ok (.return_, 1) := by decide +kernel
theorem dX1_keep_0 : decode cX1_keep 0 = .ok (.aload_n 0, 1) := by decide +kernel
theorem dX1_keep_1 : decode cX1_keep 1 = .ok (.aload_n 1, 1) := by decide +kernel
theorem dX1_keep_2 : decode cX1_keep 2 = .ok (.invokevirtual 18, 3) := by decide +kernel
theorem dX1_keep_5 : decode cX1_keep 5 = .ok (.aload_n 0, 1) := by decide +kernel
theorem dX1_keep_6 : decode cX1_keep 6 = .ok (.invokevirtual 22, 3) := by decide +kernel
theorem dX1_keep_9 : decode cX1_keep 9 = .ok (.return_, 1) := by decide +kernel
theorem dX1_note_0 : decode cX1_note 0 = .ok (.aload_n 0, 1) := by decide +kernel
theorem dX1_note_1 : decode cX1_note 1 = .ok (.invokevirtual 25, 3) := by decide +kernel
theorem dX1_note_4 : decode cX1_note 4 = .ok (.astore_n 2, 1) := by decide +kernel
theorem dX1_note_5 : decode cX1_note 5 = .ok (.aload_n 2, 1) := by decide +kernel
theorem dX1_note_6 : decode cX1_note 6 = .ok (.ifnull 8, 3) := by decide +kernel
theorem dX1_note_9 : decode cX1_note 9 = .ok (.aload_n 2, 1) := by decide +kernel
theorem dX1_note_10 : decode cX1_note 10 = .ok (.aload_n 1, 1) := by decide +kernel
theorem dX1_note_11 : decode cX1_note 11 = .ok (.invokevirtual 29, 3) := by decide +kernel
theorem dX1_note_14 : decode cX1_note 14 = .ok (.return_, 1) := by decide +kernel
theorem dX1_keepNoted_0 : decode cX1_keepNoted 0 = .ok (.aload_n 0, 1) := by decide +kernel
theorem dX1_keepNoted_1 : decode cX1_keepNoted 1 = .ok (.aload_n 0, 1) := by decide +kernel
theorem dX1_keepNoted_2 : decode cX1_keepNoted 2 = .ok (.getfield 32, 3) := by decide +kernel
theorem dX1_keepNoted_5 : decode cX1_keepNoted 5 = .ok (.bipush 6, 2) := by decide +kernel
theorem dX1_keepNoted_7 : decode cX1_keepNoted 7 = .ok (.if_icmp .ge 12, 3) := by decide +kernel
theorem dX1_keepNoted_10 : decode cX1_keepNoted 10 = .ok (.aload_n 0, 1) := by decide +kernel
theorem dX1_keepNoted_11 : decode cX1_keepNoted 11 = .ok (.getfield 32, 3) := by decide +kernel
theorem dX1_keepNoted_14 : decode cX1_keepNoted 14 = .ok (.iconst 1, 1) := by decide +kernel
theorem dX1_keepNoted_15 : decode cX1_keepNoted 15 = .ok (.iadd, 1) := by decide +kernel
theorem dX1_keepNoted_16 : decode cX1_keepNoted 16 = .ok (.goto 4, 3) := by decide +kernel
theorem dX1_keepNoted_19 : decode cX1_keepNoted 19 = .ok (.iconst 0, 1) := by decide +kernel
theorem dX1_keepNoted_20 : decode cX1_keepNoted 20 = .ok (.putfield 32, 3) := by decide +kernel
theorem dX1_keepNoted_23 : decode cX1_keepNoted 23 = .ok (.aload_n 0, 1) := by decide +kernel
theorem dX1_keepNoted_24 : decode cX1_keepNoted 24 = .ok (.aload_n 0, 1) := by decide +kernel
theorem dX1_keepNoted_25 : decode cX1_keepNoted 25 = .ok (.getfield 36, 3) := by decide +kernel
theorem dX1_keepNoted_28 : decode cX1_keepNoted 28 = .ok (.iconst 1, 1) := by decide +kernel
theorem dX1_keepNoted_29 : decode cX1_keepNoted 29 = .ok (.iadd, 1) := by decide +kernel
theorem dX1_keepNoted_30 : decode cX1_keepNoted 30 = .ok (.bipush 6, 2) := by decide +kernel
theorem dX1_keepNoted_32 : decode cX1_keepNoted 32 = .ok (.invokestatic 39, 3) := by decide +kernel
theorem dX1_keepNoted_35 : decode cX1_keepNoted 35 = .ok (.putfield 36, 3) := by decide +kernel
theorem dX1_keepNoted_38 : decode cX1_keepNoted 38 = .ok (.return_, 1) := by decide +kernel
theorem dX1_takeBack_0 : decode cX1_takeBack 0 = .ok (.aload_n 0, 1) := by decide +kernel
theorem dX1_takeBack_1 : decode cX1_takeBack 1 = .ok (.aload_n 0, 1) := by decide +kernel
theorem dX1_takeBack_2 : decode cX1_takeBack 2 = .ok (.getfield 32, 3) := by decide +kernel
theorem dX1_takeBack_5 : decode cX1_takeBack 5 = .ok (.ifCond .le 12, 3) := by decide +kernel
theorem dX1_takeBack_8 : decode cX1_takeBack 8 = .ok (.aload_n 0, 1) := by decide +kernel
theorem dX1_takeBack_9 : decode cX1_takeBack 9 = .ok (.getfield 32, 3) := by decide +kernel
theorem dX1_takeBack_12 : decode cX1_takeBack 12 = .ok (.iconst 1, 1) := by decide +kernel
theorem dX1_takeBack_13 : decode cX1_takeBack 13 = .ok (.isub, 1) := by decide +kernel
theorem dX1_takeBack_14 : decode cX1_takeBack 14 = .ok (.goto 5, 3) := by decide +kernel
theorem dX1_takeBack_17 : decode cX1_takeBack 17 = .ok (.bipush 6, 2) := by decide +kernel
theorem dX1_takeBack_19 : decode cX1_takeBack 19 = .ok (.putfield 32, 3) := by decide +kernel
theorem dX1_takeBack_22 : decode cX1_takeBack 22 = .ok (.aload_n 0, 1) := by decide +kernel
theorem dX1_takeBack_23 : decode cX1_takeBack 23 = .ok (.aload_n 0, 1) := by decide +kernel
theorem dX1_takeBack_24 : decode cX1_takeBack 24 = .ok (.getfield 36, 3) := by decide +kernel
theorem dX1_takeBack_27 : decode cX1_takeBack 27 = .ok (.iconst 1, 1) := by decide +kernel
theorem dX1_takeBack_28 : decode cX1_takeBack 28 = .ok (.isub, 1) := by decide +kernel
theorem dX1_takeBack_29 : decode cX1_takeBack 29 = .ok (.iconst 0, 1) := by decide +kernel
theorem dX1_takeBack_30 : decode cX1_takeBack 30 = .ok (.invokestatic 45, 3) := by decide +kernel
theorem dX1_takeBack_33 : decode cX1_takeBack 33 = .ok (.putfield 36, 3) := by decide +kernel
theorem dX1_takeBack_36 : decode cX1_takeBack 36 = .ok (.aload_n 1, 1) := by decide +kernel
theorem dX1_takeBack_37 : decode cX1_takeBack 37 = .ok (.aload_n 0, 1) := by decide +kernel
theorem dX1_takeBack_38 : decode cX1_takeBack 38 = .ok (.invokevirtual 25, 3) := by decide +kernel
theorem dX1_takeBack_41 : decode cX1_takeBack 41 = .ok (.invokevirtual 29, 3) := by decide +kernel
theorem dX1_takeBack_44 : decode cX1_takeBack 44 = .ok (.return_, 1) := by decide +kernel
theorem dX1_nextRow_0 : decode cX1_nextRow 0 = .ok (.aload_n 0, 1) := by decide +kernel
theorem dX1_nextRow_1 : decode cX1_nextRow 1 = .ok (.getfield 32, 3) := by decide +kernel
theorem dX1_nextRow_4 : decode cX1_nextRow 4 = .ok (.ifCond .lt 27, 3) := by decide +kernel
theorem dX1_nextRow_7 : decode cX1_nextRow 7 = .ok (.aload_n 0, 1) := by decide +kernel
theorem dX1_nextRow_8 : decode cX1_nextRow 8 = .ok (.getfield 32, 3) := by decide +kernel
theorem dX1_nextRow_11 : decode cX1_nextRow 11 = .ok (.aload_n 0, 1) := by decide +kernel
theorem dX1_nextRow_12 : decode cX1_nextRow 12 = .ok (.getfield 11, 3) := by decide +kernel
theorem dX1_nextRow_15 : decode cX1_nextRow 15 = .ok (.arraylength, 1) := by decide +kernel
theorem dX1_nextRow_16 : decode cX1_nextRow 16 = .ok (.if_icmp .ge 15, 3) := by decide +kernel
theorem dX1_nextRow_19 : decode cX1_nextRow 19 = .ok (.aload_n 0, 1) := by decide +kernel
theorem dX1_nextRow_20 : decode cX1_nextRow 20 = .ok (.getfield 11, 3) := by decide +kernel
theorem dX1_nextRow_23 : decode cX1_nextRow 23 = .ok (.aload_n 0, 1) := by decide +kernel
theorem dX1_nextRow_24 : decode cX1_nextRow 24 = .ok (.getfield 32, 3) := by decide +kernel
theorem dX1_nextRow_27 : decode cX1_nextRow 27 = .ok (.aaload, 1) := by decide +kernel
theorem dX1_nextRow_28 : decode cX1_nextRow 28 = .ok (.goto 4, 3) := by decide +kernel
theorem dX1_nextRow_31 : decode cX1_nextRow 31 = .ok (.aconst_null, 1) := by decide +kernel
theorem dX1_nextRow_32 : decode cX1_nextRow 32 = .ok (.areturn, 1) := by decide +kernel
theorem dX2_init_0 : decode cX2_init 0 = .ok (.aload_n 0, 1) := by decide +kernel
theorem dX2_init_1 : decode cX2_init 1 = .ok (.invokespecial 3, 3) := by decide +kernel
theorem dX2_init_4 : decode cX2_init 4 = .ok (.aload_n 0, 1) := by decide +kernel
theorem dX2_init_5 : decode cX2_init 5 = .ok (.bipush 14, 2) := by decide +kernel
theorem dX2_init_7 : decode cX2_init 7 = .ok (.newarray .int, 2) := by decide +kernel
theorem dX2_init_9 : decode cX2_init 9 = .ok (.putfield 9, 3) := by decide +kernel
theorem dX2_init_12 : decode cX2_init 12 = .ok (.aload_n 0, 1) := by decide +kernel
theorem dX2_init_13 : decode cX2_init 13 = .ok (.bipush 14, 2) := by decide +kernel
theorem dX2_init_15 : decode cX2_init 15 = .ok (.newarray .int, 2) := by decide +kernel
theorem dX2_init_17 : decode cX2_init 17 = .ok (.putfield 15, 3) := by decide +kernel
theorem dX2_init_20 : decode cX2_init 20 = .ok (.aload_n 0, 1) := by decide +kernel
theorem dX2_init_21 : decode cX2_init 21 = .ok (.bipush 14, 2) := by decide +kernel
theorem dX2_init_23 : decode cX2_init 23 = .ok (.newarray .int, 2) := by decide +kernel
theorem dX2_init_25 : decode cX2_init 25 = .ok (.putfield 18, 3) := by decide +kernel
theorem dX2_init_28 : decode cX2_init 28 = .ok (.aload_n 0, 1) := by decide +kernel
theorem dX2_init_29 : decode cX2_init 29 = .ok (.aload_n 1, 1) := by decide +kernel
theorem dX2_init_30 : decode cX2_init 30 = .ok (.putfield 21, 3) := by decide +kernel
theorem dX2_init_33 : decode cX2_init 33 = .ok (.return_, 1) := by decide +kernel
theorem dX2_tryInsert_0 : decode cX2_tryInsert 0 = .ok (.iconst 0, 1) := by decide +kernel
theorem dX2_tryInsert_1 : decode cX2_tryInsert 1 = .ok (.istore_n 2, 1) := by decide +kernel
theorem dX2_tryInsert_2 : decode cX2_tryInsert 2 = .ok (.iload_n 2, 1) := by decide +kernel
theorem dX2_tryInsert_3 : decode cX2_tryInsert 3 = .ok (.iconst 2, 1) := by decide +kernel
theorem dX2_tryInsert_4 : decode cX2_tryInsert 4 = .ok (.if_icmp .gt 35, 3) := by decide +kernel
theorem dX2_tryInsert_7 : decode cX2_tryInsert 7 = .ok (.iconst 0, 1) := by decide +kernel
theorem dX2_tryInsert_8 : decode cX2_tryInsert 8 = .ok (.istore_n 3, 1) := by decide +kernel
theorem dX2_tryInsert_9 : decode cX2_tryInsert 9 = .ok (.iload_n 3, 1) := by decide +kernel
theorem dX2_tryInsert_10 : decode cX2_tryInsert 10 = .ok (.bipush 60, 2) := by decide +kernel
theorem dX2_tryInsert_12 : decode cX2_tryInsert 12 = .ok (.if_icmp .ge 21, 3) := by decide +kernel
theorem dX2_tryInsert_15 : decode cX2_tryInsert 15 = .ok (.aload_n 0, 1) := by decide +kernel
theorem dX2_tryInsert_16 : decode cX2_tryInsert 16 = .ok (.iload_n 1, 1) := by decide +kernel
theorem dX2_tryInsert_17 : decode cX2_tryInsert 17 = .ok (.iload_n 3, 1) := by decide +kernel
theorem dX2_tryInsert_18 : decode cX2_tryInsert 18 = .ok (.iload_n 2, 1) := by decide +kernel
theorem dX2_tryInsert_19 : decode cX2_tryInsert 19 = .ok (.invokevirtual 25, 3) := by decide +kernel
theorem dX2_tryInsert_22 : decode cX2_tryInsert 22 = .ok (.ifCond .eq 5, 3) := by decide +kernel
theorem dX2_tryInsert_25 : decode cX2_tryInsert 25 = .ok (.iload_n 2, 1) := by decide +kernel
theorem dX2_tryInsert_26 : decode cX2_tryInsert 26 = .ok (.ireturn, 1) := by decide +kernel
theorem dX2_tryInsert_27 : decode cX2_tryInsert 27 = .ok (.iinc 3 1, 3) := by decide +kernel
theorem dX2_tryInsert_30 : decode cX2_tryInsert 30 = .ok (.goto (-21), 3) := by decide +kernel
theorem dX2_tryInsert_33 : decode cX2_tryInsert 33 = .ok (.iinc 2 1, 3) := by decide +kernel
theorem dX2_tryInsert_36 : decode cX2_tryInsert 36 = .ok (.goto (-34), 3) := by decide +kernel
theorem dX2_tryInsert_39 : decode cX2_tryInsert 39 = .ok (.iconst (-1), 1) := by decide +kernel
theorem dX2_tryInsert_40 : decode cX2_tryInsert 40 = .ok (.ireturn, 1) := by decide +kernel
theorem dX2_insertAt_0 : decode cX2_insertAt 0 = .ok (.aload_n 0, 1) := by decide +kernel
theorem dX2_insertAt_1 : decode cX2_insertAt 1 = .ok (.getfield 21, 3) := by decide +kernel
theorem dX2_insertAt_4 : decode cX2_insertAt 4 = .ok (.iload_n 1, 1) := by decide +kernel
theorem dX2_insertAt_5 : decode cX2_insertAt 5 = .ok (.iload_n 2, 1) := by decide +kernel
theorem dX2_insertAt_6 : decode cX2_insertAt 6 = .ok (.invokevirtual 29, 3) := by decide +kernel
theorem dX2_insertAt_9 : decode cX2_insertAt 9 = .ok (.ifCond .eq 5, 3) := by decide +kernel
theorem dX2_insertAt_12 : decode cX2_insertAt 12 = .ok (.iconst 0, 1) := by decide +kernel
theorem dX2_insertAt_13 : decode cX2_insertAt 13 = .ok (.ireturn, 1) := by decide +kernel
theorem dX2_insertAt_14 : decode cX2_insertAt 14 = .ok (.aload_n 0, 1) := by decide +kernel
theorem dX2_insertAt_15 : decode cX2_insertAt 15 = .ok (.getfield 21, 3) := by decide +kernel
theorem dX2_insertAt_18 : decode cX2_insertAt 18 = .ok (.iload_n 1, 1) := by decide +kernel
theorem dX2_insertAt_19 : decode cX2_insertAt 19 = .ok (.iload_n 2, 1) := by decide +kernel
theorem dX2_insertAt_20 : decode cX2_insertAt 20 = .ok (.invokevirtual 35, 3) := by decide +kernel
theorem dX2_insertAt_23 : decode cX2_insertAt 23 = .ok (.istore 4, 2) := by decide +kernel
theorem dX2_insertAt_25 : decode cX2_insertAt 25 = .ok (.iload 4, 2) := by decide +kernel
theorem dX2_insertAt_27 : decode cX2_insertAt 27 = .ok (.invokestatic 38, 3) := by decide +kernel
theorem dX2_insertAt_30 : decode cX2_insertAt 30 = .ok (.iload_n 3, 1) := by decide +kernel
theorem dX2_insertAt_31 : decode cX2_insertAt 31 = .ok (.if_icmp .ne 12, 3) := by decide +kernel
theorem dX2_insertAt_34 : decode cX2_insertAt 34 = .ok (.aload_n 0, 1) := by decide +kernel
theorem dX2_insertAt_35 : decode cX2_insertAt 35 = .ok (.iload 4, 2) := by decide +kernel
theorem dX2_insertAt_37 : decode cX2_insertAt 37 = .ok (.invokevirtual 44, 3) := by decide +kernel
theorem dX2_insertAt_40 : decode cX2_insertAt 40 = .ok (.ifCond .eq 5, 3) := by decide +kernel
theorem dX2_insertAt_43 : decode cX2_insertAt 43 = .ok (.iconst 0, 1) := by decide +kernel
theorem dX2_insertAt_44 : decode cX2_insertAt 44 = .ok (.ireturn, 1) := by decide +kernel
theorem dX2_insertAt_45 : decode cX2_insertAt 45 = .ok (.aload_n 0, 1) := by decide +kernel
theorem dX2_insertAt_46 : decode cX2_insertAt 46 = .ok (.getfield 21, 3) := by decide +kernel
theorem dX2_insertAt_49 : decode cX2_insertAt 49 = .ok (.getfield 48, 3) := by decide +kernel
theorem dX2_insertAt_52 : decode cX2_insertAt 52 = .ok (.iconst 0, 1) := by decide +kernel
theorem dX2_insertAt_53 : decode cX2_insertAt 53 = .ok (.aload_n 0, 1) := by decide +kernel
theorem dX2_insertAt_54 : decode cX2_insertAt 54 = .ok (.getfield 9, 3) := by decide +kernel
theorem dX2_insertAt_57 : decode cX2_insertAt 57 = .ok (.iconst 0, 1) := by decide +kernel
theorem dX2_insertAt_58 : decode cX2_insertAt 58 = .ok (.bipush 14, 2) := by decide +kernel
theorem dX2_insertAt_60 : decode cX2_insertAt 60 = .ok (.invokestatic 51, 3) := by decide +kernel
theorem dX2_insertAt_63 : decode cX2_insertAt 63 = .ok (.aload_n 0, 1) := by decide +kernel
theorem dX2_insertAt_64 : decode cX2_insertAt 64 = .ok (.iload 4, 2) := by decide +kernel
theorem dX2_insertAt_66 : decode cX2_insertAt 66 = .ok (.invokevirtual 57, 3) := by decide +kernel
theorem dX2_insertAt_69 : decode cX2_insertAt 69 = .ok (.aload_n 0, 1) := by decide +kernel
theorem dX2_insertAt_70 : decode cX2_insertAt 70 = .ok (.getfield 21, 3) := by decide +kernel
theorem dX2_insertAt_73 : decode cX2_insertAt 73 = .ok (.iload_n 1, 1) := by decide +kernel
theorem dX2_insertAt_74 : decode cX2_insertAt 74 = .ok (.iload_n 2, 1) := by decide +kernel
theorem dX2_insertAt_75 : decode cX2_insertAt 75 = .ok (.invokevirtual 61, 3) := by decide +kernel
theorem dX2_insertAt_78 : decode cX2_insertAt 78 = .ok (.aload_n 0, 1) := by decide +kernel
theorem dX2_insertAt_79 : decode cX2_insertAt 79 = .ok (.iload 4, 2) := by decide +kernel
theorem dX2_insertAt_81 : decode cX2_insertAt 81 = .ok (.invokevirtual 65, 3) := by decide +kernel
theorem dX2_insertAt_84 : decode cX2_insertAt 84 = .ok (.ifCond .eq 22, 3) := by decide +kernel
theorem dX2_insertAt_87 : decode cX2_insertAt 87 = .ok (.aload_n 0, 1) := by decide +kernel
theorem dX2_insertAt_88 : decode cX2_insertAt 88 = .ok (.getfield 21, 3) := by decide +kernel
theorem dX2_insertAt_91 : decode cX2_insertAt 91 = .ok (.aload_n 0, 1) := by decide +kernel
theorem dX2_insertAt_92 : decode cX2_insertAt 92 = .ok (.getfield 9, 3) := by decide +kernel
theorem dX2_insertAt_95 : decode cX2_insertAt 95 = .ok (.iload 4, 2) := by decide +kernel
theorem dX2_insertAt_97 : decode cX2_insertAt 97 = .ok (.iconst 0, 1) := by decide +kernel
theorem dX2_insertAt_98 : decode cX2_insertAt 98 = .ok (.invokestatic 68, 3) := by decide +kernel
theorem dX2_insertAt_101 : decode cX2_insertAt 101 = .ok (.ifCond .eq 5, 3) := by decide +kernel
theorem dX2_insertAt_104 : decode cX2_insertAt 104 = .ok (.iconst 1, 1) := by decide +kernel
theorem dX2_insertAt_105 : decode cX2_insertAt 105 = .ok (.ireturn, 1) := by decide +kernel
theorem dX2_insertAt_106 : decode cX2_insertAt 106 = .ok (.aload_n 0, 1) := by decide +kernel
theorem dX2_insertAt_107 : decode cX2_insertAt 107 = .ok (.getfield 21, 3) := by decide +kernel
theorem dX2_insertAt_110 : decode cX2_insertAt 110 = .ok (.iload_n 1, 1) := by decide +kernel
theorem dX2_insertAt_111 : decode cX2_insertAt 111 = .ok (.iconst (-1), 1) := by decide +kernel
theorem dX2_insertAt_112 : decode cX2_insertAt 112 = .ok (.invokevirtual 61, 3) := by decide +kernel
theorem dX2_insertAt_115 : decode cX2_insertAt 115 = .ok (.aload_n 0, 1) := by decide +kernel
theorem dX2_insertAt_116 : decode cX2_insertAt 116 = .ok (.iload 4, 2) := by decide +kernel
theorem dX2_insertAt_118 : decode cX2_insertAt 118 = .ok (.invokevirtual 72, 3) := by decide +kernel
theorem dX2_insertAt_121 : decode cX2_insertAt 121 = .ok (.iconst 0, 1) := by decide +kernel
theorem dX2_insertAt_122 : decode cX2_insertAt 122 = .ok (.ireturn, 1) := by decide +kernel
theorem dX2_hasFixed_0 : decode cX2_hasFixed 0 = .ok (.iconst 0, 1) := by decide +kernel
theorem dX2_hasFixed_1 : decode cX2_hasFixed 1 = .ok (.istore_n 2, 1) := by decide +kernel
theorem dX2_hasFixed_2 : decode cX2_hasFixed 2 = .ok (.iload_n 2, 1) := by decide +kernel
theorem dX2_hasFixed_3 : decode cX2_hasFixed 3 = .ok (.bipush 14, 2) := by decide +kernel
theorem dX2_hasFixed_5 : decode cX2_hasFixed 5 = .ok (.if_icmp .ge 31, 3) := by decide +kernel
theorem dX2_hasFixed_8 : decode cX2_hasFixed 8 = .ok (.iload_n 1, 1) := by decide +kernel
theorem dX2_hasFixed_9 : decode cX2_hasFixed 9 = .ok (.iload_n 2, 1) := by decide +kernel
theorem dX2_hasFixed_10 : decode cX2_hasFixed 10 = .ok (.invokestatic 75, 3) := by decide +kernel
theorem dX2_hasFixed_13 : decode cX2_hasFixed 13 = .ok (.ifCond .eq 17, 3) := by decide +kernel
theorem dX2_hasFixed_16 : decode cX2_hasFixed 16 = .ok (.aload_n 0, 1) := by decide +kernel
theorem dX2_hasFixed_17 : decode cX2_hasFixed 17 = .ok (.getfield 21, 3) := by decide +kernel
theorem dX2_hasFixed_20 : decode cX2_hasFixed 20 = .ok (.getfield 79, 3) := by decide +kernel
theorem dX2_hasFixed_23 : decode cX2_hasFixed 23 = .ok (.iload_n 2, 1) := by decide +kernel
theorem dX2_hasFixed_24 : decode cX2_hasFixed 24 = .ok (.baload, 1) := by decide +kernel
theorem dX2_hasFixed_25 : decode cX2_hasFixed 25 = .ok (.ifCond .eq 5, 3) := by decide +kernel
theorem dX2_hasFixed_28 : decode cX2_hasFixed 28 = .ok (.iconst 1, 1) := by decide +kernel
theorem dX2_hasFixed_29 : decode cX2_hasFixed 29 = .ok (.ireturn, 1) := by decide +kernel
theorem dX2_hasFixed_30 : decode cX2_hasFixed 30 = .ok (.iinc 2 1, 3) := by decide +kernel
theorem dX2_hasFixed_33 : decode cX2_hasFixed 33 = .ok (.goto (-31), 3) := by decide +kernel
theorem dX2_hasFixed_36 : decode cX2_hasFixed 36 = .ok (.iconst 0, 1) := by decide +kernel
theorem dX2_hasFixed_37 : decode cX2_hasFixed 37 = .ok (.ireturn, 1) := by decide +kernel
theorem dX2_lift_0 : decode cX2_lift 0 = .ok (.iconst 0, 1) := by decide +kernel
theorem dX2_lift_1 : decode cX2_lift 1 = .ok (.istore_n 2, 1) := by decide +kernel
theorem dX2_lift_2 : decode cX2_lift 2 = .ok (.iload_n 2, 1) := by decide +kernel
theorem dX2_lift_3 : decode cX2_lift 3 = .ok (.bipush 14, 2) := by decide +kernel
theorem dX2_lift_5 : decode cX2_lift 5 = .ok (.if_icmp .ge 26, 3) := by decide +kernel
theorem dX2_lift_8 : decode cX2_lift 8 = .ok (.iload_n 1, 1) := by decide +kernel
theorem dX2_lift_9 : decode cX2_lift 9 = .ok (.iload_n 2, 1) := by decide +kernel
theorem dX2_lift_10 : decode cX2_lift 10 = .ok (.invokestatic 75, 3) := by decide +kernel
theorem dX2_lift_13 : decode cX2_lift 13 = .ok (.ifCond .eq 12, 3) := by decide +kernel
theorem dX2_lift_16 : decode cX2_lift 16 = .ok (.aload_n 0, 1) := by decide +kernel
theorem dX2_lift_17 : decode cX2_lift 17 = .ok (.getfield 21, 3) := by decide +kernel
theorem dX2_lift_20 : decode cX2_lift 20 = .ok (.iload_n 2, 1) := by decide +kernel
theorem dX2_lift_21 : decode cX2_lift 21 = .ok (.iconst (-1), 1) := by decide +kernel
theorem dX2_lift_22 : decode cX2_lift 22 = .ok (.invokevirtual 61, 3) := by decide +kernel
theorem dX2_lift_25 : decode cX2_lift 25 = .ok (.iinc 2 1, 3) := by decide +kernel
theorem dX2_lift_28 : decode cX2_lift 28 = .ok (.goto (-26), 3) := by decide +kernel
theorem dX2_lift_31 : decode cX2_lift 31 = .ok (.return_, 1) := by decide +kernel
theorem dX2_putBack_0 : decode cX2_putBack 0 = .ok (.iconst 0, 1) := by decide +kernel
theorem dX2_putBack_1 : decode cX2_putBack 1 = .ok (.istore_n 2, 1) := by decide +kernel
theorem dX2_putBack_2 : decode cX2_putBack 2 = .ok (.iload_n 2, 1) := by decide +kernel
theorem dX2_putBack_3 : decode cX2_putBack 3 = .ok (.bipush 14, 2) := by decide +kernel
theorem dX2_putBack_5 : decode cX2_putBack 5 = .ok (.if_icmp .ge 31, 3) := by decide +kernel
theorem dX2_putBack_8 : decode cX2_putBack 8 = .ok (.iload_n 1, 1) := by decide +kernel
theorem dX2_putBack_9 : decode cX2_putBack 9 = .ok (.iload_n 2, 1) := by decide +kernel
theorem dX2_putBack_10 : decode cX2_putBack 10 = .ok (.invokestatic 75, 3) := by decide +kernel
theorem dX2_putBack_13 : decode cX2_putBack 13 = .ok (.ifCond .eq 17, 3) := by decide +kernel
theorem dX2_putBack_16 : decode cX2_putBack 16 = .ok (.aload_n 0, 1) := by decide +kernel
theorem dX2_putBack_17 : decode cX2_putBack 17 = .ok (.getfield 21, 3) := by decide +kernel
theorem dX2_putBack_20 : decode cX2_putBack 20 = .ok (.iload_n 2, 1) := by decide +kernel
theorem dX2_putBack_21 : decode cX2_putBack 21 = .ok (.aload_n 0, 1) := by decide +kernel
theorem dX2_putBack_22 : decode cX2_putBack 22 = .ok (.getfield 9, 3) := by decide +kernel
theorem dX2_putBack_25 : decode cX2_putBack 25 = .ok (.iload_n 2, 1) := by decide +kernel
theorem dX2_putBack_26 : decode cX2_putBack 26 = .ok (.iaload, 1) := by decide +kernel
theorem dX2_putBack_27 : decode cX2_putBack 27 = .ok (.invokevirtual 61, 3) := by decide +kernel
theorem dX2_putBack_30 : decode cX2_putBack 30 = .ok (.iinc 2 1, 3) := by decide +kernel
theorem dX2_putBack_33 : decode cX2_putBack 33 = .ok (.goto (-31), 3) := by decide +kernel
theorem dX2_putBack_36 : decode cX2_putBack 36 = .ok (.return_, 1) := by decide +kernel
theorem dX2_canAllMove_0 : decode cX2_canAllMove 0 = .ok (.iconst 0, 1) := by decide +kernel
theorem dX2_canAllMove_1 : decode cX2_canAllMove 1 = .ok (.istore_n 2, 1) := by decide +kernel
theorem dX2_canAllMove_2 : decode cX2_canAllMove 2 = .ok (.iload_n 2, 1) := by decide +kernel
theorem dX2_canAllMove_3 : decode cX2_canAllMove 3 = .ok (.bipush 14, 2) := by decide +kernel
theorem dX2_canAllMove_5 : decode cX2_canAllMove 5 = .ok (.if_icmp .ge 32, 3) := by decide +kernel
theorem dX2_canAllMove_8 : decode cX2_canAllMove 8 = .ok (.iload_n 1, 1) := by decide +kernel
theorem dX2_canAllMove_9 : decode cX2_canAllMove 9 = .ok (.iload_n 2, 1) := by decide +kernel
theorem dX2_canAllMove_10 : decode cX2_canAllMove 10 = .ok (.invokestatic 75, 3) := by decide +kernel
theorem dX2_canAllMove_13 : decode cX2_canAllMove 13 = .ok (.ifCond .eq 18, 3) := by decide +kernel
theorem dX2_canAllMove_16 : decode cX2_canAllMove 16 = .ok (.aload_n 0, 1) := by decide +kernel
theorem dX2_canAllMove_17 : decode cX2_canAllMove 17 = .ok (.getfield 21, 3) := by decide +kernel
theorem dX2_canAllMove_20 : decode cX2_canAllMove 20 = .ok (.iload_n 2, 1) := by decide +kernel
theorem dX2_canAllMove_21 : decode cX2_canAllMove 21 = .ok (.iconst 0, 1) := by decide +kernel
theorem dX2_canAllMove_22 : decode cX2_canAllMove 22 = .ok (.invokevirtual 83, 3) := by decide +kernel
theorem dX2_canAllMove_25 : decode cX2_canAllMove 25 = .ok (.iconst (-1), 1) := by decide +kernel
theorem dX2_canAllMove_26 : decode cX2_canAllMove 26 = .ok (.if_icmp .ne 5, 3) := by decide +kernel
theorem dX2_canAllMove_29 : decode cX2_canAllMove 29 = .ok (.iconst 0, 1) := by decide +kernel
theorem dX2_canAllMove_30 : decode cX2_canAllMove 30 = .ok (.ireturn, 1) := by decide +kernel
theorem dX2_canAllMove_31 : decode cX2_canAllMove 31 = .ok (.iinc 2 1, 3) := by decide +kernel
theorem dX2_canAllMove_34 : decode cX2_canAllMove 34 = .ok (.goto (-32), 3) := by decide +kernel
theorem dX2_canAllMove_37 : decode cX2_canAllMove 37 = .ok (.iconst 1, 1) := by decide +kernel
theorem dX2_canAllMove_38 : decode cX2_canAllMove 38 = .ok (.ireturn, 1) := by decide +kernel
theorem dX2_placeAnew_0 : decode cX2_placeAnew 0 = .ok (.iload_n 3, 1) := by decide +kernel
theorem dX2_placeAnew_1 : decode cX2_placeAnew 1 = .ok (.ifCond .lt 9, 3) := by decide +kernel
theorem dX2_placeAnew_4 : decode cX2_placeAnew 4 = .ok (.iload_n 3, 1) := by decide +kernel
theorem dX2_placeAnew_5 : decode cX2_placeAnew 5 = .ok (.bipush 14, 2) := by decide +kernel
theorem dX2_placeAnew_7 : decode cX2_placeAnew 7 = .ok (.if_icmp .lt 5, 3) := by decide +kernel
theorem dX2_placeAnew_10 : decode cX2_placeAnew 10 = .ok (.iconst 1, 1) := by decide +kernel
theorem dX2_placeAnew_11 : decode cX2_placeAnew 11 = .ok (.ireturn, 1) := by decide +kernel
theorem dX2_placeAnew_12 : decode cX2_placeAnew 12 = .ok (.iload_n 2, 1) := by decide +kernel
theorem dX2_placeAnew_13 : decode cX2_placeAnew 13 = .ok (.iload_n 3, 1) := by decide +kernel
theorem dX2_placeAnew_14 : decode cX2_placeAnew 14 = .ok (.invokestatic 75, 3) := by decide +kernel
theorem dX2_placeAnew_17 : decode cX2_placeAnew 17 = .ok (.ifCond .ne 13, 3) := by decide +kernel
theorem dX2_placeAnew_20 : decode cX2_placeAnew 20 = .ok (.aload_n 0, 1) := by decide +kernel
theorem dX2_placeAnew_21 : decode cX2_placeAnew 21 = .ok (.aload_n 1, 1) := by decide +kernel
theorem dX2_placeAnew_22 : decode cX2_placeAnew 22 = .ok (.iload_n 2, 1) := by decide +kernel
theorem dX2_placeAnew_23 : decode cX2_placeAnew 23 = .ok (.iload_n 3, 1) := by decide +kernel
theorem dX2_placeAnew_24 : decode cX2_placeAnew 24 = .ok (.iconst 1, 1) := by decide +kernel
theorem dX2_placeAnew_25 : decode cX2_placeAnew 25 = .ok (.iadd, 1) := by decide +kernel
theorem dX2_placeAnew_26 : decode cX2_placeAnew 26 = .ok (.invokestatic 68, 3) := by decide +kernel
theorem dX2_placeAnew_29 : decode cX2_placeAnew 29 = .ok (.ireturn, 1) := by decide +kernel
theorem dX2_placeAnew_30 : decode cX2_placeAnew 30 = .ok (.iconst 0, 1) := by decide +kernel
theorem dX2_placeAnew_31 : decode cX2_placeAnew 31 = .ok (.istore 4, 2) := by decide +kernel
theorem dX2_placeAnew_33 : decode cX2_placeAnew 33 = .ok (.iload 4, 2) := by decide +kernel
theorem dX2_placeAnew_35 : decode cX2_placeAnew 35 = .ok (.bipush 60, 2) := by decide +kernel
theorem dX2_placeAnew_37 : decode cX2_placeAnew 37 = .ok (.if_icmp .ge 54, 3) := by decide +kernel
theorem dX2_placeAnew_40 : decode cX2_placeAnew 40 = .ok (.iload 4, 2) := by decide +kernel
theorem dX2_placeAnew_42 : decode cX2_placeAnew 42 = .ok (.aload_n 1, 1) := by decide +kernel
theorem dX2_placeAnew_43 : decode cX2_placeAnew 43 = .ok (.iload_n 3, 1) := by decide +kernel
theorem dX2_placeAnew_44 : decode cX2_placeAnew 44 = .ok (.iaload, 1) := by decide +kernel
theorem dX2_placeAnew_45 : decode cX2_placeAnew 45 = .ok (.if_icmp .eq 40, 3) := by decide +kernel
theorem dX2_placeAnew_48 : decode cX2_placeAnew 48 = .ok (.aload_n 0, 1) := by decide +kernel
theorem dX2_placeAnew_49 : decode cX2_placeAnew 49 = .ok (.iload_n 3, 1) := by decide +kernel
theorem dX2_placeAnew_50 : decode cX2_placeAnew 50 = .ok (.iload 4, 2) := by decide +kernel
theorem dX2_placeAnew_52 : decode cX2_placeAnew 52 = .ok (.invokevirtual 86, 3) := by decide +kernel
theorem dX2_placeAnew_55 : decode cX2_placeAnew 55 = .ok (.ifCond .ne 30, 3) := by decide +kernel
theorem dX2_placeAnew_58 : decode cX2_placeAnew 58 = .ok (.aload_n 0, 1) := by decide +kernel
theorem dX2_placeAnew_59 : decode cX2_placeAnew 59 = .ok (.iload_n 3, 1) := by decide +kernel
theorem dX2_placeAnew_60 : decode cX2_placeAnew 60 = .ok (.iload 4, 2) := by decide +kernel
theorem dX2_placeAnew_62 : decode cX2_placeAnew 62 = .ok (.invokevirtual 61, 3) := by decide +kernel
theorem dX2_placeAnew_65 : decode cX2_placeAnew 65 = .ok (.aload_n 0, 1) := by decide +kernel
theorem dX2_placeAnew_66 : decode cX2_placeAnew 66 = .ok (.aload_n 1, 1) := by decide +kernel
theorem dX2_placeAnew_67 : decode cX2_placeAnew 67 = .ok (.iload_n 2, 1) := by decide +kernel
theorem dX2_placeAnew_68 : decode cX2_placeAnew 68 = .ok (.iload_n 3, 1) := by decide +kernel
theorem dX2_placeAnew_69 : decode cX2_placeAnew 69 = .ok (.iconst 1, 1) := by decide +kernel
theorem dX2_placeAnew_70 : decode cX2_placeAnew 70 = .ok (.iadd, 1) := by decide +kernel
theorem dX2_placeAnew_71 : decode cX2_placeAnew 71 = .ok (.invokestatic 68, 3) := by decide +kernel
theorem dX2_placeAnew_74 : decode cX2_placeAnew 74 = .ok (.ifCond .eq 5, 3) := by decide +kernel
theorem dX2_placeAnew_77 : decode cX2_placeAnew 77 = .ok (.iconst 1, 1) := by decide +kernel
theorem dX2_placeAnew_78 : decode cX2_placeAnew 78 = .ok (.ireturn, 1) := by decide +kernel
theorem dX2_placeAnew_79 : decode cX2_placeAnew 79 = .ok (.aload_n 0, 1) := by decide +kernel
theorem dX2_placeAnew_80 : decode cX2_placeAnew 80 = .ok (.iload_n 3, 1) := by decide +kernel
theorem dX2_placeAnew_81 : decode cX2_placeAnew 81 = .ok (.iconst (-1), 1) := by decide +kernel
theorem dX2_placeAnew_82 : decode cX2_placeAnew 82 = .ok (.invokevirtual 61, 3) := by decide +kernel
theorem dX2_placeAnew_85 : decode cX2_placeAnew 85 = .ok (.iinc 4 1, 3) := by decide +kernel
theorem dX2_placeAnew_88 : decode cX2_placeAnew 88 = .ok (.goto (-55), 3) := by decide +kernel
theorem dX2_placeAnew_91 : decode cX2_placeAnew 91 = .ok (.iconst 0, 1) := by decide +kernel
theorem dX2_placeAnew_92 : decode cX2_placeAnew 92 = .ok (.ireturn, 1) := by decide +kernel
theorem dX2_rankWaiting_0 : decode cX2_rankWaiting 0 = .ok (.aload_n 0, 1) := by decide +kernel
theorem dX2_rankWaiting_1 : decode cX2_rankWaiting 1 = .ok (.iconst 0, 1) := by decide +kernel
theorem dX2_rankWaiting_2 : decode cX2_rankWaiting 2 = .ok (.putfield 89, 3) := by decide +kernel
theorem dX2_rankWaiting_5 : decode cX2_rankWaiting 5 = .ok (.iconst 0, 1) := by decide +kernel
theorem dX2_rankWaiting_6 : decode cX2_rankWaiting 6 = .ok (.istore_n 1, 1) := by decide +kernel
theorem dX2_rankWaiting_7 : decode cX2_rankWaiting 7 = .ok (.iload_n 1, 1) := by decide +kernel
theorem dX2_rankWaiting_8 : decode cX2_rankWaiting 8 = .ok (.bipush 14, 2) := by decide +kernel
theorem dX2_rankWaiting_10 : decode cX2_rankWaiting 10 = .ok (.if_icmp .ge 56, 3) := by decide +kernel
theorem dX2_rankWaiting_13 : decode cX2_rankWaiting 13 = .ok (.aload_n 0, 1) := by decide +kernel
theorem dX2_rankWaiting_14 : decode cX2_rankWaiting 14 = .ok (.getfield 21, 3) := by decide +kernel
theorem dX2_rankWaiting_17 : decode cX2_rankWaiting 17 = .ok (.iload_n 1, 1) := by decide +kernel
theorem dX2_rankWaiting_18 : decode cX2_rankWaiting 18 = .ok (.invokevirtual 93, 3) := by decide +kernel
theorem dX2_rankWaiting_21 : decode cX2_rankWaiting 21 = .ok (.ifCond .eq 39, 3) := by decide +kernel
theorem dX2_rankWaiting_24 : decode cX2_rankWaiting 24 = .ok (.aload_n 0, 1) := by decide +kernel
theorem dX2_rankWaiting_25 : decode cX2_rankWaiting 25 = .ok (.getfield 21, 3) := by decide +kernel
theorem dX2_rankWaiting_28 : decode cX2_rankWaiting 28 = .ok (.getfield 48, 3) := by decide +kernel
theorem dX2_rankWaiting_31 : decode cX2_rankWaiting 31 = .ok (.iload_n 1, 1) := by decide +kernel
theorem dX2_rankWaiting_32 : decode cX2_rankWaiting 32 = .ok (.iaload, 1) := by decide +kernel
theorem dX2_rankWaiting_33 : decode cX2_rankWaiting 33 = .ok (.iconst (-1), 1) := by decide +kernel
theorem dX2_rankWaiting_34 : decode cX2_rankWaiting 34 = .ok (.if_icmp .ne 26, 3) := by decide +kernel
theorem dX2_rankWaiting_37 : decode cX2_rankWaiting 37 = .ok (.aload_n 0, 1) := by decide +kernel
theorem dX2_rankWaiting_38 : decode cX2_rankWaiting 38 = .ok (.dup, 1) := by decide +kernel
theorem dX2_rankWaiting_39 : decode cX2_rankWaiting 39 = .ok (.getfield 89, 3) := by decide +kernel
theorem dX2_rankWaiting_42 : decode cX2_rankWaiting 42 = .ok (.iconst 1, 1) := by decide +kernel
theorem dX2_rankWaiting_43 : decode cX2_rankWaiting 43 = .ok (.iload_n 1, 1) := by decide +kernel
theorem dX2_rankWaiting_44 : decode cX2_rankWaiting 44 = .ok (.ishl, 1) := by decide +kernel
theorem dX2_rankWaiting_45 : decode cX2_rankWaiting 45 = .ok (.ior, 1) := by decide +kernel
theorem dX2_rankWaiting_46 : decode cX2_rankWaiting 46 = .ok (.putfield 89, 3) := by decide +kernel
theorem dX2_rankWaiting_49 : decode cX2_rankWaiting 49 = .ok (.aload_n 0, 1) := by decide +kernel
theorem dX2_rankWaiting_50 : decode cX2_rankWaiting 50 = .ok (.getfield 18, 3) := by decide +kernel
theorem dX2_rankWaiting_53 : decode cX2_rankWaiting 53 = .ok (.iload_n 1, 1) := by decide +kernel
theorem dX2_rankWaiting_54 : decode cX2_rankWaiting 54 = .ok (.aload_n 0, 1) := by decide +kernel
theorem dX2_rankWaiting_55 : decode cX2_rankWaiting 55 = .ok (.iload_n 1, 1) := by decide +kernel
theorem dX2_rankWaiting_56 : decode cX2_rankWaiting 56 = .ok (.invokevirtual 96, 3) := by decide +kernel
theorem dX2_rankWaiting_59 : decode cX2_rankWaiting 59 = .ok (.iastore, 1) := by decide +kernel
theorem dX2_rankWaiting_60 : decode cX2_rankWaiting 60 = .ok (.iinc 1 1, 3) := by decide +kernel
theorem dX2_rankWaiting_63 : decode cX2_rankWaiting 63 = .ok (.goto (-56), 3) := by decide +kernel
theorem dX2_rankWaiting_66 : decode cX2_rankWaiting 66 = .ok (.return_, 1) := by decide +kernel
theorem dX2_rankOf_0 : decode cX2_rankOf 0 = .ok (.aload_n 0, 1) := by decide +kernel
theorem dX2_rankOf_1 : decode cX2_rankOf 1 = .ok (.getfield 21, 3) := by decide +kernel
theorem dX2_rankOf_4 : decode cX2_rankOf 4 = .ok (.iload_n 1, 1) := by decide +kernel
theorem dX2_rankOf_5 : decode cX2_rankOf 5 = .ok (.invokevirtual 99, 3) := by decide +kernel
theorem dX2_rankOf_8 : decode cX2_rankOf 8 = .ok (.bipush 7, 2) := by decide +kernel
theorem dX2_rankOf_10 : decode cX2_rankOf 10 = .ok (.imul, 1) := by decide +kernel
theorem dX2_rankOf_11 : decode cX2_rankOf 11 = .ok (.aload_n 0, 1) := by decide +kernel
theorem dX2_rankOf_12 : decode cX2_rankOf 12 = .ok (.getfield 21, 3) := by decide +kernel
theorem dX2_rankOf_15 : decode cX2_rankOf 15 = .ok (.getfield 102, 3) := by decide +kernel
theorem dX2_rankOf_18 : decode cX2_rankOf 18 = .ok (.iload_n 1, 1) := by decide +kernel
theorem dX2_rankOf_19 : decode cX2_rankOf 19 = .ok (.iaload, 1) := by decide +kernel
theorem dX2_rankOf_20 : decode cX2_rankOf 20 = .ok (.invokestatic 38, 3) := by decide +kernel
theorem dX2_rankOf_23 : decode cX2_rankOf 23 = .ok (.isub, 1) := by decide +kernel
theorem dX2_rankOf_24 : decode cX2_rankOf 24 = .ok (.ireturn, 1) := by decide +kernel
theorem dX2_nextByRank_0 : decode cX2_nextByRank 0 = .ok (.iconst (-1), 1) := by decide +kernel
theorem dX2_nextByRank_1 : decode cX2_nextByRank 1 = .ok (.istore_n 1, 1) := by decide +kernel
theorem dX2_nextByRank_2 : decode cX2_nextByRank 2 = .ok (.iconst 0, 1) := by decide +kernel
theorem dX2_nextByRank_3 : decode cX2_nextByRank 3 = .ok (.istore_n 2, 1) := by decide +kernel
theorem dX2_nextByRank_4 : decode cX2_nextByRank 4 = .ok (.iload_n 2, 1) := by decide +kernel
theorem dX2_nextByRank_5 : decode cX2_nextByRank 5 = .ok (.bipush 14, 2) := by decide +kernel
theorem dX2_nextByRank_7 : decode cX2_nextByRank 7 = .ok (.if_icmp .ge 42, 3) := by decide +kernel
theorem dX2_nextByRank_10 : decode cX2_nextByRank 10 = .ok (.aload_n 0, 1) := by decide +kernel
theorem dX2_nextByRank_11 : decode cX2_nextByRank 11 = .ok (.getfield 89, 3) := by decide +kernel
theorem dX2_nextByRank_14 : decode cX2_nextByRank 14 = .ok (.iload_n 2, 1) := by decide +kernel
theorem dX2_nextByRank_15 : decode cX2_nextByRank 15 = .ok (.invokestatic 75, 3) := by decide +kernel
theorem dX2_nextByRank_18 : decode cX2_nextByRank 18 = .ok (.ifCond .eq 25, 3) := by decide +kernel
theorem dX2_nextByRank_21 : decode cX2_nextByRank 21 = .ok (.iload_n 1, 1) := by decide +kernel
theorem dX2_nextByRank_22 : decode cX2_nextByRank 22 = .ok (.iconst (-1), 1) := by decide +kernel
theorem dX2_nextByRank_23 : decode cX2_nextByRank 23 = .ok (.if_icmp .eq 18, 3) := by decide +kernel
theorem dX2_nextByRank_26 : decode cX2_nextByRank 26 = .ok (.aload_n 0, 1) := by decide +kernel
theorem dX2_nextByRank_27 : decode cX2_nextByRank 27 = .ok (.getfield 18, 3) := by decide +kernel
theorem dX2_nextByRank_30 : decode cX2_nextByRank 30 = .ok (.iload_n 2, 1) := by decide +kernel
theorem dX2_nextByRank_31 : decode cX2_nextByRank 31 = .ok (.iaload, 1) := by decide +kernel
theorem dX2_nextByRank_32 : decode cX2_nextByRank 32 = .ok (.aload_n 0, 1) := by decide +kernel
theorem dX2_nextByRank_33 : decode cX2_nextByRank 33 = .ok (.getfield 18, 3) := by decide +kernel
theorem dX2_nextByRank_36 : decode cX2_nextByRank 36 = .ok (.iload_n 1, 1) := by decide +kernel
theorem dX2_nextByRank_37 : decode cX2_nextByRank 37 = .ok (.iaload, 1) := by decide +kernel
theorem dX2_nextByRank_38 : decode cX2_nextByRank 38 = .ok (.if_icmp .ge 5, 3) := by decide +kernel
theorem dX2_nextByRank_41 : decode cX2_nextByRank 41 = .ok (.iload_n 2, 1) := by decide +kernel
theorem dX2_nextByRank_42 : decode cX2_nextByRank 42 = .ok (.istore_n 1, 1) := by decide +kernel
theorem dX2_nextByRank_43 : decode cX2_nextByRank 43 = .ok (.iinc 2 1, 3) := by decide +kernel
theorem dX2_nextByRank_46 : decode cX2_nextByRank 46 = .ok (.goto (-42), 3) := by decide +kernel
theorem dX2_nextByRank_49 : decode cX2_nextByRank 49 = .ok (.iload_n 1, 1) := by decide +kernel
theorem dX2_nextByRank_50 : decode cX2_nextByRank 50 = .ok (.iconst (-1), 1) := by decide +kernel
theorem dX2_nextByRank_51 : decode cX2_nextByRank 51 = .ok (.if_icmp .eq 17, 3) := by decide +kernel
theorem dX2_nextByRank_54 : decode cX2_nextByRank 54 = .ok (.aload_n 0, 1) := by decide +kernel
theorem dX2_nextByRank_55 : decode cX2_nextByRank 55 = .ok (.dup, 1) := by decide +kernel
theorem dX2_nextByRank_56 : decode cX2_nextByRank 56 = .ok (.getfield 89, 3) := by decide +kernel
theorem dX2_nextByRank_59 : decode cX2_nextByRank 59 = .ok (.iconst 1, 1) := by decide +kernel
theorem dX2_nextByRank_60 : decode cX2_nextByRank 60 = .ok (.iload_n 1, 1) := by decide +kernel
theorem dX2_nextByRank_61 : decode cX2_nextByRank 61 = .ok (.ishl, 1) := by decide +kernel
theorem dX2_nextByRank_62 : decode cX2_nextByRank 62 = .ok (.iconst (-1), 1) := by decide +kernel
theorem dX2_nextByRank_63 : decode cX2_nextByRank 63 = .ok (.ixor, 1) := by decide +kernel
theorem dX2_nextByRank_64 : decode cX2_nextByRank 64 = .ok (.iand, 1) := by decide +kernel
theorem dX2_nextByRank_65 : decode cX2_nextByRank 65 = .ok (.putfield 89, 3) := by decide +kernel
theorem dX2_nextByRank_68 : decode cX2_nextByRank 68 = .ok (.iload_n 1, 1) := by decide +kernel
theorem dX2_nextByRank_69 : decode cX2_nextByRank 69 = .ok (.ireturn, 1) := by decide +kernel
theorem dX2_chainOf_0 : decode cX2_chainOf 0 = .ok (.aload_n 0, 1) := by decide +kernel
theorem dX2_chainOf_1 : decode cX2_chainOf 1 = .ok (.getfield 21, 3) := by decide +kernel
theorem dX2_chainOf_4 : decode cX2_chainOf 4 = .ok (.getfield 105, 3) := by decide +kernel
theorem dX2_chainOf_7 : decode cX2_chainOf 7 = .ok (.iload_n 1, 1) := by decide +kernel
theorem dX2_chainOf_8 : decode cX2_chainOf 8 = .ok (.iaload, 1) := by decide +kernel
theorem dX2_chainOf_9 : decode cX2_chainOf 9 = .ok (.iconst 1, 1) := by decide +kernel
theorem dX2_chainOf_10 : decode cX2_chainOf 10 = .ok (.iload_n 2, 1) := by decide +kernel
theorem dX2_chainOf_11 : decode cX2_chainOf 11 = .ok (.ishl, 1) := by decide +kernel
theorem dX2_chainOf_12 : decode cX2_chainOf 12 = .ok (.ior, 1) := by decide +kernel
theorem dX2_chainOf_13 : decode cX2_chainOf 13 = .ok (.istore_n 3, 1) := by decide +kernel
theorem dX2_chainOf_14 : decode cX2_chainOf 14 = .ok (.iconst 1, 1) := by decide +kernel
theorem dX2_chainOf_15 : decode cX2_chainOf 15 = .ok (.iload_n 1, 1) := by decide +kernel
theorem dX2_chainOf_16 : decode cX2_chainOf 16 = .ok (.ishl, 1) := by decide +kernel
theorem dX2_chainOf_17 : decode cX2_chainOf 17 = .ok (.istore 4, 2) := by decide +kernel
theorem dX2_chainOf_19 : decode cX2_chainOf 19 = .ok (.iconst 0, 1) := by decide +kernel
theorem dX2_chainOf_20 : decode cX2_chainOf 20 = .ok (.istore 5, 2) := by decide +kernel
theorem dX2_chainOf_22 : decode cX2_chainOf 22 = .ok (.iload 5, 2) := by decide +kernel
theorem dX2_chainOf_24 : decode cX2_chainOf 24 = .ok (.bipush 14, 2) := by decide +kernel
theorem dX2_chainOf_26 : decode cX2_chainOf 26 = .ok (.if_icmp .ge 32, 3) := by decide +kernel
theorem dX2_chainOf_29 : decode cX2_chainOf 29 = .ok (.aload_n 0, 1) := by decide +kernel
theorem dX2_chainOf_30 : decode cX2_chainOf 30 = .ok (.iload 4, 2) := by decide +kernel
theorem dX2_chainOf_32 : decode cX2_chainOf 32 = .ok (.iload_n 3, 1) := by decide +kernel
theorem dX2_chainOf_33 : decode cX2_chainOf 33 = .ok (.invokevirtual 108, 3) := by decide +kernel
theorem dX2_chainOf_36 : decode cX2_chainOf 36 = .ok (.istore 6, 2) := by decide +kernel
theorem dX2_chainOf_38 : decode cX2_chainOf 38 = .ok (.iload 6, 2) := by decide +kernel
theorem dX2_chainOf_40 : decode cX2_chainOf 40 = .ok (.iload 4, 2) := by decide +kernel
theorem dX2_chainOf_42 : decode cX2_chainOf 42 = .ok (.if_icmp .ne 6, 3) := by decide +kernel
theorem dX2_chainOf_45 : decode cX2_chainOf 45 = .ok (.iload 4, 2) := by decide +kernel
theorem dX2_chainOf_47 : decode cX2_chainOf 47 = .ok (.ireturn, 1) := by decide +kernel
theorem dX2_chainOf_48 : decode cX2_chainOf 48 = .ok (.iload 6, 2) := by decide +kernel
theorem dX2_chainOf_50 : decode cX2_chainOf 50 = .ok (.istore 4, 2) := by decide +kernel
theorem dX2_chainOf_52 : decode cX2_chainOf 52 = .ok (.iinc 5 1, 3) := by decide +kernel
theorem dX2_chainOf_55 : decode cX2_chainOf 55 = .ok (.goto (-33), 3) := by decide +kernel
theorem dX2_chainOf_58 : decode cX2_chainOf 58 = .ok (.iload 4, 2) := by decide +kernel
theorem dX2_chainOf_60 : decode cX2_chainOf 60 = .ok (.ireturn, 1) := by decide +kernel
theorem dX2_withLinked_0 : decode cX2_withLinked 0 = .ok (.iconst 0, 1) := by decide +kernel
theorem dX2_withLinked_1 : decode cX2_withLinked 1 = .ok (.istore_n 3, 1) := by decide +kernel
theorem dX2_withLinked_2 : decode cX2_withLinked 2 = .ok (.iconst 0, 1) := by decide +kernel
theorem dX2_withLinked_3 : decode cX2_withLinked 3 = .ok (.istore 4, 2) := by decide +kernel
theorem dX2_withLinked_5 : decode cX2_withLinked 5 = .ok (.iconst 0, 1) := by decide +kernel
theorem dX2_withLinked_6 : decode cX2_withLinked 6 = .ok (.istore 5, 2) := by decide +kernel
theorem dX2_withLinked_8 : decode cX2_withLinked 8 = .ok (.iload 5, 2) := by decide +kernel
theorem dX2_withLinked_10 : decode cX2_withLinked 10 = .ok (.bipush 14, 2) := by decide +kernel
theorem dX2_withLinked_12 : decode cX2_withLinked 12 = .ok (.if_icmp .ge 48, 3) := by decide +kernel
theorem dX2_withLinked_15 : decode cX2_withLinked 15 = .ok (.iload_n 1, 1) := by decide +kernel
theorem dX2_withLinked_16 : decode cX2_withLinked 16 = .ok (.iload 5, 2) := by decide +kernel
theorem dX2_withLinked_18 : decode cX2_withLinked 18 = .ok (.invokestatic 75, 3) := by decide +kernel
theorem dX2_withLinked_21 : decode cX2_withLinked 21 = .ok (.ifCond .eq 33, 3) := by decide +kernel
theorem dX2_withLinked_24 : decode cX2_withLinked 24 = .ok (.iload_n 3, 1) := by decide +kernel
theorem dX2_withLinked_25 : decode cX2_withLinked 25 = .ok (.iconst 1, 1) := by decide +kernel
theorem dX2_withLinked_26 : decode cX2_withLinked 26 = .ok (.aload_n 0, 1) := by decide +kernel
theorem dX2_withLinked_27 : decode cX2_withLinked 27 = .ok (.getfield 21, 3) := by decide +kernel
theorem dX2_withLinked_30 : decode cX2_withLinked 30 = .ok (.getfield 111, 3) := by decide +kernel
theorem dX2_withLinked_33 : decode cX2_withLinked 33 = .ok (.iload 5, 2) := by decide +kernel
theorem dX2_withLinked_35 : decode cX2_withLinked 35 = .ok (.iaload, 1) := by decide +kernel
theorem dX2_withLinked_36 : decode cX2_withLinked 36 = .ok (.ishl, 1) := by decide +kernel
theorem dX2_withLinked_37 : decode cX2_withLinked 37 = .ok (.ior, 1) := by decide +kernel
theorem dX2_withLinked_38 : decode cX2_withLinked 38 = .ok (.istore_n 3, 1) := by decide +kernel
theorem dX2_withLinked_39 : decode cX2_withLinked 39 = .ok (.iload 4, 2) := by decide +kernel
theorem dX2_withLinked_41 : decode cX2_withLinked 41 = .ok (.aload_n 0, 1) := by decide +kernel
theorem dX2_withLinked_42 : decode cX2_withLinked 42 = .ok (.getfield 21, 3) := by decide +kernel
theorem dX2_withLinked_45 : decode cX2_withLinked 45 = .ok (.getfield 102, 3) := by decide +kernel
theorem dX2_withLinked_48 : decode cX2_withLinked 48 = .ok (.iload 5, 2) := by decide +kernel
theorem dX2_withLinked_50 : decode cX2_withLinked 50 = .ok (.iaload, 1) := by decide +kernel
theorem dX2_withLinked_51 : decode cX2_withLinked 51 = .ok (.ior, 1) := by decide +kernel
theorem dX2_withLinked_52 : decode cX2_withLinked 52 = .ok (.istore 4, 2) := by decide +kernel
theorem dX2_withLinked_54 : decode cX2_withLinked 54 = .ok (.iinc 5 1, 3) := by decide +kernel
theorem dX2_withLinked_57 : decode cX2_withLinked 57 = .ok (.goto (-49), 3) := by decide +kernel
theorem dX2_withLinked_60 : decode cX2_withLinked 60 = .ok (.iload_n 1, 1) := by decide +kernel
theorem dX2_withLinked_61 : decode cX2_withLinked 61 = .ok (.istore 5, 2) := by decide +kernel
theorem dX2_withLinked_63 : decode cX2_withLinked 63 = .ok (.iconst 0, 1) := by decide +kernel
theorem dX2_withLinked_64 : decode cX2_withLinked 64 = .ok (.istore 6, 2) := by decide +kernel
theorem dX2_withLinked_66 : decode cX2_withLinked 66 = .ok (.iload 6, 2) := by decide +kernel
theorem dX2_withLinked_68 : decode cX2_withLinked 68 = .ok (.bipush 14, 2) := by decide +kernel
theorem dX2_withLinked_70 : decode cX2_withLinked 70 = .ok (.if_icmp .ge 78, 3) := by decide +kernel
theorem dX2_withLinked_73 : decode cX2_withLinked 73 = .ok (.iload_n 3, 1) := by decide +kernel
theorem dX2_withLinked_74 : decode cX2_withLinked 74 = .ok (.aload_n 0, 1) := by decide +kernel
theorem dX2_withLinked_75 : decode cX2_withLinked 75 = .ok (.getfield 21, 3) := by decide +kernel
theorem dX2_withLinked_78 : decode cX2_withLinked 78 = .ok (.getfield 111, 3) := by decide +kernel
theorem dX2_withLinked_81 : decode cX2_withLinked 81 = .ok (.iload 6, 2) := by decide +kernel
theorem dX2_withLinked_83 : decode cX2_withLinked 83 = .ok (.iaload, 1) := by decide +kernel
theorem dX2_withLinked_84 : decode cX2_withLinked 84 = .ok (.invokestatic 75, 3) := by decide +kernel
theorem dX2_withLinked_87 : decode cX2_withLinked 87 = .ok (.ifCond .ne 19, 3) := by decide +kernel
theorem dX2_withLinked_90 : decode cX2_withLinked 90 = .ok (.iload 4, 2) := by decide +kernel
theorem dX2_withLinked_92 : decode cX2_withLinked 92 = .ok (.aload_n 0, 1) := by decide +kernel
theorem dX2_withLinked_93 : decode cX2_withLinked 93 = .ok (.getfield 21, 3) := by decide +kernel
theorem dX2_withLinked_96 : decode cX2_withLinked 96 = .ok (.getfield 102, 3) := by decide +kernel
theorem dX2_withLinked_99 : decode cX2_withLinked 99 = .ok (.iload 6, 2) := by decide +kernel
theorem dX2_withLinked_101 : decode cX2_withLinked 101 = .ok (.iaload, 1) := by decide +kernel
theorem dX2_withLinked_102 : decode cX2_withLinked 102 = .ok (.iand, 1) := by decide +kernel
theorem dX2_withLinked_103 : decode cX2_withLinked 103 = .ok (.ifCond .eq 7, 3) := by decide +kernel
theorem dX2_withLinked_106 : decode cX2_withLinked 106 = .ok (.iconst 1, 1) := by decide +kernel
theorem dX2_withLinked_107 : decode cX2_withLinked 107 = .ok (.goto 4, 3) := by decide +kernel
theorem dX2_withLinked_110 : decode cX2_withLinked 110 = .ok (.iconst 0, 1) := by decide +kernel
theorem dX2_withLinked_111 : decode cX2_withLinked 111 = .ok (.istore 7, 2) := by decide +kernel
theorem dX2_withLinked_113 : decode cX2_withLinked 113 = .ok (.iload 7, 2) := by decide +kernel
theorem dX2_withLinked_115 : decode cX2_withLinked 115 = .ok (.ifCond .eq 27, 3) := by decide +kernel
theorem dX2_withLinked_118 : decode cX2_withLinked 118 = .ok (.aload_n 0, 1) := by decide +kernel
theorem dX2_withLinked_119 : decode cX2_withLinked 119 = .ok (.getfield 21, 3) := by decide +kernel
theorem dX2_withLinked_122 : decode cX2_withLinked 122 = .ok (.getfield 105, 3) := by decide +kernel
theorem dX2_withLinked_125 : decode cX2_withLinked 125 = .ok (.iload 6, 2) := by decide +kernel
theorem dX2_withLinked_127 : decode cX2_withLinked 127 = .ok (.iaload, 1) := by decide +kernel
theorem dX2_withLinked_128 : decode cX2_withLinked 128 = .ok (.iload_n 2, 1) := by decide +kernel
theorem dX2_withLinked_129 : decode cX2_withLinked 129 = .ok (.iand, 1) := by decide +kernel
theorem dX2_withLinked_130 : decode cX2_withLinked 130 = .ok (.ifCond .eq 12, 3) := by decide +kernel
theorem dX2_withLinked_133 : decode cX2_withLinked 133 = .ok (.iload 5, 2) := by decide +kernel
theorem dX2_withLinked_135 : decode cX2_withLinked 135 = .ok (.iconst 1, 1) := by decide +kernel
theorem dX2_withLinked_136 : decode cX2_withLinked 136 = .ok (.iload 6, 2) := by decide +kernel
theorem dX2_withLinked_138 : decode cX2_withLinked 138 = .ok (.ishl, 1) := by decide +kernel
theorem dX2_withLinked_139 : decode cX2_withLinked 139 = .ok (.ior, 1) := by decide +kernel
theorem dX2_withLinked_140 : decode cX2_withLinked 140 = .ok (.istore 5, 2) := by decide +kernel
theorem dX2_withLinked_142 : decode cX2_withLinked 142 = .ok (.iinc 6 1, 3) := by decide +kernel
theorem dX2_withLinked_145 : decode cX2_withLinked 145 = .ok (.goto (-79), 3) := by decide +kernel
theorem dX2_withLinked_148 : decode cX2_withLinked 148 = .ok (.iload 5, 2) := by decide +kernel
theorem dX2_withLinked_150 : decode cX2_withLinked 150 = .ok (.ireturn, 1) := by decide +kernel
theorem dX2_findRooms_0 : decode cX2_findRooms 0 = .ok (.aload_n 0, 1) := by decide +kernel
theorem dX2_findRooms_1 : decode cX2_findRooms 1 = .ok (.iload_n 1, 1) := by decide +kernel
theorem dX2_findRooms_2 : decode cX2_findRooms 2 = .ok (.iload_n 2, 1) := by decide +kernel
theorem dX2_findRooms_3 : decode cX2_findRooms 3 = .ok (.iload_n 3, 1) := by decide +kernel
theorem dX2_findRooms_4 : decode cX2_findRooms 4 = .ok (.invokevirtual 114, 3) := by decide +kernel
theorem dX2_findRooms_7 : decode cX2_findRooms 7 = .ok (.ifCond .eq 61, 3) := by decide +kernel
theorem dX2_findRooms_10 : decode cX2_findRooms 10 = .ok (.aload_n 0, 1) := by decide +kernel
theorem dX2_findRooms_11 : decode cX2_findRooms 11 = .ok (.getfield 21, 3) := by decide +kernel
theorem dX2_findRooms_14 : decode cX2_findRooms 14 = .ok (.aload_n 0, 1) := by decide +kernel
theorem dX2_findRooms_15 : decode cX2_findRooms 15 = .ok (.getfield 15, 3) := by decide +kernel
theorem dX2_findRooms_18 : decode cX2_findRooms 18 = .ok (.aload_n 0, 1) := by decide +kernel
theorem dX2_findRooms_19 : decode cX2_findRooms 19 = .ok (.iload_n 1, 1) := by decide +kernel
theorem dX2_findRooms_20 : decode cX2_findRooms 20 = .ok (.iload_n 3, 1) := by decide +kernel
theorem dX2_findRooms_21 : decode cX2_findRooms 21 = .ok (.invokevirtual 117, 3) := by decide +kernel
theorem dX2_findRooms_24 : decode cX2_findRooms 24 = .ok (.aload_n 0, 1) := by decide +kernel
theorem dX2_findRooms_25 : decode cX2_findRooms 25 = .ok (.iload_n 1, 1) := by decide +kernel
theorem dX2_findRooms_26 : decode cX2_findRooms 26 = .ok (.iload_n 2, 1) := by decide +kernel
theorem dX2_findRooms_27 : decode cX2_findRooms 27 = .ok (.invokevirtual 120, 3) := by decide +kernel
theorem dX2_findRooms_30 : decode cX2_findRooms 30 = .ok (.iconst 0, 1) := by decide +kernel
theorem dX2_findRooms_31 : decode cX2_findRooms 31 = .ok (.invokestatic 123, 3) := by decide +kernel
theorem dX2_findRooms_34 : decode cX2_findRooms 34 = .ok (.ifCond .eq 34, 3) := by decide +kernel
theorem dX2_findRooms_37 : decode cX2_findRooms 37 = .ok (.aload_n 0, 1) := by decide +kernel
theorem dX2_findRooms_38 : decode cX2_findRooms 38 = .ok (.getfield 21, 3) := by decide +kernel
theorem dX2_findRooms_41 : decode cX2_findRooms 41 = .ok (.aload_n 0, 1) := by decide +kernel
theorem dX2_findRooms_42 : decode cX2_findRooms 42 = .ok (.getfield 15, 3) := by decide +kernel
theorem dX2_findRooms_45 : decode cX2_findRooms 45 = .ok (.aload_n 0, 1) := by decide +kernel
theorem dX2_findRooms_46 : decode cX2_findRooms 46 = .ok (.iload_n 1, 1) := by decide +kernel
theorem dX2_findRooms_47 : decode cX2_findRooms 47 = .ok (.iload_n 2, 1) := by decide +kernel
theorem dX2_findRooms_48 : decode cX2_findRooms 48 = .ok (.invokevirtual 117, 3) := by decide +kernel
theorem dX2_findRooms_51 : decode cX2_findRooms 51 = .ok (.aload_n 0, 1) := by decide +kernel
theorem dX2_findRooms_52 : decode cX2_findRooms 52 = .ok (.iload_n 1, 1) := by decide +kernel
theorem dX2_findRooms_53 : decode cX2_findRooms 53 = .ok (.iload_n 3, 1) := by decide +kernel
theorem dX2_findRooms_54 : decode cX2_findRooms 54 = .ok (.invokevirtual 120, 3) := by decide +kernel
theorem dX2_findRooms_57 : decode cX2_findRooms 57 = .ok (.iconst 0, 1) := by decide +kernel
theorem dX2_findRooms_58 : decode cX2_findRooms 58 = .ok (.invokestatic 123, 3) := by decide +kernel
theorem dX2_findRooms_61 : decode cX2_findRooms 61 = .ok (.ifCond .eq 7, 3) := by decide +kernel
theorem dX2_findRooms_64 : decode cX2_findRooms 64 = .ok (.iconst 1, 1) := by decide +kernel
theorem dX2_findRooms_65 : decode cX2_findRooms 65 = .ok (.goto 4, 3) := by decide +kernel
theorem dX2_findRooms_68 : decode cX2_findRooms 68 = .ok (.iconst 0, 1) := by decide +kernel
theorem dX2_findRooms_69 : decode cX2_findRooms 69 = .ok (.ireturn, 1) := by decide +kernel
theorem dX2_canSwap_0 : decode cX2_canSwap 0 = .ok (.iconst 1, 1) := by decide +kernel
theorem dX2_canSwap_1 : decode cX2_canSwap 1 = .ok (.iload_n 2, 1) := by decide +kernel
theorem dX2_canSwap_2 : decode cX2_canSwap 2 = .ok (.ishl, 1) := by decide +kernel
theorem dX2_canSwap_3 : decode cX2_canSwap 3 = .ok (.iconst 1, 1) := by decide +kernel
theorem dX2_canSwap_4 : decode cX2_canSwap 4 = .ok (.iload_n 3, 1) := by decide +kernel
theorem dX2_canSwap_5 : decode cX2_canSwap 5 = .ok (.ishl, 1) := by decide +kernel
theorem dX2_canSwap_6 : decode cX2_canSwap 6 = .ok (.ior, 1) := by decide +kernel
theorem dX2_canSwap_7 : decode cX2_canSwap 7 = .ok (.istore 4, 2) := by decide +kernel
theorem dX2_canSwap_9 : decode cX2_canSwap 9 = .ok (.iconst 0, 1) := by decide +kernel
theorem dX2_canSwap_10 : decode cX2_canSwap 10 = .ok (.istore 5, 2) := by decide +kernel
theorem dX2_canSwap_12 : decode cX2_canSwap 12 = .ok (.iload 5, 2) := by decide +kernel
theorem dX2_canSwap_14 : decode cX2_canSwap 14 = .ok (.bipush 14, 2) := by decide +kernel
theorem dX2_canSwap_16 : decode cX2_canSwap 16 = .ok (.if_icmp .ge 74, 3) := by decide +kernel
theorem dX2_canSwap_19 : decode cX2_canSwap 19 = .ok (.iload_n 1, 1) := by decide +kernel
theorem dX2_canSwap_20 : decode cX2_canSwap 20 = .ok (.iload 5, 2) := by decide +kernel
theorem dX2_canSwap_22 : decode cX2_canSwap 22 = .ok (.invokestatic 75, 3) := by decide +kernel
theorem dX2_canSwap_25 : decode cX2_canSwap 25 = .ok (.ifCond .eq 59, 3) := by decide +kernel
theorem dX2_canSwap_28 : decode cX2_canSwap 28 = .ok (.aload_n 0, 1) := by decide +kernel
theorem dX2_canSwap_29 : decode cX2_canSwap 29 = .ok (.getfield 21, 3) := by decide +kernel
theorem dX2_canSwap_32 : decode cX2_canSwap 32 = .ok (.getfield 127, 3) := by decide +kernel
theorem dX2_canSwap_35 : decode cX2_canSwap 35 = .ok (.iload 5, 2) := by decide +kernel
theorem dX2_canSwap_37 : decode cX2_canSwap 37 = .ok (.iaload, 1) := by decide +kernel
theorem dX2_canSwap_38 : decode cX2_canSwap 38 = .ok (.iconst 1, 1) := by decide +kernel
theorem dX2_canSwap_39 : decode cX2_canSwap 39 = .ok (.if_icmp .ne 43, 3) := by decide +kernel
theorem dX2_canSwap_42 : decode cX2_canSwap 42 = .ok (.aload_n 0, 1) := by decide +kernel
theorem dX2_canSwap_43 : decode cX2_canSwap 43 = .ok (.getfield 21, 3) := by decide +kernel
theorem dX2_canSwap_46 : decode cX2_canSwap 46 = .ok (.getfield 79, 3) := by decide +kernel
theorem dX2_canSwap_49 : decode cX2_canSwap 49 = .ok (.iload 5, 2) := by decide +kernel
theorem dX2_canSwap_51 : decode cX2_canSwap 51 = .ok (.baload, 1) := by decide +kernel
theorem dX2_canSwap_52 : decode cX2_canSwap 52 = .ok (.ifCond .ne 30, 3) := by decide +kernel
theorem dX2_canSwap_55 : decode cX2_canSwap 55 = .ok (.aload_n 0, 1) := by decide +kernel
theorem dX2_canSwap_56 : decode cX2_canSwap 56 = .ok (.getfield 21, 3) := by decide +kernel
theorem dX2_canSwap_59 : decode cX2_canSwap 59 = .ok (.iload 5, 2) := by decide +kernel
theorem dX2_canSwap_61 : decode cX2_canSwap 61 = .ok (.iload 4, 2) := by decide +kernel
theorem dX2_canSwap_63 : decode cX2_canSwap 63 = .ok (.aload_n 0, 1) := by decide +kernel
theorem dX2_canSwap_64 : decode cX2_canSwap 64 = .ok (.getfield 21, 3) := by decide +kernel
theorem dX2_canSwap_67 : decode cX2_canSwap 67 = .ok (.getfield 105, 3) := by decide +kernel
theorem dX2_canSwap_70 : decode cX2_canSwap 70 = .ok (.iload 5, 2) := by decide +kernel
theorem dX2_canSwap_72 : decode cX2_canSwap 72 = .ok (.iaload, 1) := by decide +kernel
theorem dX2_canSwap_73 : decode cX2_canSwap 73 = .ok (.iconst (-1), 1) := by decide +kernel
theorem dX2_canSwap_74 : decode cX2_canSwap 74 = .ok (.ixor, 1) := by decide +kernel
theorem dX2_canSwap_75 : decode cX2_canSwap 75 = .ok (.iand, 1) := by decide +kernel
theorem dX2_canSwap_76 : decode cX2_canSwap 76 = .ok (.invokevirtual 130, 3) := by decide +kernel
theorem dX2_canSwap_79 : decode cX2_canSwap 79 = .ok (.ifCond .ne 5, 3) := by decide +kernel
theorem dX2_canSwap_82 : decode cX2_canSwap 82 = .ok (.iconst 0, 1) := by decide +kernel
theorem dX2_canSwap_83 : decode cX2_canSwap 83 = .ok (.ireturn, 1) := by decide +kernel
theorem dX2_canSwap_84 : decode cX2_canSwap 84 = .ok (.iinc 5 1, 3) := by decide +kernel
theorem dX2_canSwap_87 : decode cX2_canSwap 87 = .ok (.goto (-75), 3) := by decide +kernel
theorem dX2_canSwap_90 : decode cX2_canSwap 90 = .ok (.iconst 1, 1) := by decide +kernel
theorem dX2_canSwap_91 : decode cX2_canSwap 91 = .ok (.ireturn, 1) := by decide +kernel
theorem dX2_membersIn_0 : decode cX2_membersIn 0 = .ok (.iconst 0, 1) := by decide +kernel
theorem dX2_membersIn_1 : decode cX2_membersIn 1 = .ok (.istore_n 3, 1) := by decide +kernel
theorem dX2_membersIn_2 : decode cX2_membersIn 2 = .ok (.iconst 0, 1) := by decide +kernel
theorem dX2_membersIn_3 : decode cX2_membersIn 3 = .ok (.istore 4, 2) := by decide +kernel
theorem dX2_membersIn_5 : decode cX2_membersIn 5 = .ok (.iload 4, 2) := by decide +kernel
theorem dX2_membersIn_7 : decode cX2_membersIn 7 = .ok (.bipush 14, 2) := by decide +kernel
theorem dX2_membersIn_9 : decode cX2_membersIn 9 = .ok (.if_icmp .ge 42, 3) := by decide +kernel
theorem dX2_membersIn_12 : decode cX2_membersIn 12 = .ok (.iload_n 1, 1) := by decide +kernel
theorem dX2_membersIn_13 : decode cX2_membersIn 13 = .ok (.iload 4, 2) := by decide +kernel
theorem dX2_membersIn_15 : decode cX2_membersIn 15 = .ok (.invokestatic 75, 3) := by decide +kernel
theorem dX2_membersIn_18 : decode cX2_membersIn 18 = .ok (.ifCond .eq 27, 3) := by decide +kernel
theorem dX2_membersIn_21 : decode cX2_membersIn 21 = .ok (.aload_n 0, 1) := by decide +kernel
theorem dX2_membersIn_22 : decode cX2_membersIn 22 = .ok (.getfield 21, 3) := by decide +kernel
theorem dX2_membersIn_25 : decode cX2_membersIn 25 = .ok (.getfield 105, 3) := by decide +kernel
theorem dX2_membersIn_28 : decode cX2_membersIn 28 = .ok (.iload 4, 2) := by decide +kernel
theorem dX2_membersIn_30 : decode cX2_membersIn 30 = .ok (.iaload, 1) := by decide +kernel
theorem dX2_membersIn_31 : decode cX2_membersIn 31 = .ok (.iload_n 2, 1) := by decide +kernel
theorem dX2_membersIn_32 : decode cX2_membersIn 32 = .ok (.invokestatic 75, 3) := by decide +kernel
theorem dX2_membersIn_35 : decode cX2_membersIn 35 = .ok (.ifCond .eq 10, 3) := by decide +kernel
theorem dX2_membersIn_38 : decode cX2_membersIn 38 = .ok (.iload_n 3, 1) := by decide +kernel
theorem dX2_membersIn_39 : decode cX2_membersIn 39 = .ok (.iconst 1, 1) := by decide +kernel
theorem dX2_membersIn_40 : decode cX2_membersIn 40 = .ok (.iload 4, 2) := by decide +kernel
theorem dX2_membersIn_42 : decode cX2_membersIn 42 = .ok (.ishl, 1) := by decide +kernel
theorem dX2_membersIn_43 : decode cX2_membersIn 43 = .ok (.ior, 1) := by decide +kernel
theorem dX2_membersIn_44 : decode cX2_membersIn 44 = .ok (.istore_n 3, 1) := by decide +kernel
theorem dX2_membersIn_45 : decode cX2_membersIn 45 = .ok (.iinc 4 1, 3) := by decide +kernel
theorem dX2_membersIn_48 : decode cX2_membersIn 48 = .ok (.goto (-43), 3) := by decide +kernel
theorem dX2_membersIn_51 : decode cX2_membersIn 51 = .ok (.iload_n 3, 1) := by decide +kernel
theorem dX2_membersIn_52 : decode cX2_membersIn 52 = .ok (.ireturn, 1) := by decide +kernel
theorem dX2_openRooms_0 : decode cX2_openRooms 0 = .ok (.bipush 63, 2) := by decide +kernel
theorem dX2_openRooms_2 : decode cX2_openRooms 2 = .ok (.istore_n 3, 1) := by decide +kernel
theorem dX2_openRooms_3 : decode cX2_openRooms 3 = .ok (.iconst 0, 1) := by decide +kernel
theorem dX2_openRooms_4 : decode cX2_openRooms 4 = .ok (.istore 4, 2) := by decide +kernel
theorem dX2_openRooms_6 : decode cX2_openRooms 6 = .ok (.iload 4, 2) := by decide +kernel
theorem dX2_openRooms_8 : decode cX2_openRooms 8 = .ok (.bipush 14, 2) := by decide +kernel
theorem dX2_openRooms_10 : decode cX2_openRooms 10 = .ok (.if_icmp .ge 55, 3) := by decide +kernel
theorem dX2_openRooms_13 : decode cX2_openRooms 13 = .ok (.iload_n 1, 1) := by decide +kernel
theorem dX2_openRooms_14 : decode cX2_openRooms 14 = .ok (.iload 4, 2) := by decide +kernel
theorem dX2_openRooms_16 : decode cX2_openRooms 16 = .ok (.invokestatic 75, 3) := by decide +kernel
theorem dX2_openRooms_19 : decode cX2_openRooms 19 = .ok (.ifCond .ne 40, 3) := by decide +kernel
theorem dX2_openRooms_22 : decode cX2_openRooms 22 = .ok (.aload_n 0, 1) := by decide +kernel
theorem dX2_openRooms_23 : decode cX2_openRooms 23 = .ok (.getfield 21, 3) := by decide +kernel
theorem dX2_openRooms_26 : decode cX2_openRooms 26 = .ok (.getfield 105, 3) := by decide +kernel
theorem dX2_openRooms_29 : decode cX2_openRooms 29 = .ok (.iload 4, 2) := by decide +kernel
theorem dX2_openRooms_31 : decode cX2_openRooms 31 = .ok (.iaload, 1) := by decide +kernel
theorem dX2_openRooms_32 : decode cX2_openRooms 32 = .ok (.iload_n 2, 1) := by decide +kernel
theorem dX2_openRooms_33 : decode cX2_openRooms 33 = .ok (.invokestatic 75, 3) := by decide +kernel
theorem dX2_openRooms_36 : decode cX2_openRooms 36 = .ok (.ifCond .eq 23, 3) := by decide +kernel
theorem dX2_openRooms_39 : decode cX2_openRooms 39 = .ok (.iload_n 3, 1) := by decide +kernel
theorem dX2_openRooms_40 : decode cX2_openRooms 40 = .ok (.iconst 1, 1) := by decide +kernel
theorem dX2_openRooms_41 : decode cX2_openRooms 41 = .ok (.aload_n 0, 1) := by decide +kernel
theorem dX2_openRooms_42 : decode cX2_openRooms 42 = .ok (.getfield 21, 3) := by decide +kernel
theorem dX2_openRooms_45 : decode cX2_openRooms 45 = .ok (.getfield 48, 3) := by decide +kernel
theorem dX2_openRooms_48 : decode cX2_openRooms 48 = .ok (.iload 4, 2) := by decide +kernel
theorem dX2_openRooms_50 : decode cX2_openRooms 50 = .ok (.iaload, 1) := by decide +kernel
theorem dX2_openRooms_51 : decode cX2_openRooms 51 = .ok (.bipush 6, 2) := by decide +kernel
theorem dX2_openRooms_53 : decode cX2_openRooms 53 = .ok (.irem, 1) := by decide +kernel
theorem dX2_openRooms_54 : decode cX2_openRooms 54 = .ok (.ishl, 1) := by decide +kernel
theorem dX2_openRooms_55 : decode cX2_openRooms 55 = .ok (.iconst (-1), 1) := by decide +kernel
theorem dX2_openRooms_56 : decode cX2_openRooms 56 = .ok (.ixor, 1) := by decide +kernel
theorem dX2_openRooms_57 : decode cX2_openRooms 57 = .ok (.iand, 1) := by decide +kernel
theorem dX2_openRooms_58 : decode cX2_openRooms 58 = .ok (.istore_n 3, 1) := by decide +kernel
theorem dX2_openRooms_59 : decode cX2_openRooms 59 = .ok (.iinc 4 1, 3) := by decide +kernel
theorem dX2_openRooms_62 : decode cX2_openRooms 62 = .ok (.goto (-56), 3) := by decide +kernel
theorem dX2_openRooms_65 : decode cX2_openRooms 65 = .ok (.iload_n 3, 1) := by decide +kernel
theorem dX2_openRooms_66 : decode cX2_openRooms 66 = .ok (.ireturn, 1) := by decide +kernel
theorem dX2_giveRooms_0 : decode cX2_giveRooms 0 = .ok (.iload 4, 2) := by decide +kernel
theorem dX2_giveRooms_2 : decode cX2_giveRooms 2 = .ok (.ifCond .lt 10, 3) := by decide +kernel
theorem dX2_giveRooms_5 : decode cX2_giveRooms 5 = .ok (.iload 4, 2) := by decide +kernel
theorem dX2_giveRooms_7 : decode cX2_giveRooms 7 = .ok (.bipush 14, 2) := by decide +kernel
theorem dX2_giveRooms_9 : decode cX2_giveRooms 9 = .ok (.if_icmp .lt 5, 3) := by decide +kernel
theorem dX2_giveRooms_12 : decode cX2_giveRooms 12 = .ok (.iconst 1, 1) := by decide +kernel
theorem dX2_giveRooms_13 : decode cX2_giveRooms 13 = .ok (.ireturn, 1) := by decide +kernel
theorem dX2_giveRooms_14 : decode cX2_giveRooms 14 = .ok (.iload_n 2, 1) := by decide +kernel
theorem dX2_giveRooms_15 : decode cX2_giveRooms 15 = .ok (.iload 4, 2) := by decide +kernel
theorem dX2_giveRooms_17 : decode cX2_giveRooms 17 = .ok (.invokestatic 75, 3) := by decide +kernel
theorem dX2_giveRooms_20 : decode cX2_giveRooms 20 = .ok (.ifCond .ne 15, 3) := by decide +kernel
theorem dX2_giveRooms_23 : decode cX2_giveRooms 23 = .ok (.aload_n 0, 1) := by decide +kernel
theorem dX2_giveRooms_24 : decode cX2_giveRooms 24 = .ok (.aload_n 1, 1) := by decide +kernel
theorem dX2_giveRooms_25 : decode cX2_giveRooms 25 = .ok (.iload_n 2, 1) := by decide +kernel
theorem dX2_giveRooms_26 : decode cX2_giveRooms 26 = .ok (.iload_n 3, 1) := by decide +kernel
theorem dX2_giveRooms_27 : decode cX2_giveRooms 27 = .ok (.iload 4, 2) := by decide +kernel
theorem dX2_giveRooms_29 : decode cX2_giveRooms 29 = .ok (.iconst 1, 1) := by decide +kernel
theorem dX2_giveRooms_30 : decode cX2_giveRooms 30 = .ok (.iadd, 1) := by decide +kernel
theorem dX2_giveRooms_31 : decode cX2_giveRooms 31 = .ok (.invokestatic 123, 3) := by decide +kernel
theorem dX2_giveRooms_34 : decode cX2_giveRooms 34 = .ok (.ireturn, 1) := by decide +kernel
theorem dX2_giveRooms_35 : decode cX2_giveRooms 35 = .ok (.aload_n 0, 1) := by decide +kernel
theorem dX2_giveRooms_36 : decode cX2_giveRooms 36 = .ok (.iload 4, 2) := by decide +kernel
theorem dX2_giveRooms_38 : decode cX2_giveRooms 38 = .ok (.invokevirtual 133, 3) := by decide +kernel
theorem dX2_giveRooms_41 : decode cX2_giveRooms 41 = .ok (.istore 5, 2) := by decide +kernel
theorem dX2_giveRooms_43 : decode cX2_giveRooms 43 = .ok (.iconst 0, 1) := by decide +kernel
theorem dX2_giveRooms_44 : decode cX2_giveRooms 44 = .ok (.istore 6, 2) := by decide +kernel
theorem dX2_giveRooms_46 : decode cX2_giveRooms 46 = .ok (.iload 6, 2) := by decide +kernel
theorem dX2_giveRooms_48 : decode cX2_giveRooms 48 = .ok (.bipush 6, 2) := by decide +kernel
theorem dX2_giveRooms_50 : decode cX2_giveRooms 50 = .ok (.if_icmp .ge 70, 3) := by decide +kernel
theorem dX2_giveRooms_53 : decode cX2_giveRooms 53 = .ok (.iload_n 3, 1) := by decide +kernel
theorem dX2_giveRooms_54 : decode cX2_giveRooms 54 = .ok (.iload 6, 2) := by decide +kernel
theorem dX2_giveRooms_56 : decode cX2_giveRooms 56 = .ok (.invokestatic 75, 3) := by decide +kernel
theorem dX2_giveRooms_59 : decode cX2_giveRooms 59 = .ok (.ifCond .eq 55, 3) := by decide +kernel
theorem dX2_giveRooms_62 : decode cX2_giveRooms 62 = .ok (.aload_n 0, 1) := by decide +kernel
theorem dX2_giveRooms_63 : decode cX2_giveRooms 63 = .ok (.getfield 136, 3) := by decide +kernel
theorem dX2_giveRooms_66 : decode cX2_giveRooms 66 = .ok (.iload 6, 2) := by decide +kernel
theorem dX2_giveRooms_68 : decode cX2_giveRooms 68 = .ok (.iaload, 1) := by decide +kernel
theorem dX2_giveRooms_69 : decode cX2_giveRooms 69 = .ok (.iload 5, 2) := by decide +kernel
theorem dX2_giveRooms_71 : decode cX2_giveRooms 71 = .ok (.if_icmp .lt 43, 3) := by decide +kernel
theorem dX2_giveRooms_74 : decode cX2_giveRooms 74 = .ok (.aload_n 0, 1) := by decide +kernel
theorem dX2_giveRooms_75 : decode cX2_giveRooms 75 = .ok (.iload 4, 2) := by decide +kernel
theorem dX2_giveRooms_77 : decode cX2_giveRooms 77 = .ok (.iload 6, 2) := by decide +kernel
theorem dX2_giveRooms_79 : decode cX2_giveRooms 79 = .ok (.invokevirtual 139, 3) := by decide +kernel
theorem dX2_giveRooms_82 : decode cX2_giveRooms 82 = .ok (.ifCond .eq 32, 3) := by decide +kernel
theorem dX2_giveRooms_85 : decode cX2_giveRooms 85 = .ok (.aload_n 1, 1) := by decide +kernel
theorem dX2_giveRooms_86 : decode cX2_giveRooms 86 = .ok (.iload 4, 2) := by decide +kernel
theorem dX2_giveRooms_88 : decode cX2_giveRooms 88 = .ok (.iload 6, 2) := by decide +kernel
theorem dX2_giveRooms_90 : decode cX2_giveRooms 90 = .ok (.iastore, 1) := by decide +kernel
theorem dX2_giveRooms_91 : decode cX2_giveRooms 91 = .ok (.aload_n 0, 1) := by decide +kernel
theorem dX2_giveRooms_92 : decode cX2_giveRooms 92 = .ok (.aload_n 1, 1) := by decide +kernel
theorem dX2_giveRooms_93 : decode cX2_giveRooms 93 = .ok (.iload_n 2, 1) := by decide +kernel
theorem dX2_giveRooms_94 : decode cX2_giveRooms 94 = .ok (.iload_n 3, 1) := by decide +kernel
theorem dX2_giveRooms_95 : decode cX2_giveRooms 95 = .ok (.iconst 1, 1) := by decide +kernel
theorem dX2_giveRooms_96 : decode cX2_giveRooms 96 = .ok (.iload 6, 2) := by decide +kernel
theorem dX2_giveRooms_98 : decode cX2_giveRooms 98 = .ok (.ishl, 1) := by decide +kernel
theorem dX2_giveRooms_99 : decode cX2_giveRooms 99 = .ok (.iconst (-1), 1) := by decide +kernel
theorem dX2_giveRooms_100 : decode cX2_giveRooms 100 = .ok (.ixor, 1) := by decide +kernel
theorem dX2_giveRooms_101 : decode cX2_giveRooms 101 = .ok (.iand, 1) := by decide +kernel
theorem dX2_giveRooms_102 : decode cX2_giveRooms 102 = .ok (.iload 4, 2) := by decide +kernel
theorem dX2_giveRooms_104 : decode cX2_giveRooms 104 = .ok (.iconst 1, 1) := by decide +kernel
theorem dX2_giveRooms_105 : decode cX2_giveRooms 105 = .ok (.iadd, 1) := by decide +kernel
theorem dX2_giveRooms_106 : decode cX2_giveRooms 106 = .ok (.invokestatic 123, 3) := by decide +kernel
theorem dX2_giveRooms_109 : decode cX2_giveRooms 109 = .ok (.ifCond .eq 5, 3) := by decide +kernel
theorem dX2_giveRooms_112 : decode cX2_giveRooms 112 = .ok (.iconst 1, 1) := by decide +kernel
theorem dX2_giveRooms_113 : decode cX2_giveRooms 113 = .ok (.ireturn, 1) := by decide +kernel
theorem dX2_giveRooms_114 : decode cX2_giveRooms 114 = .ok (.iinc 6 1, 3) := by decide +kernel
theorem dX2_giveRooms_117 : decode cX2_giveRooms 117 = .ok (.goto (-71), 3) := by decide +kernel
theorem dX2_giveRooms_120 : decode cX2_giveRooms 120 = .ok (.iconst 0, 1) := by decide +kernel
theorem dX2_giveRooms_121 : decode cX2_giveRooms 121 = .ok (.ireturn, 1) := by decide +kernel
theorem dX2_swapSlots_0 : decode cX2_swapSlots 0 = .ok (.iconst 0, 1) := by decide +kernel
theorem dX2_swapSlots_1 : decode cX2_swapSlots 1 = .ok (.istore 4, 2) := by decide +kernel
theorem dX2_swapSlots_3 : decode cX2_swapSlots 3 = .ok (.iload 4, 2) := by decide +kernel
theorem dX2_swapSlots_5 : decode cX2_swapSlots 5 = .ok (.bipush 14, 2) := by decide +kernel
theorem dX2_swapSlots_7 : decode cX2_swapSlots 7 = .ok (.if_icmp .ge 60, 3) := by decide +kernel
theorem dX2_swapSlots_10 : decode cX2_swapSlots 10 = .ok (.iload_n 1, 1) := by decide +kernel
theorem dX2_swapSlots_11 : decode cX2_swapSlots 11 = .ok (.iload 4, 2) := by decide +kernel
theorem dX2_swapSlots_13 : decode cX2_swapSlots 13 = .ok (.invokestatic 75, 3) := by decide +kernel
theorem dX2_swapSlots_16 : decode cX2_swapSlots 16 = .ok (.ifCond .eq 45, 3) := by decide +kernel
theorem dX2_swapSlots_19 : decode cX2_swapSlots 19 = .ok (.aload_n 0, 1) := by decide +kernel
theorem dX2_swapSlots_20 : decode cX2_swapSlots 20 = .ok (.getfield 21, 3) := by decide +kernel
theorem dX2_swapSlots_23 : decode cX2_swapSlots 23 = .ok (.iload 4, 2) := by decide +kernel
theorem dX2_swapSlots_25 : decode cX2_swapSlots 25 = .ok (.invokevirtual 142, 3) := by decide +kernel
theorem dX2_swapSlots_28 : decode cX2_swapSlots 28 = .ok (.iload_n 2, 1) := by decide +kernel
theorem dX2_swapSlots_29 : decode cX2_swapSlots 29 = .ok (.if_icmp .ne 7, 3) := by decide +kernel
theorem dX2_swapSlots_32 : decode cX2_swapSlots 32 = .ok (.iload_n 3, 1) := by decide +kernel
theorem dX2_swapSlots_33 : decode cX2_swapSlots 33 = .ok (.goto 4, 3) := by decide +kernel
theorem dX2_swapSlots_36 : decode cX2_swapSlots 36 = .ok (.iload_n 2, 1) := by decide +kernel
theorem dX2_swapSlots_37 : decode cX2_swapSlots 37 = .ok (.istore 5, 2) := by decide +kernel
theorem dX2_swapSlots_39 : decode cX2_swapSlots 39 = .ok (.aload_n 0, 1) := by decide +kernel
theorem dX2_swapSlots_40 : decode cX2_swapSlots 40 = .ok (.getfield 21, 3) := by decide +kernel
theorem dX2_swapSlots_43 : decode cX2_swapSlots 43 = .ok (.iload 4, 2) := by decide +kernel
theorem dX2_swapSlots_45 : decode cX2_swapSlots 45 = .ok (.iload 5, 2) := by decide +kernel
theorem dX2_swapSlots_47 : decode cX2_swapSlots 47 = .ok (.bipush 6, 2) := by decide +kernel
theorem dX2_swapSlots_49 : decode cX2_swapSlots 49 = .ok (.imul, 1) := by decide +kernel
theorem dX2_swapSlots_50 : decode cX2_swapSlots 50 = .ok (.aload_n 0, 1) := by decide +kernel
theorem dX2_swapSlots_51 : decode cX2_swapSlots 51 = .ok (.getfield 15, 3) := by decide +kernel
theorem dX2_swapSlots_54 : decode cX2_swapSlots 54 = .ok (.iload 4, 2) := by decide +kernel
theorem dX2_swapSlots_56 : decode cX2_swapSlots 56 = .ok (.iaload, 1) := by decide +kernel
theorem dX2_swapSlots_57 : decode cX2_swapSlots 57 = .ok (.iadd, 1) := by decide +kernel
theorem dX2_swapSlots_58 : decode cX2_swapSlots 58 = .ok (.invokevirtual 61, 3) := by decide +kernel
theorem dX2_swapSlots_61 : decode cX2_swapSlots 61 = .ok (.iinc 4 1, 3) := by decide +kernel
theorem dX2_swapSlots_64 : decode cX2_swapSlots 64 = .ok (.goto (-61), 3) := by decide +kernel
theorem dX2_swapSlots_67 : decode cX2_swapSlots 67 = .ok (.return_, 1) := by decide +kernel
theorem dX2_makeStep_0 : decode cX2_makeStep 0 = .ok (.aload_n 0, 1) := by decide +kernel
theorem dX2_makeStep_1 : decode cX2_makeStep 1 = .ok (.getfield 21, 3) := by decide +kernel
theorem dX2_makeStep_4 : decode cX2_makeStep 4 = .ok (.invokevirtual 145, 3) := by decide +kernel
theorem dX2_makeStep_7 : decode cX2_makeStep 7 = .ok (.istore_n 1, 1) := by decide +kernel
theorem dX2_makeStep_8 : decode cX2_makeStep 8 = .ok (.iconst (-1), 1) := by decide +kernel
theorem dX2_makeStep_9 : decode cX2_makeStep 9 = .ok (.istore_n 2, 1) := by decide +kernel
theorem dX2_makeStep_10 : decode cX2_makeStep 10 = .ok (.iconst (-1), 1) := by decide +kernel
theorem dX2_makeStep_11 : decode cX2_makeStep 11 = .ok (.istore_n 3, 1) := by decide +kernel
theorem dX2_makeStep_12 : decode cX2_makeStep 12 = .ok (.iconst 0, 1) := by decide +kernel
theorem dX2_makeStep_13 : decode cX2_makeStep 13 = .ok (.istore 4, 2) := by decide +kernel
theorem dX2_makeStep_15 : decode cX2_makeStep 15 = .ok (.iload 4, 2) := by decide +kernel
theorem dX2_makeStep_17 : decode cX2_makeStep 17 = .ok (.bipush 14, 2) := by decide +kernel
theorem dX2_makeStep_19 : decode cX2_makeStep 19 = .ok (.if_icmp .ge 42, 3) := by decide +kernel
theorem dX2_makeStep_22 : decode cX2_makeStep 22 = .ok (.aload_n 0, 1) := by decide +kernel
theorem dX2_makeStep_23 : decode cX2_makeStep 23 = .ok (.iload 4, 2) := by decide +kernel
theorem dX2_makeStep_25 : decode cX2_makeStep 25 = .ok (.iload_n 1, 1) := by decide +kernel
theorem dX2_makeStep_26 : decode cX2_makeStep 26 = .ok (.invokevirtual 149, 3) := by decide +kernel
theorem dX2_makeStep_29 : decode cX2_makeStep 29 = .ok (.istore 5, 2) := by decide +kernel
theorem dX2_makeStep_31 : decode cX2_makeStep 31 = .ok (.iload 5, 2) := by decide +kernel
theorem dX2_makeStep_33 : decode cX2_makeStep 33 = .ok (.iconst (-1), 1) := by decide +kernel
theorem dX2_makeStep_34 : decode cX2_makeStep 34 = .ok (.if_icmp .eq 21, 3) := by decide +kernel
theorem dX2_makeStep_37 : decode cX2_makeStep 37 = .ok (.aload_n 0, 1) := by decide +kernel
theorem dX2_makeStep_38 : decode cX2_makeStep 38 = .ok (.getfield 21, 3) := by decide +kernel
theorem dX2_makeStep_41 : decode cX2_makeStep 41 = .ok (.iload 4, 2) := by decide +kernel
theorem dX2_makeStep_43 : decode cX2_makeStep 43 = .ok (.iload 5, 2) := by decide +kernel
theorem dX2_makeStep_45 : decode cX2_makeStep 45 = .ok (.invokevirtual 152, 3) := by decide +kernel
theorem dX2_makeStep_48 : decode cX2_makeStep 48 = .ok (.istore_n 1, 1) := by decide +kernel
theorem dX2_makeStep_49 : decode cX2_makeStep 49 = .ok (.iload 4, 2) := by decide +kernel
theorem dX2_makeStep_51 : decode cX2_makeStep 51 = .ok (.istore_n 2, 1) := by decide +kernel
theorem dX2_makeStep_52 : decode cX2_makeStep 52 = .ok (.iload 5, 2) := by decide +kernel
theorem dX2_makeStep_54 : decode cX2_makeStep 54 = .ok (.istore_n 3, 1) := by decide +kernel
theorem dX2_makeStep_55 : decode cX2_makeStep 55 = .ok (.iinc 4 1, 3) := by decide +kernel
theorem dX2_makeStep_58 : decode cX2_makeStep 58 = .ok (.goto (-43), 3) := by decide +kernel
theorem dX2_makeStep_61 : decode cX2_makeStep 61 = .ok (.iload_n 2, 1) := by decide +kernel
theorem dX2_makeStep_62 : decode cX2_makeStep 62 = .ok (.iconst (-1), 1) := by decide +kernel
theorem dX2_makeStep_63 : decode cX2_makeStep 63 = .ok (.if_icmp .ne 5, 3) := by decide +kernel
theorem dX2_makeStep_66 : decode cX2_makeStep 66 = .ok (.iconst 0, 1) := by decide +kernel
theorem dX2_makeStep_67 : decode cX2_makeStep 67 = .ok (.ireturn, 1) := by decide +kernel
theorem dX2_makeStep_68 : decode cX2_makeStep 68 = .ok (.aload_n 0, 1) := by decide +kernel
theorem dX2_makeStep_69 : decode cX2_makeStep 69 = .ok (.getfield 21, 3) := by decide +kernel
theorem dX2_makeStep_72 : decode cX2_makeStep 72 = .ok (.iload_n 2, 1) := by decide +kernel
theorem dX2_makeStep_73 : decode cX2_makeStep 73 = .ok (.iload_n 3, 1) := by decide +kernel
theorem dX2_makeStep_74 : decode cX2_makeStep 74 = .ok (.invokevirtual 61, 3) := by decide +kernel
theorem dX2_makeStep_77 : decode cX2_makeStep 77 = .ok (.iconst 1, 1) := by decide +kernel
theorem dX2_makeStep_78 : decode cX2_makeStep 78 = .ok (.ireturn, 1) := by decide +kernel
theorem dX2_cheaperPlace_0 : decode cX2_cheaperPlace 0 = .ok (.aload_n 0, 1) := by decide +kernel
theorem dX2_cheaperPlace_1 : decode cX2_cheaperPlace 1 = .ok (.getfield 21, 3) := by decide +kernel
theorem dX2_cheaperPlace_4 : decode cX2_cheaperPlace 4 = .ok (.getfield 48, 3) := by decide +kernel
theorem dX2_cheaperPlace_7 : decode cX2_cheaperPlace 7 = .ok (.iload_n 1, 1) := by decide +kernel
theorem dX2_cheaperPlace_8 : decode cX2_cheaperPlace 8 = .ok (.iaload, 1) := by decide +kernel
theorem dX2_cheaperPlace_9 : decode cX2_cheaperPlace 9 = .ok (.iconst (-1), 1) := by decide +kernel
theorem dX2_cheaperPlace_10 : decode cX2_cheaperPlace 10 = .ok (.if_icmp .eq 15, 3) := by decide +kernel
theorem dX2_cheaperPlace_13 : decode cX2_cheaperPlace 13 = .ok (.aload_n 0, 1) := by decide +kernel
theorem dX2_cheaperPlace_14 : decode cX2_cheaperPlace 14 = .ok (.getfield 21, 3) := by decide +kernel
theorem dX2_cheaperPlace_17 : decode cX2_cheaperPlace 17 = .ok (.getfield 79, 3) := by decide +kernel
theorem dX2_cheaperPlace_20 : decode cX2_cheaperPlace 20 = .ok (.iload_n 1, 1) := by decide +kernel
theorem dX2_cheaperPlace_21 : decode cX2_cheaperPlace 21 = .ok (.baload, 1) := by decide +kernel
theorem dX2_cheaperPlace_22 : decode cX2_cheaperPlace 22 = .ok (.ifCond .eq 5, 3) := by decide +kernel
theorem dX2_cheaperPlace_25 : decode cX2_cheaperPlace 25 = .ok (.iconst (-1), 1) := by decide +kernel
theorem dX2_cheaperPlace_26 : decode cX2_cheaperPlace 26 = .ok (.ireturn, 1) := by decide +kernel
theorem dX2_cheaperPlace_27 : decode cX2_cheaperPlace 27 = .ok (.iload_n 2, 1) := by decide +kernel
theorem dX2_cheaperPlace_28 : decode cX2_cheaperPlace 28 = .ok (.istore_n 3, 1) := by decide +kernel
theorem dX2_cheaperPlace_29 : decode cX2_cheaperPlace 29 = .ok (.iconst (-1), 1) := by decide +kernel
theorem dX2_cheaperPlace_30 : decode cX2_cheaperPlace 30 = .ok (.istore 4, 2) := by decide +kernel
theorem dX2_cheaperPlace_32 : decode cX2_cheaperPlace 32 = .ok (.iconst 0, 1) := by decide +kernel
theorem dX2_cheaperPlace_33 : decode cX2_cheaperPlace 33 = .ok (.istore 5, 2) := by decide +kernel
theorem dX2_cheaperPlace_35 : decode cX2_cheaperPlace 35 = .ok (.iload 5, 2) := by decide +kernel
theorem dX2_cheaperPlace_37 : decode cX2_cheaperPlace 37 = .ok (.bipush 60, 2) := by decide +kernel
theorem dX2_cheaperPlace_39 : decode cX2_cheaperPlace 39 = .ok (.if_icmp .ge 47, 3) := by decide +kernel
theorem dX2_cheaperPlace_42 : decode cX2_cheaperPlace 42 = .ok (.aload_n 0, 1) := by decide +kernel
theorem dX2_cheaperPlace_43 : decode cX2_cheaperPlace 43 = .ok (.getfield 21, 3) := by decide +kernel
theorem dX2_cheaperPlace_46 : decode cX2_cheaperPlace 46 = .ok (.iload_n 1, 1) := by decide +kernel
theorem dX2_cheaperPlace_47 : decode cX2_cheaperPlace 47 = .ok (.iload 5, 2) := by decide +kernel
theorem dX2_cheaperPlace_49 : decode cX2_cheaperPlace 49 = .ok (.invokevirtual 86, 3) := by decide +kernel
theorem dX2_cheaperPlace_52 : decode cX2_cheaperPlace 52 = .ok (.ifCond .ne 28, 3) := by decide +kernel
theorem dX2_cheaperPlace_55 : decode cX2_cheaperPlace 55 = .ok (.aload_n 0, 1) := by decide +kernel
theorem dX2_cheaperPlace_56 : decode cX2_cheaperPlace 56 = .ok (.getfield 21, 3) := by decide +kernel
theorem dX2_cheaperPlace_59 : decode cX2_cheaperPlace 59 = .ok (.iload_n 1, 1) := by decide +kernel
theorem dX2_cheaperPlace_60 : decode cX2_cheaperPlace 60 = .ok (.iload 5, 2) := by decide +kernel
theorem dX2_cheaperPlace_62 : decode cX2_cheaperPlace 62 = .ok (.invokevirtual 152, 3) := by decide +kernel
theorem dX2_cheaperPlace_65 : decode cX2_cheaperPlace 65 = .ok (.istore 6, 2) := by decide +kernel
theorem dX2_cheaperPlace_67 : decode cX2_cheaperPlace 67 = .ok (.iload 6, 2) := by decide +kernel
theorem dX2_cheaperPlace_69 : decode cX2_cheaperPlace 69 = .ok (.iload_n 3, 1) := by decide +kernel
theorem dX2_cheaperPlace_70 : decode cX2_cheaperPlace 70 = .ok (.if_icmp .ge 10, 3) := by decide +kernel
theorem dX2_cheaperPlace_73 : decode cX2_cheaperPlace 73 = .ok (.iload 6, 2) := by decide +kernel
theorem dX2_cheaperPlace_75 : decode cX2_cheaperPlace 75 = .ok (.istore_n 3, 1) := by decide +kernel
theorem dX2_cheaperPlace_76 : decode cX2_cheaperPlace 76 = .ok (.iload 5, 2) := by decide +kernel
theorem dX2_cheaperPlace_78 : decode cX2_cheaperPlace 78 = .ok (.istore 4, 2) := by decide +kernel
theorem dX2_cheaperPlace_80 : decode cX2_cheaperPlace 80 = .ok (.iinc 5 1, 3) := by decide +kernel
theorem dX2_cheaperPlace_83 : decode cX2_cheaperPlace 83 = .ok (.goto (-48), 3) := by decide +kernel
theorem dX2_cheaperPlace_86 : decode cX2_cheaperPlace 86 = .ok (.iload 4, 2) := by decide +kernel
theorem dX2_cheaperPlace_88 : decode cX2_cheaperPlace 88 = .ok (.ireturn, 1) := by decide +kernel
theorem dX3_init_0 : decode cX3_init 0 = .ok (.aload_n 0, 1) := by decide +kernel
theorem dX3_init_1 : decode cX3_init 1 = .ok (.invokespecial 3, 3) := by decide +kernel
theorem dX3_init_4 : decode cX3_init 4 = .ok (.aload_n 0, 1) := by decide +kernel
theorem dX3_init_5 : decode cX3_init 5 = .ok (.bipush 6, 2) := by decide +kernel
theorem dX3_init_7 : decode cX3_init 7 = .ok (.newarray .int, 2) := by decide +kernel
theorem dX3_init_9 : decode cX3_init 9 = .ok (.putfield 9, 3) := by decide +kernel
theorem dX3_init_12 : decode cX3_init 12 = .ok (.aload_n 0, 1) := by decide +kernel
theorem dX3_init_13 : decode cX3_init 13 = .ok (.bipush 6, 2) := by decide +kernel
theorem dX3_init_15 : decode cX3_init 15 = .ok (.newarray .int, 2) := by decide +kernel
theorem dX3_init_17 : decode cX3_init 17 = .ok (.putfield 15, 3) := by decide +kernel
theorem dX3_init_20 : decode cX3_init 20 = .ok (.aload_n 0, 1) := by decide +kernel
theorem dX3_init_21 : decode cX3_init 21 = .ok (.bipush 6, 2) := by decide +kernel
theorem dX3_init_23 : decode cX3_init 23 = .ok (.newarray .int, 2) := by decide +kernel
theorem dX3_init_25 : decode cX3_init 25 = .ok (.putfield 18, 3) := by decide +kernel
theorem dX3_init_28 : decode cX3_init 28 = .ok (.aload_n 0, 1) := by decide +kernel
theorem dX3_init_29 : decode cX3_init 29 = .ok (.bipush 6, 2) := by decide +kernel
theorem dX3_init_31 : decode cX3_init 31 = .ok (.newarray .int, 2) := by decide +kernel
theorem dX3_init_33 : decode cX3_init 33 = .ok (.putfield 21, 3) := by decide +kernel
theorem dX3_init_36 : decode cX3_init 36 = .ok (.aload_n 0, 1) := by decide +kernel
theorem dX3_init_37 : decode cX3_init 37 = .ok (.iconst 3, 1) := by decide +kernel
theorem dX3_init_38 : decode cX3_init 38 = .ok (.newarray .int, 2) := by decide +kernel
theorem dX3_init_40 : decode cX3_init 40 = .ok (.putfield 24, 3) := by decide +kernel
theorem dX3_init_43 : decode cX3_init 43 = .ok (.aload_n 0, 1) := by decide +kernel
theorem dX3_init_44 : decode cX3_init 44 = .ok (.bipush 14, 2) := by decide +kernel
theorem dX3_init_46 : decode cX3_init 46 = .ok (.newarray .int, 2) := by decide +kernel
theorem dX3_init_48 : decode cX3_init 48 = .ok (.putfield 27, 3) := by decide +kernel
theorem dX3_init_51 : decode cX3_init 51 = .ok (.aload_n 0, 1) := by decide +kernel
theorem dX3_init_52 : decode cX3_init 52 = .ok (.bipush 14, 2) := by decide +kernel
theorem dX3_init_54 : decode cX3_init 54 = .ok (.newarray .int, 2) := by decide +kernel
theorem dX3_init_56 : decode cX3_init 56 = .ok (.putfield 30, 3) := by decide +kernel
theorem dX3_init_59 : decode cX3_init 59 = .ok (.aload_n 0, 1) := by decide +kernel
theorem dX3_init_60 : decode cX3_init 60 = .ok (.bipush 14, 2) := by decide +kernel
theorem dX3_init_62 : decode cX3_init 62 = .ok (.newarray .int, 2) := by decide +kernel
theorem dX3_init_64 : decode cX3_init 64 = .ok (.putfield 33, 3) := by decide +kernel
theorem dX3_init_67 : decode cX3_init 67 = .ok (.aload_n 0, 1) := by decide +kernel
theorem dX3_init_68 : decode cX3_init 68 = .ok (.bipush 14, 2) := by decide +kernel
theorem dX3_init_70 : decode cX3_init 70 = .ok (.newarray .int, 2) := by decide +kernel
theorem dX3_init_72 : decode cX3_init 72 = .ok (.putfield 36, 3) := by decide +kernel
theorem dX3_init_75 : decode cX3_init 75 = .ok (.aload_n 0, 1) := by decide +kernel
theorem dX3_init_76 : decode cX3_init 76 = .ok (.bipush 14, 2) := by decide +kernel
theorem dX3_init_78 : decode cX3_init 78 = .ok (.newarray .int, 2) := by decide +kernel
theorem dX3_init_80 : decode cX3_init 80 = .ok (.putfield 39, 3) := by decide +kernel
theorem dX3_init_83 : decode cX3_init 83 = .ok (.aload_n 0, 1) := by decide +kernel
theorem dX3_init_84 : decode cX3_init 84 = .ok (.bipush 14, 2) := by decide +kernel
theorem dX3_init_86 : decode cX3_init 86 = .ok (.newarray .int, 2) := by decide +kernel
theorem dX3_init_88 : decode cX3_init 88 = .ok (.putfield 42, 3) := by decide +kernel
theorem dX3_init_91 : decode cX3_init 91 = .ok (.aload_n 0, 1) := by decide +kernel
theorem dX3_init_92 : decode cX3_init 92 = .ok (.bipush 14, 2) := by decide +kernel
theorem dX3_init_94 : decode cX3_init 94 = .ok (.newarray .int, 2) := by decide +kernel
theorem dX3_init_96 : decode cX3_init 96 = .ok (.putfield 45, 3) := by decide +kernel
theorem dX3_init_99 : decode cX3_init 99 = .ok (.aload_n 0, 1) := by decide +kernel
theorem dX3_init_100 : decode cX3_init 100 = .ok (.bipush 14, 2) := by decide +kernel
theorem dX3_init_102 : decode cX3_init 102 = .ok (.newarray .boolean, 2) := by decide +kernel
theorem dX3_init_104 : decode cX3_init 104 = .ok (.putfield 48, 3) := by decide +kernel
theorem dX3_init_107 : decode cX3_init 107 = .ok (.aload_n 0, 1) := by decide +kernel
theorem dX3_init_108 : decode cX3_init 108 = .ok (.getfield 9, 3) := by decide +kernel
theorem dX3_init_111 : decode cX3_init 111 = .ok (.bipush 30, 2) := by decide +kernel
theorem dX3_init_113 : decode cX3_init 113 = .ok (.invokestatic 52, 3) := by decide +kernel
theorem dX3_init_116 : decode cX3_init 116 = .ok (.aload_n 0, 1) := by decide +kernel
theorem dX3_init_117 : decode cX3_init 117 = .ok (.getfield 18, 3) := by decide +kernel
theorem dX3_init_120 : decode cX3_init 120 = .ok (.bipush 10, 2) := by decide +kernel
theorem dX3_init_122 : decode cX3_init 122 = .ok (.invokestatic 52, 3) := by decide +kernel
theorem dX3_init_125 : decode cX3_init 125 = .ok (.aload_n 0, 1) := by decide +kernel
theorem dX3_init_126 : decode cX3_init 126 = .ok (.getfield 21, 3) := by decide +kernel
theorem dX3_init_129 : decode cX3_init 129 = .ok (.sipush 1023, 3) := by decide +kernel
theorem dX3_init_132 : decode cX3_init 132 = .ok (.invokestatic 52, 3) := by decide +kernel
theorem dX3_init_135 : decode cX3_init 135 = .ok (.aload_n 0, 1) := by decide +kernel
theorem dX3_init_136 : decode cX3_init 136 = .ok (.getfield 24, 3) := by decide +kernel
theorem dX3_init_139 : decode cX3_init 139 = .ok (.iconst 1, 1) := by decide +kernel
theorem dX3_init_140 : decode cX3_init 140 = .ok (.invokestatic 52, 3) := by decide +kernel
theorem dX3_init_143 : decode cX3_init 143 = .ok (.aload_n 0, 1) := by decide +kernel
theorem dX3_init_144 : decode cX3_init 144 = .ok (.getfield 39, 3) := by decide +kernel
theorem dX3_init_147 : decode cX3_init 147 = .ok (.iconst (-1), 1) := by decide +kernel
theorem dX3_init_148 : decode cX3_init 148 = .ok (.invokestatic 52, 3) := by decide +kernel
theorem dX3_init_151 : decode cX3_init 151 = .ok (.aload_n 0, 1) := by decide +kernel
theorem dX3_init_152 : decode cX3_init 152 = .ok (.getfield 45, 3) := by decide +kernel
theorem dX3_init_155 : decode cX3_init 155 = .ok (.iconst (-1), 1) := by decide +kernel
theorem dX3_init_156 : decode cX3_init 156 = .ok (.invokestatic 52, 3) := by decide +kernel
theorem dX3_init_159 : decode cX3_init 159 = .ok (.return_, 1) := by decide +kernel
theorem dX3_copyFrom_0 : decode cX3_copyFrom 0 = .ok (.aload_n 1, 1) := by decide +kernel
theorem dX3_copyFrom_1 : decode cX3_copyFrom 1 = .ok (.ifnonnull 4, 3) := by decide +kernel
theorem dX3_copyFrom_4 : decode cX3_copyFrom 4 = .ok (.return_, 1) := by decide +kernel
theorem dX3_copyFrom_5 : decode cX3_copyFrom 5 = .ok (.aload_n 1, 1) := by decide +kernel
theorem dX3_copyFrom_6 : decode cX3_copyFrom 6 = .ok (.getfield 9, 3) := by decide +kernel
theorem dX3_copyFrom_9 : decode cX3_copyFrom 9 = .ok (.iconst 0, 1) := by decide +kernel
theorem dX3_copyFrom_10 : decode cX3_copyFrom 10 = .ok (.aload_n 0, 1) := by decide +kernel
theorem dX3_copyFrom_11 : decode cX3_copyFrom 11 = .ok (.getfield 9, 3) := by decide +kernel
theorem dX3_copyFrom_14 : decode cX3_copyFrom 14 = .ok (.iconst 0, 1) := by decide +kernel
theorem dX3_copyFrom_15 : decode cX3_copyFrom 15 = .ok (.bipush 6, 2) := by decide +kernel
theorem dX3_copyFrom_17 : decode cX3_copyFrom 17 = .ok (.invokestatic 58, 3) := by decide +kernel
theorem dX3_copyFrom_20 : decode cX3_copyFrom 20 = .ok (.aload_n 1, 1) := by decide +kernel
theorem dX3_copyFrom_21 : decode cX3_copyFrom 21 = .ok (.getfield 15, 3) := by decide +kernel
theorem dX3_copyFrom_24 : decode cX3_copyFrom 24 = .ok (.iconst 0, 1) := by decide +kernel
theorem dX3_copyFrom_25 : decode cX3_copyFrom 25 = .ok (.aload_n 0, 1) := by decide +kernel
theorem dX3_copyFrom_26 : decode cX3_copyFrom 26 = .ok (.getfield 15, 3) := by decide +kernel
theorem dX3_copyFrom_29 : decode cX3_copyFrom 29 = .ok (.iconst 0, 1) := by decide +kernel
theorem dX3_copyFrom_30 : decode cX3_copyFrom 30 = .ok (.bipush 6, 2) := by decide +kernel
theorem dX3_copyFrom_32 : decode cX3_copyFrom 32 = .ok (.invokestatic 58, 3) := by decide +kernel
theorem dX3_copyFrom_35 : decode cX3_copyFrom 35 = .ok (.aload_n 1, 1) := by decide +kernel
theorem dX3_copyFrom_36 : decode cX3_copyFrom 36 = .ok (.getfield 18, 3) := by decide +kernel
theorem dX3_copyFrom_39 : decode cX3_copyFrom 39 = .ok (.iconst 0, 1) := by decide +kernel
theorem dX3_copyFrom_40 : decode cX3_copyFrom 40 = .ok (.aload_n 0, 1) := by decide +kernel
theorem dX3_copyFrom_41 : decode cX3_copyFrom 41 = .ok (.getfield 18, 3) := by decide +kernel
theorem dX3_copyFrom_44 : decode cX3_copyFrom 44 = .ok (.iconst 0, 1) := by decide +kernel
theorem dX3_copyFrom_45 : decode cX3_copyFrom 45 = .ok (.bipush 6, 2) := by decide +kernel
theorem dX3_copyFrom_47 : decode cX3_copyFrom 47 = .ok (.invokestatic 58, 3) := by decide +kernel
theorem dX3_copyFrom_50 : decode cX3_copyFrom 50 = .ok (.aload_n 1, 1) := by decide +kernel
theorem dX3_copyFrom_51 : decode cX3_copyFrom 51 = .ok (.getfield 21, 3) := by decide +kernel
theorem dX3_copyFrom_54 : decode cX3_copyFrom 54 = .ok (.iconst 0, 1) := by decide +kernel
theorem dX3_copyFrom_55 : decode cX3_copyFrom 55 = .ok (.aload_n 0, 1) := by decide +kernel
theorem dX3_copyFrom_56 : decode cX3_copyFrom 56 = .ok (.getfield 21, 3) := by decide +kernel
theorem dX3_copyFrom_59 : decode cX3_copyFrom 59 = .ok (.iconst 0, 1) := by decide +kernel
theorem dX3_copyFrom_60 : decode cX3_copyFrom 60 = .ok (.bipush 6, 2) := by decide +kernel
theorem dX3_copyFrom_62 : decode cX3_copyFrom 62 = .ok (.invokestatic 58, 3) := by decide +kernel
theorem dX3_copyFrom_65 : decode cX3_copyFrom 65 = .ok (.aload_n 1, 1) := by decide +kernel
theorem dX3_copyFrom_66 : decode cX3_copyFrom 66 = .ok (.getfield 24, 3) := by decide +kernel
theorem dX3_copyFrom_69 : decode cX3_copyFrom 69 = .ok (.iconst 0, 1) := by decide +kernel
theorem dX3_copyFrom_70 : decode cX3_copyFrom 70 = .ok (.aload_n 0, 1) := by decide +kernel
theorem dX3_copyFrom_71 : decode cX3_copyFrom 71 = .ok (.getfield 24, 3) := by decide +kernel
theorem dX3_copyFrom_74 : decode cX3_copyFrom 74 = .ok (.iconst 0, 1) := by decide +kernel
theorem dX3_copyFrom_75 : decode cX3_copyFrom 75 = .ok (.iconst 3, 1) := by decide +kernel
theorem dX3_copyFrom_76 : decode cX3_copyFrom 76 = .ok (.invokestatic 58, 3) := by decide +kernel
theorem dX3_copyFrom_79 : decode cX3_copyFrom 79 = .ok (.aload_n 1, 1) := by decide +kernel
theorem dX3_copyFrom_80 : decode cX3_copyFrom 80 = .ok (.getfield 27, 3) := by decide +kernel
theorem dX3_copyFrom_83 : decode cX3_copyFrom 83 = .ok (.iconst 0, 1) := by decide +kernel
theorem dX3_copyFrom_84 : decode cX3_copyFrom 84 = .ok (.aload_n 0, 1) := by decide +kernel
theorem dX3_copyFrom_85 : decode cX3_copyFrom 85 = .ok (.getfield 27, 3) := by decide +kernel
theorem dX3_copyFrom_88 : decode cX3_copyFrom 88 = .ok (.iconst 0, 1) := by decide +kernel
theorem dX3_copyFrom_89 : decode cX3_copyFrom 89 = .ok (.bipush 14, 2) := by decide +kernel
theorem dX3_copyFrom_91 : decode cX3_copyFrom 91 = .ok (.invokestatic 58, 3) := by decide +kernel
theorem dX3_copyFrom_94 : decode cX3_copyFrom 94 = .ok (.aload_n 1, 1) := by decide +kernel
theorem dX3_copyFrom_95 : decode cX3_copyFrom 95 = .ok (.getfield 30, 3) := by decide +kernel
theorem dX3_copyFrom_98 : decode cX3_copyFrom 98 = .ok (.iconst 0, 1) := by decide +kernel
theorem dX3_copyFrom_99 : decode cX3_copyFrom 99 = .ok (.aload_n 0, 1) := by decide +kernel
theorem dX3_copyFrom_100 : decode cX3_copyFrom 100 = .ok (.getfield 30, 3) := by decide +kernel
theorem dX3_copyFrom_103 : decode cX3_copyFrom 103 = .ok (.iconst 0, 1) := by decide +kernel
theorem dX3_copyFrom_104 : decode cX3_copyFrom 104 = .ok (.bipush 14, 2) := by decide +kernel
theorem dX3_copyFrom_106 : decode cX3_copyFrom 106 = .ok (.invokestatic 58, 3) := by decide +kernel
theorem dX3_copyFrom_109 : decode cX3_copyFrom 109 = .ok (.aload_n 1, 1) := by decide +kernel
theorem dX3_copyFrom_110 : decode cX3_copyFrom 110 = .ok (.getfield 33, 3) := by decide +kernel
theorem dX3_copyFrom_113 : decode cX3_copyFrom 113 = .ok (.iconst 0, 1) := by decide +kernel
theorem dX3_copyFrom_114 : decode cX3_copyFrom 114 = .ok (.aload_n 0, 1) := by decide +kernel
theorem dX3_copyFrom_115 : decode cX3_copyFrom 115 = .ok (.getfield 33, 3) := by decide +kernel
theorem dX3_copyFrom_118 : decode cX3_copyFrom 118 = .ok (.iconst 0, 1) := by decide +kernel
theorem dX3_copyFrom_119 : decode cX3_copyFrom 119 = .ok (.bipush 14, 2) := by decide +kernel
theorem dX3_copyFrom_121 : decode cX3_copyFrom 121 = .ok (.invokestatic 58, 3) := by decide +kernel
theorem dX3_copyFrom_124 : decode cX3_copyFrom 124 = .ok (.aload_n 1, 1) := by decide +kernel
theorem dX3_copyFrom_125 : decode cX3_copyFrom 125 = .ok (.getfield 36, 3) := by decide +kernel
theorem dX3_copyFrom_128 : decode cX3_copyFrom 128 = .ok (.iconst 0, 1) := by decide +kernel
theorem dX3_copyFrom_129 : decode cX3_copyFrom 129 = .ok (.aload_n 0, 1) := by decide +kernel
theorem dX3_copyFrom_130 : decode cX3_copyFrom 130 = .ok (.getfield 36, 3) := by decide +kernel
theorem dX3_copyFrom_133 : decode cX3_copyFrom 133 = .ok (.iconst 0, 1) := by decide +kernel
theorem dX3_copyFrom_134 : decode cX3_copyFrom 134 = .ok (.bipush 14, 2) := by decide +kernel
theorem dX3_copyFrom_136 : decode cX3_copyFrom 136 = .ok (.invokestatic 58, 3) := by decide +kernel
theorem dX3_copyFrom_139 : decode cX3_copyFrom 139 = .ok (.aload_n 1, 1) := by decide +kernel
theorem dX3_copyFrom_140 : decode cX3_copyFrom 140 = .ok (.getfield 39, 3) := by decide +kernel
theorem dX3_copyFrom_143 : decode cX3_copyFrom 143 = .ok (.iconst 0, 1) := by decide +kernel
theorem dX3_copyFrom_144 : decode cX3_copyFrom 144 = .ok (.aload_n 0, 1) := by decide +kernel
theorem dX3_copyFrom_145 : decode cX3_copyFrom 145 = .ok (.getfield 39, 3) := by decide +kernel
theorem dX3_copyFrom_148 : decode cX3_copyFrom 148 = .ok (.iconst 0, 1) := by decide +kernel
theorem dX3_copyFrom_149 : decode cX3_copyFrom 149 = .ok (.bipush 14, 2) := by decide +kernel
theorem dX3_copyFrom_151 : decode cX3_copyFrom 151 = .ok (.invokestatic 58, 3) := by decide +kernel
theorem dX3_copyFrom_154 : decode cX3_copyFrom 154 = .ok (.aload_n 1, 1) := by decide +kernel
theorem dX3_copyFrom_155 : decode cX3_copyFrom 155 = .ok (.getfield 42, 3) := by decide +kernel
theorem dX3_copyFrom_158 : decode cX3_copyFrom 158 = .ok (.iconst 0, 1) := by decide +kernel
theorem dX3_copyFrom_159 : decode cX3_copyFrom 159 = .ok (.aload_n 0, 1) := by decide +kernel
theorem dX3_copyFrom_160 : decode cX3_copyFrom 160 = .ok (.getfield 42, 3) := by decide +kernel
theorem dX3_copyFrom_163 : decode cX3_copyFrom 163 = .ok (.iconst 0, 1) := by decide +kernel
theorem dX3_copyFrom_164 : decode cX3_copyFrom 164 = .ok (.bipush 14, 2) := by decide +kernel
theorem dX3_copyFrom_166 : decode cX3_copyFrom 166 = .ok (.invokestatic 58, 3) := by decide +kernel
theorem dX3_copyFrom_169 : decode cX3_copyFrom 169 = .ok (.aload_n 1, 1) := by decide +kernel
theorem dX3_copyFrom_170 : decode cX3_copyFrom 170 = .ok (.getfield 45, 3) := by decide +kernel
theorem dX3_copyFrom_173 : decode cX3_copyFrom 173 = .ok (.iconst 0, 1) := by decide +kernel
theorem dX3_copyFrom_174 : decode cX3_copyFrom 174 = .ok (.aload_n 0, 1) := by decide +kernel
theorem dX3_copyFrom_175 : decode cX3_copyFrom 175 = .ok (.getfield 45, 3) := by decide +kernel
theorem dX3_copyFrom_178 : decode cX3_copyFrom 178 = .ok (.iconst 0, 1) := by decide +kernel
theorem dX3_copyFrom_179 : decode cX3_copyFrom 179 = .ok (.bipush 14, 2) := by decide +kernel
theorem dX3_copyFrom_181 : decode cX3_copyFrom 181 = .ok (.invokestatic 58, 3) := by decide +kernel
theorem dX3_copyFrom_184 : decode cX3_copyFrom 184 = .ok (.aload_n 1, 1) := by decide +kernel
theorem dX3_copyFrom_185 : decode cX3_copyFrom 185 = .ok (.getfield 48, 3) := by decide +kernel
theorem dX3_copyFrom_188 : decode cX3_copyFrom 188 = .ok (.iconst 0, 1) := by decide +kernel
theorem dX3_copyFrom_189 : decode cX3_copyFrom 189 = .ok (.aload_n 0, 1) := by decide +kernel
theorem dX3_copyFrom_190 : decode cX3_copyFrom 190 = .ok (.getfield 48, 3) := by decide +kernel
theorem dX3_copyFrom_193 : decode cX3_copyFrom 193 = .ok (.iconst 0, 1) := by decide +kernel
theorem dX3_copyFrom_194 : decode cX3_copyFrom 194 = .ok (.bipush 14, 2) := by decide +kernel
theorem dX3_copyFrom_196 : decode cX3_copyFrom 196 = .ok (.invokestatic 58, 3) := by decide +kernel
theorem dX3_copyFrom_199 : decode cX3_copyFrom 199 = .ok (.aload_n 0, 1) := by decide +kernel
theorem dX3_copyFrom_200 : decode cX3_copyFrom 200 = .ok (.aload_n 1, 1) := by decide +kernel
theorem dX3_copyFrom_201 : decode cX3_copyFrom 201 = .ok (.getfield 64, 3) := by decide +kernel
theorem dX3_copyFrom_204 : decode cX3_copyFrom 204 = .ok (.putfield 64, 3) := by decide +kernel
theorem dX3_copyFrom_207 : decode cX3_copyFrom 207 = .ok (.return_, 1) := by decide +kernel
theorem dX3_hasEvent_0 : decode cX3_hasEvent 0 = .ok (.iload_n 1, 1) := by decide +kernel
theorem dX3_hasEvent_1 : decode cX3_hasEvent 1 = .ok (.ifCond .lt 21, 3) := by decide +kernel
theorem dX3_hasEvent_4 : decode cX3_hasEvent 4 = .ok (.iload_n 1, 1) := by decide +kernel
theorem dX3_hasEvent_5 : decode cX3_hasEvent 5 = .ok (.bipush 14, 2) := by decide +kernel
theorem dX3_hasEvent_7 : decode cX3_hasEvent 7 = .ok (.if_icmp .ge 15, 3) := by decide +kernel
theorem dX3_hasEvent_10 : decode cX3_hasEvent 10 = .ok (.iload_n 1, 1) := by decide +kernel
theorem dX3_hasEvent_11 : decode cX3_hasEvent 11 = .ok (.aload_n 0, 1) := by decide +kernel
theorem dX3_hasEvent_12 : decode cX3_hasEvent 12 = .ok (.getfield 64, 3) := by decide +kernel
theorem dX3_hasEvent_15 : decode cX3_hasEvent 15 = .ok (.if_icmp .ge 7, 3) := by decide +kernel
theorem dX3_hasEvent_18 : decode cX3_hasEvent 18 = .ok (.iconst 1, 1) := by decide +kernel
theorem dX3_hasEvent_19 : decode cX3_hasEvent 19 = .ok (.goto 4, 3) := by decide +kernel
theorem dX3_hasEvent_22 : decode cX3_hasEvent 22 = .ok (.iconst 0, 1) := by decide +kernel
theorem dX3_hasEvent_23 : decode cX3_hasEvent 23 = .ok (.ireturn, 1) := by decide +kernel
theorem dX3_newEvent_0 : decode cX3_newEvent 0 = .ok (.aload_n 0, 1) := by decide +kernel
theorem dX3_newEvent_1 : decode cX3_newEvent 1 = .ok (.getfield 64, 3) := by decide +kernel
theorem dX3_newEvent_4 : decode cX3_newEvent 4 = .ok (.istore 5, 2) := by decide +kernel
theorem dX3_newEvent_6 : decode cX3_newEvent 6 = .ok (.iload 5, 2) := by decide +kernel
theorem dX3_newEvent_8 : decode cX3_newEvent 8 = .ok (.ifCond .lt 10, 3) := by decide +kernel
theorem dX3_newEvent_11 : decode cX3_newEvent 11 = .ok (.iload 5, 2) := by decide +kernel
theorem dX3_newEvent_13 : decode cX3_newEvent 13 = .ok (.bipush 14, 2) := by decide +kernel
theorem dX3_newEvent_15 : decode cX3_newEvent 15 = .ok (.if_icmp .lt 5, 3) := by decide +kernel
theorem dX3_newEvent_18 : decode cX3_newEvent 18 = .ok (.iconst (-1), 1) := by decide +kernel
theorem dX3_newEvent_19 : decode cX3_newEvent 19 = .ok (.ireturn, 1) := by decide +kernel
theorem dX3_newEvent_20 : decode cX3_newEvent 20 = .ok (.aload_n 0, 1) := by decide +kernel
theorem dX3_newEvent_21 : decode cX3_newEvent 21 = .ok (.getfield 27, 3) := by decide +kernel
theorem dX3_newEvent_24 : decode cX3_newEvent 24 = .ok (.iload 5, 2) := by decide +kernel
theorem dX3_newEvent_26 : decode cX3_newEvent 26 = .ok (.iload_n 1, 1) := by decide +kernel
theorem dX3_newEvent_27 : decode cX3_newEvent 27 = .ok (.iastore, 1) := by decide +kernel
theorem dX3_newEvent_28 : decode cX3_newEvent 28 = .ok (.aload_n 0, 1) := by decide +kernel
theorem dX3_newEvent_29 : decode cX3_newEvent 29 = .ok (.getfield 30, 3) := by decide +kernel
theorem dX3_newEvent_32 : decode cX3_newEvent 32 = .ok (.iload 5, 2) := by decide +kernel
theorem dX3_newEvent_34 : decode cX3_newEvent 34 = .ok (.iload_n 2, 1) := by decide +kernel
theorem dX3_newEvent_35 : decode cX3_newEvent 35 = .ok (.iastore, 1) := by decide +kernel
theorem dX3_newEvent_36 : decode cX3_newEvent 36 = .ok (.aload_n 0, 1) := by decide +kernel
theorem dX3_newEvent_37 : decode cX3_newEvent 37 = .ok (.getfield 33, 3) := by decide +kernel
theorem dX3_newEvent_40 : decode cX3_newEvent 40 = .ok (.iload 5, 2) := by decide +kernel
theorem dX3_newEvent_42 : decode cX3_newEvent 42 = .ok (.iload_n 3, 1) := by decide +kernel
theorem dX3_newEvent_43 : decode cX3_newEvent 43 = .ok (.iastore, 1) := by decide +kernel
theorem dX3_newEvent_44 : decode cX3_newEvent 44 = .ok (.aload_n 0, 1) := by decide +kernel
theorem dX3_newEvent_45 : decode cX3_newEvent 45 = .ok (.getfield 36, 3) := by decide +kernel
theorem dX3_newEvent_48 : decode cX3_newEvent 48 = .ok (.iload 5, 2) := by decide +kernel
theorem dX3_newEvent_50 : decode cX3_newEvent 50 = .ok (.iload 4, 2) := by decide +kernel
theorem dX3_newEvent_52 : decode cX3_newEvent 52 = .ok (.iastore, 1) := by decide +kernel
theorem dX3_newEvent_53 : decode cX3_newEvent 53 = .ok (.aload_n 0, 1) := by decide +kernel
theorem dX3_newEvent_54 : decode cX3_newEvent 54 = .ok (.iload 5, 2) := by decide +kernel
theorem dX3_newEvent_56 : decode cX3_newEvent 56 = .ok (.iconst 1, 1) := by decide +kernel
theorem dX3_newEvent_57 : decode cX3_newEvent 57 = .ok (.iadd, 1) := by decide +kernel
theorem dX3_newEvent_58 : decode cX3_newEvent 58 = .ok (.putfield 64, 3) := by decide +kernel
theorem dX3_newEvent_61 : decode cX3_newEvent 61 = .ok (.iload 5, 2) := by decide +kernel
theorem dX3_newEvent_63 : decode cX3_newEvent 63 = .ok (.ireturn, 1) := by decide +kernel
theorem dX3_dropEvent_0 : decode cX3_dropEvent 0 = .ok (.aload_n 0, 1) := by decide +kernel
theorem dX3_dropEvent_1 : decode cX3_dropEvent 1 = .ok (.getfield 27, 3) := by decide +kernel
theorem dX3_dropEvent_4 : decode cX3_dropEvent 4 = .ok (.iload_n 1, 1) := by decide +kernel
theorem dX3_dropEvent_5 : decode cX3_dropEvent 5 = .ok (.iconst 0, 1) := by decide +kernel
theorem dX3_dropEvent_6 : decode cX3_dropEvent 6 = .ok (.invokestatic 68, 3) := by decide +kernel
theorem dX3_dropEvent_9 : decode cX3_dropEvent 9 = .ok (.aload_n 0, 1) := by decide +kernel
theorem dX3_dropEvent_10 : decode cX3_dropEvent 10 = .ok (.getfield 30, 3) := by decide +kernel
theorem dX3_dropEvent_13 : decode cX3_dropEvent 13 = .ok (.iload_n 1, 1) := by decide +kernel
theorem dX3_dropEvent_14 : decode cX3_dropEvent 14 = .ok (.iconst 0, 1) := by decide +kernel
theorem dX3_dropEvent_15 : decode cX3_dropEvent 15 = .ok (.invokestatic 68, 3) := by decide +kernel
theorem dX3_dropEvent_18 : decode cX3_dropEvent 18 = .ok (.aload_n 0, 1) := by decide +kernel
theorem dX3_dropEvent_19 : decode cX3_dropEvent 19 = .ok (.getfield 33, 3) := by decide +kernel
theorem dX3_dropEvent_22 : decode cX3_dropEvent 22 = .ok (.iload_n 1, 1) := by decide +kernel
theorem dX3_dropEvent_23 : decode cX3_dropEvent 23 = .ok (.iconst 0, 1) := by decide +kernel
theorem dX3_dropEvent_24 : decode cX3_dropEvent 24 = .ok (.invokestatic 68, 3) := by decide +kernel
theorem dX3_dropEvent_27 : decode cX3_dropEvent 27 = .ok (.aload_n 0, 1) := by decide +kernel
theorem dX3_dropEvent_28 : decode cX3_dropEvent 28 = .ok (.getfield 36, 3) := by decide +kernel
theorem dX3_dropEvent_31 : decode cX3_dropEvent 31 = .ok (.iload_n 1, 1) := by decide +kernel
theorem dX3_dropEvent_32 : decode cX3_dropEvent 32 = .ok (.iconst 0, 1) := by decide +kernel
theorem dX3_dropEvent_33 : decode cX3_dropEvent 33 = .ok (.invokestatic 68, 3) := by decide +kernel
theorem dX3_dropEvent_36 : decode cX3_dropEvent 36 = .ok (.aload_n 0, 1) := by decide +kernel
theorem dX3_dropEvent_37 : decode cX3_dropEvent 37 = .ok (.getfield 39, 3) := by decide +kernel
theorem dX3_dropEvent_40 : decode cX3_dropEvent 40 = .ok (.iload_n 1, 1) := by decide +kernel
theorem dX3_dropEvent_41 : decode cX3_dropEvent 41 = .ok (.iconst (-1), 1) := by decide +kernel
theorem dX3_dropEvent_42 : decode cX3_dropEvent 42 = .ok (.invokestatic 68, 3) := by decide +kernel
theorem dX3_dropEvent_45 : decode cX3_dropEvent 45 = .ok (.aload_n 0, 1) := by decide +kernel
theorem dX3_dropEvent_46 : decode cX3_dropEvent 46 = .ok (.getfield 42, 3) := by decide +kernel
theorem dX3_dropEvent_49 : decode cX3_dropEvent 49 = .ok (.iload_n 1, 1) := by decide +kernel
theorem dX3_dropEvent_50 : decode cX3_dropEvent 50 = .ok (.iconst 0, 1) := by decide +kernel
theorem dX3_dropEvent_51 : decode cX3_dropEvent 51 = .ok (.invokestatic 68, 3) := by decide +kernel
theorem dX3_dropEvent_54 : decode cX3_dropEvent 54 = .ok (.aload_n 0, 1) := by decide +kernel
theorem dX3_dropEvent_55 : decode cX3_dropEvent 55 = .ok (.getfield 45, 3) := by decide +kernel
theorem dX3_dropEvent_58 : decode cX3_dropEvent 58 = .ok (.iload_n 1, 1) := by decide +kernel
theorem dX3_dropEvent_59 : decode cX3_dropEvent 59 = .ok (.iconst (-1), 1) := by decide +kernel
theorem dX3_dropEvent_60 : decode cX3_dropEvent 60 = .ok (.invokestatic 68, 3) := by decide +kernel
theorem dX3_dropEvent_63 : decode cX3_dropEvent 63 = .ok (.iload_n 1, 1) := by decide +kernel
theorem dX3_dropEvent_64 : decode cX3_dropEvent 64 = .ok (.istore_n 2, 1) := by decide +kernel
theorem dX3_dropEvent_65 : decode cX3_dropEvent 65 = .ok (.iload_n 2, 1) := by decide +kernel
theorem dX3_dropEvent_66 : decode cX3_dropEvent 66 = .ok (.bipush 13, 2) := by decide +kernel
theorem dX3_dropEvent_68 : decode cX3_dropEvent 68 = .ok (.if_icmp .ge 23, 3) := by decide +kernel
theorem dX3_dropEvent_71 : decode cX3_dropEvent 71 = .ok (.aload_n 0, 1) := by decide +kernel
theorem dX3_dropEvent_72 : decode cX3_dropEvent 72 = .ok (.getfield 48, 3) := by decide +kernel
theorem dX3_dropEvent_75 : decode cX3_dropEvent 75 = .ok (.iload_n 2, 1) := by decide +kernel
theorem dX3_dropEvent_76 : decode cX3_dropEvent 76 = .ok (.aload_n 0, 1) := by decide +kernel
theorem dX3_dropEvent_77 : decode cX3_dropEvent 77 = .ok (.getfield 48, 3) := by decide +kernel
theorem dX3_dropEvent_80 : decode cX3_dropEvent 80 = .ok (.iload_n 2, 1) := by decide +kernel
theorem dX3_dropEvent_81 : decode cX3_dropEvent 81 = .ok (.iconst 1, 1) := by decide +kernel
theorem dX3_dropEvent_82 : decode cX3_dropEvent 82 = .ok (.iadd, 1) := by decide +kernel
theorem dX3_dropEvent_83 : decode cX3_dropEvent 83 = .ok (.baload, 1) := by decide +kernel
theorem dX3_dropEvent_84 : decode cX3_dropEvent 84 = .ok (.bastore, 1) := by decide +kernel
theorem dX3_dropEvent_85 : decode cX3_dropEvent 85 = .ok (.iinc 2 1, 3) := by decide +kernel
theorem dX3_dropEvent_88 : decode cX3_dropEvent 88 = .ok (.goto (-23), 3) := by decide +kernel
theorem dX3_dropEvent_91 : decode cX3_dropEvent 91 = .ok (.aload_n 0, 1) := by decide +kernel
theorem dX3_dropEvent_92 : decode cX3_dropEvent 92 = .ok (.getfield 48, 3) := by decide +kernel
theorem dX3_dropEvent_95 : decode cX3_dropEvent 95 = .ok (.bipush 13, 2) := by decide +kernel
theorem dX3_dropEvent_97 : decode cX3_dropEvent 97 = .ok (.iconst 0, 1) := by decide +kernel
theorem dX3_dropEvent_98 : decode cX3_dropEvent 98 = .ok (.bastore, 1) := by decide +kernel
theorem dX3_dropEvent_99 : decode cX3_dropEvent 99 = .ok (.aload_n 0, 1) := by decide +kernel
theorem dX3_dropEvent_100 : decode cX3_dropEvent 100 = .ok (.dup, 1) := by decide +kernel
theorem dX3_dropEvent_101 : decode cX3_dropEvent 101 = .ok (.getfield 64, 3) := by decide +kernel
theorem dX3_dropEvent_104 : decode cX3_dropEvent 104 = .ok (.iconst 1, 1) := by decide +kernel
theorem dX3_dropEvent_105 : decode cX3_dropEvent 105 = .ok (.isub, 1) := by decide +kernel
theorem dX3_dropEvent_106 : decode cX3_dropEvent 106 = .ok (.putfield 64, 3) := by decide +kernel
theorem dX3_dropEvent_109 : decode cX3_dropEvent 109 = .ok (.return_, 1) := by decide +kernel
theorem dX3_closeUp_0 : decode cX3_closeUp 0 = .ok (.iload_n 1, 1) := by decide +kernel
theorem dX3_closeUp_1 : decode cX3_closeUp 1 = .ok (.istore_n 3, 1) := by decide +kernel
theorem dX3_closeUp_2 : decode cX3_closeUp 2 = .ok (.iload_n 3, 1) := by decide +kernel
theorem dX3_closeUp_3 : decode cX3_closeUp 3 = .ok (.bipush 13, 2) := by decide +kernel
theorem dX3_closeUp_5 : decode cX3_closeUp 5 = .ok (.if_icmp .ge 17, 3) := by decide +kernel
theorem dX3_closeUp_8 : decode cX3_closeUp 8 = .ok (.aload_n 0, 1) := by decide +kernel
theorem dX3_closeUp_9 : decode cX3_closeUp 9 = .ok (.iload_n 3, 1) := by decide +kernel
theorem dX3_closeUp_10 : decode cX3_closeUp 10 = .ok (.aload_n 0, 1) := by decide +kernel
theorem dX3_closeUp_11 : decode cX3_closeUp 11 = .ok (.iload_n 3, 1) := by decide +kernel
theorem dX3_closeUp_12 : decode cX3_closeUp 12 = .ok (.iconst 1, 1) := by decide +kernel
theorem dX3_closeUp_13 : decode cX3_closeUp 13 = .ok (.iadd, 1) := by decide +kernel
theorem dX3_closeUp_14 : decode cX3_closeUp 14 = .ok (.iaload, 1) := by decide +kernel
theorem dX3_closeUp_15 : decode cX3_closeUp 15 = .ok (.iastore, 1) := by decide +kernel
theorem dX3_closeUp_16 : decode cX3_closeUp 16 = .ok (.iinc 3 1, 3) := by decide +kernel
theorem dX3_closeUp_19 : decode cX3_closeUp 19 = .ok (.goto (-17), 3) := by decide +kernel
theorem dX3_closeUp_22 : decode cX3_closeUp 22 = .ok (.aload_n 0, 1) := by decide +kernel
theorem dX3_closeUp_23 : decode cX3_closeUp 23 = .ok (.bipush 13, 2) := by decide +kernel
theorem dX3_closeUp_25 : decode cX3_closeUp 25 = .ok (.iload_n 2, 1) := by decide +kernel
theorem dX3_closeUp_26 : decode cX3_closeUp 26 = .ok (.iastore, 1) := by decide +kernel
theorem dX3_closeUp_27 : decode cX3_closeUp 27 = .ok (.return_, 1) := by decide +kernel
theorem dX3_moveTo_0 : decode cX3_moveTo 0 = .ok (.aload_n 0, 1) := by decide +kernel
theorem dX3_moveTo_1 : decode cX3_moveTo 1 = .ok (.getfield 39, 3) := by decide +kernel
theorem dX3_moveTo_4 : decode cX3_moveTo 4 = .ok (.iload_n 1, 1) := by decide +kernel
theorem dX3_moveTo_5 : decode cX3_moveTo 5 = .ok (.iload_n 2, 1) := by decide +kernel
theorem dX3_moveTo_6 : decode cX3_moveTo 6 = .ok (.iastore, 1) := by decide +kernel
theorem dX3_moveTo_7 : decode cX3_moveTo 7 = .ok (.aload_n 0, 1) := by decide +kernel
theorem dX3_moveTo_8 : decode cX3_moveTo 8 = .ok (.getfield 42, 3) := by decide +kernel
theorem dX3_moveTo_11 : decode cX3_moveTo 11 = .ok (.iload_n 1, 1) := by decide +kernel
theorem dX3_moveTo_12 : decode cX3_moveTo 12 = .ok (.iload_n 2, 1) := by decide +kernel
theorem dX3_moveTo_13 : decode cX3_moveTo 13 = .ok (.iconst (-1), 1) := by decide +kernel
theorem dX3_moveTo_14 : decode cX3_moveTo 14 = .ok (.if_icmp .ne 7, 3) := by decide +kernel
theorem dX3_moveTo_17 : decode cX3_moveTo 17 = .ok (.iconst 0, 1) := by decide +kernel
theorem dX3_moveTo_18 : decode cX3_moveTo 18 = .ok (.goto 9, 3) := by decide +kernel
theorem dX3_moveTo_21 : decode cX3_moveTo 21 = .ok (.aload_n 0, 1) := by decide +kernel
theorem dX3_moveTo_22 : decode cX3_moveTo 22 = .ok (.iload_n 1, 1) := by decide +kernel
theorem dX3_moveTo_23 : decode cX3_moveTo 23 = .ok (.iload_n 2, 1) := by decide +kernel
theorem dX3_moveTo_24 : decode cX3_moveTo 24 = .ok (.invokevirtual 72, 3) := by decide +kernel
theorem dX3_moveTo_27 : decode cX3_moveTo 27 = .ok (.iastore, 1) := by decide +kernel
theorem dX3_moveTo_28 : decode cX3_moveTo 28 = .ok (.return_, 1) := by decide +kernel
theorem dX3_release_0 : decode cX3_release 0 = .ok (.aload_n 0, 1) := by decide +kernel
theorem dX3_release_1 : decode cX3_release 1 = .ok (.iload_n 1, 1) := by decide +kernel
theorem dX3_release_2 : decode cX3_release 2 = .ok (.iconst (-1), 1) := by decide +kernel
theorem dX3_release_3 : decode cX3_release 3 = .ok (.invokevirtual 76, 3) := by decide +kernel
theorem dX3_release_6 : decode cX3_release 6 = .ok (.aload_n 0, 1) := by decide +kernel
theorem dX3_release_7 : decode cX3_release 7 = .ok (.getfield 48, 3) := by decide +kernel
theorem dX3_release_10 : decode cX3_release 10 = .ok (.iload_n 1, 1) := by decide +kernel
theorem dX3_release_11 : decode cX3_release 11 = .ok (.iconst 0, 1) := by decide +kernel
theorem dX3_release_12 : decode cX3_release 12 = .ok (.bastore, 1) := by decide +kernel
theorem dX3_release_13 : decode cX3_release 13 = .ok (.return_, 1) := by decide +kernel
theorem dX3_unplaceUnsuitable_0 : decode cX3_unplaceUnsuitable 0 = .ok (.iconst 0, 1) := by decide +kernel
theorem dX3_unplaceUnsuitable_1 : decode cX3_unplaceUnsuitable 1 = .ok (.istore_n 1, 1) := by decide +kernel
theorem dX3_unplaceUnsuitable_2 : decode cX3_unplaceUnsuitable 2 = .ok (.iconst 0, 1) := by decide +kernel
theorem dX3_unplaceUnsuitable_3 : decode cX3_unplaceUnsuitable 3 = .ok (.istore_n 2, 1) := by decide +kernel
theorem dX3_unplaceUnsuitable_4 : decode cX3_unplaceUnsuitable 4 = .ok (.iload_n 2, 1) := by decide +kernel
theorem dX3_unplaceUnsuitable_5 : decode cX3_unplaceUnsuitable 5 = .ok (.bipush 14, 2) := by decide +kernel
theorem dX3_unplaceUnsuitable_7 : decode cX3_unplaceUnsuitable 7 = .ok (.if_icmp .ge 38, 3) := by decide +kernel
theorem dX3_unplaceUnsuitable_10 : decode cX3_unplaceUnsuitable 10 = .ok (.aload_n 0, 1) := by decide +kernel
theorem dX3_unplaceUnsuitable_11 : decode cX3_unplaceUnsuitable 11 = .ok (.getfield 39, 3) := by decide +kernel
theorem dX3_unplaceUnsuitable_14 : decode cX3_unplaceUnsuitable 14 = .ok (.iload_n 2, 1) := by decide +kernel
theorem dX3_unplaceUnsuitable_15 : decode cX3_unplaceUnsuitable 15 = .ok (.iaload, 1) := by decide +kernel
theorem dX3_unplaceUnsuitable_16 : decode cX3_unplaceUnsuitable 16 = .ok (.istore_n 3, 1) := by decide +kernel
theorem dX3_unplaceUnsuitable_17 : decode cX3_unplaceUnsuitable 17 = .ok (.iload_n 3, 1) := by decide +kernel
theorem dX3_unplaceUnsuitable_18 : decode cX3_unplaceUnsuitable 18 = .ok (.iconst (-1), 1) := by decide +kernel
theorem dX3_unplaceUnsuitable_19 : decode cX3_unplaceUnsuitable 19 = .ok (.if_icmp .eq 20, 3) := by decide +kernel
theorem dX3_unplaceUnsuitable_22 : decode cX3_unplaceUnsuitable 22 = .ok (.aload_n 0, 1) := by decide +kernel
theorem dX3_unplaceUnsuitable_23 : decode cX3_unplaceUnsuitable 23 = .ok (.iload_n 2, 1) := by decide +kernel
theorem dX3_unplaceUnsuitable_24 : decode cX3_unplaceUnsuitable 24 = .ok (.iload_n 3, 1) := by decide +kernel
theorem dX3_unplaceUnsuitable_25 : decode cX3_unplaceUnsuitable 25 = .ok (.invokevirtual 80, 3) := by decide +kernel
theorem dX3_unplaceUnsuitable_28 : decode cX3_unplaceUnsuitable 28 = .ok (.ifCond .eq 11, 3) := by decide +kernel
theorem dX3_unplaceUnsuitable_31 : decode cX3_unplaceUnsuitable 31 = .ok (.aload_n 0, 1) := by decide +kernel
theorem dX3_unplaceUnsuitable_32 : decode cX3_unplaceUnsuitable 32 = .ok (.iload_n 2, 1) := by decide +kernel
theorem dX3_unplaceUnsuitable_33 : decode cX3_unplaceUnsuitable 33 = .ok (.invokevirtual 83, 3) := by decide +kernel
theorem dX3_unplaceUnsuitable_36 : decode cX3_unplaceUnsuitable 36 = .ok (.iinc 1 1, 3) := by decide +kernel
theorem dX3_unplaceUnsuitable_39 : decode cX3_unplaceUnsuitable 39 = .ok (.iinc 2 1, 3) := by decide +kernel
theorem dX3_unplaceUnsuitable_42 : decode cX3_unplaceUnsuitable 42 = .ok (.goto (-38), 3) := by decide +kernel
theorem dX3_unplaceUnsuitable_45 : decode cX3_unplaceUnsuitable 45 = .ok (.iload_n 1, 1) := by decide +kernel
theorem dX3_unplaceUnsuitable_46 : decode cX3_unplaceUnsuitable 46 = .ok (.ireturn, 1) := by decide +kernel
theorem dX3_slotOf_0 : decode cX3_slotOf 0 = .ok (.aload_n 0, 1) := by decide +kernel
theorem dX3_slotOf_1 : decode cX3_slotOf 1 = .ok (.getfield 39, 3) := by decide +kernel
theorem dX3_slotOf_4 : decode cX3_slotOf 4 = .ok (.iload_n 1, 1) := by decide +kernel
theorem dX3_slotOf_5 : decode cX3_slotOf 5 = .ok (.iaload, 1) := by decide +kernel
theorem dX3_slotOf_6 : decode cX3_slotOf 6 = .ok (.bipush 6, 2) := by decide +kernel
theorem dX3_slotOf_8 : decode cX3_slotOf 8 = .ok (.idiv, 1) := by decide +kernel
theorem dX3_slotOf_9 : decode cX3_slotOf 9 = .ok (.ireturn, 1) := by decide +kernel
theorem dX3_sizeOf_0 : decode cX3_sizeOf 0 = .ok (.iconst 0, 1) := by decide +kernel
theorem dX3_sizeOf_1 : decode cX3_sizeOf 1 = .ok (.istore_n 2, 1) := by decide +kernel
theorem dX3_sizeOf_2 : decode cX3_sizeOf 2 = .ok (.iconst 0, 1) := by decide +kernel
theorem dX3_sizeOf_3 : decode cX3_sizeOf 3 = .ok (.istore_n 3, 1) := by decide +kernel
theorem dX3_sizeOf_4 : decode cX3_sizeOf 4 = .ok (.iload_n 3, 1) := by decide +kernel
theorem dX3_sizeOf_5 : decode cX3_sizeOf 5 = .ok (.bipush 6, 2) := by decide +kernel
theorem dX3_sizeOf_7 : decode cX3_sizeOf 7 = .ok (.if_icmp .ge 29, 3) := by decide +kernel
theorem dX3_sizeOf_10 : decode cX3_sizeOf 10 = .ok (.iload_n 2, 1) := by decide +kernel
theorem dX3_sizeOf_11 : decode cX3_sizeOf 11 = .ok (.aload_n 0, 1) := by decide +kernel
theorem dX3_sizeOf_12 : decode cX3_sizeOf 12 = .ok (.getfield 30, 3) := by decide +kernel
theorem dX3_sizeOf_15 : decode cX3_sizeOf 15 = .ok (.iload_n 1, 1) := by decide +kernel
theorem dX3_sizeOf_16 : decode cX3_sizeOf 16 = .ok (.iaload, 1) := by decide +kernel
theorem dX3_sizeOf_17 : decode cX3_sizeOf 17 = .ok (.iload_n 3, 1) := by decide +kernel
theorem dX3_sizeOf_18 : decode cX3_sizeOf 18 = .ok (.ishr, 1) := by decide +kernel
theorem dX3_sizeOf_19 : decode cX3_sizeOf 19 = .ok (.iconst 1, 1) := by decide +kernel
theorem dX3_sizeOf_20 : decode cX3_sizeOf 20 = .ok (.iand, 1) := by decide +kernel
theorem dX3_sizeOf_21 : decode cX3_sizeOf 21 = .ok (.aload_n 0, 1) := by decide +kernel
theorem dX3_sizeOf_22 : decode cX3_sizeOf 22 = .ok (.getfield 18, 3) := by decide +kernel
theorem dX3_sizeOf_25 : decode cX3_sizeOf 25 = .ok (.iload_n 3, 1) := by decide +kernel
theorem dX3_sizeOf_26 : decode cX3_sizeOf 26 = .ok (.iaload, 1) := by decide +kernel
theorem dX3_sizeOf_27 : decode cX3_sizeOf 27 = .ok (.imul, 1) := by decide +kernel
theorem dX3_sizeOf_28 : decode cX3_sizeOf 28 = .ok (.iadd, 1) := by decide +kernel
theorem dX3_sizeOf_29 : decode cX3_sizeOf 29 = .ok (.istore_n 2, 1) := by decide +kernel
theorem dX3_sizeOf_30 : decode cX3_sizeOf 30 = .ok (.iinc 3 1, 3) := by decide +kernel
theorem dX3_sizeOf_33 : decode cX3_sizeOf 33 = .ok (.goto (-29), 3) := by decide +kernel
theorem dX3_sizeOf_36 : decode cX3_sizeOf 36 = .ok (.iload_n 2, 1) := by decide +kernel
theorem dX3_sizeOf_37 : decode cX3_sizeOf 37 = .ok (.ireturn, 1) := by decide +kernel
theorem dX3_isAvailable_0 : decode cX3_isAvailable 0 = .ok (.aload_n 0, 1) := by decide +kernel
theorem dX3_isAvailable_1 : decode cX3_isAvailable 1 = .ok (.getfield 27, 3) := by decide +kernel
theorem dX3_isAvailable_4 : decode cX3_isAvailable 4 = .ok (.iload_n 1, 1) := by decide +kernel
theorem dX3_isAvailable_5 : decode cX3_isAvailable 5 = .ok (.iaload, 1) := by decide +kernel
theorem dX3_isAvailable_6 : decode cX3_isAvailable 6 = .ok (.istore_n 3, 1) := by decide +kernel
theorem dX3_isAvailable_7 : decode cX3_isAvailable 7 = .ok (.iload_n 3, 1) := by decide +kernel
theorem dX3_isAvailable_8 : decode cX3_isAvailable 8 = .ok (.ifCond .lt 26, 3) := by decide +kernel
theorem dX3_isAvailable_11 : decode cX3_isAvailable 11 = .ok (.iload_n 3, 1) := by decide +kernel
theorem dX3_isAvailable_12 : decode cX3_isAvailable 12 = .ok (.bipush 6, 2) := by decide +kernel
theorem dX3_isAvailable_14 : decode cX3_isAvailable 14 = .ok (.if_icmp .ge 20, 3) := by decide +kernel
theorem dX3_isAvailable_17 : decode cX3_isAvailable 17 = .ok (.iload_n 2, 1) := by decide +kernel
theorem dX3_isAvailable_18 : decode cX3_isAvailable 18 = .ok (.aload_n 0, 1) := by decide +kernel
theorem dX3_isAvailable_19 : decode cX3_isAvailable 19 = .ok (.getfield 21, 3) := by decide +kernel
theorem dX3_isAvailable_22 : decode cX3_isAvailable 22 = .ok (.iload_n 3, 1) := by decide +kernel
theorem dX3_isAvailable_23 : decode cX3_isAvailable 23 = .ok (.iaload, 1) := by decide +kernel
theorem dX3_isAvailable_24 : decode cX3_isAvailable 24 = .ok (.iconst (-1), 1) := by decide +kernel
theorem dX3_isAvailable_25 : decode cX3_isAvailable 25 = .ok (.ixor, 1) := by decide +kernel
theorem dX3_isAvailable_26 : decode cX3_isAvailable 26 = .ok (.iand, 1) := by decide +kernel
theorem dX3_isAvailable_27 : decode cX3_isAvailable 27 = .ok (.ifCond .ne 7, 3) := by decide +kernel
theorem dX3_isAvailable_30 : decode cX3_isAvailable 30 = .ok (.iconst 1, 1) := by decide +kernel
theorem dX3_isAvailable_31 : decode cX3_isAvailable 31 = .ok (.goto 4, 3) := by decide +kernel
theorem dX3_isAvailable_34 : decode cX3_isAvailable 34 = .ok (.iconst 0, 1) := by decide +kernel
theorem dX3_isAvailable_35 : decode cX3_isAvailable 35 = .ok (.ireturn, 1) := by decide +kernel
theorem dX3_hasNeeds_0 : decode cX3_hasNeeds 0 = .ok (.aload_n 0, 1) := by decide +kernel
theorem dX3_hasNeeds_1 : decode cX3_hasNeeds 1 = .ok (.getfield 33, 3) := by decide +kernel
theorem dX3_hasNeeds_4 : decode cX3_hasNeeds 4 = .ok (.iload_n 1, 1) := by decide +kernel
theorem dX3_hasNeeds_5 : decode cX3_hasNeeds 5 = .ok (.iaload, 1) := by decide +kernel
theorem dX3_hasNeeds_6 : decode cX3_hasNeeds 6 = .ok (.aload_n 0, 1) := by decide +kernel
theorem dX3_hasNeeds_7 : decode cX3_hasNeeds 7 = .ok (.getfield 15, 3) := by decide +kernel
theorem dX3_hasNeeds_10 : decode cX3_hasNeeds 10 = .ok (.iload_n 2, 1) := by decide +kernel
theorem dX3_hasNeeds_11 : decode cX3_hasNeeds 11 = .ok (.iaload, 1) := by decide +kernel
theorem dX3_hasNeeds_12 : decode cX3_hasNeeds 12 = .ok (.iconst (-1), 1) := by decide +kernel
theorem dX3_hasNeeds_13 : decode cX3_hasNeeds 13 = .ok (.ixor, 1) := by decide +kernel
theorem dX3_hasNeeds_14 : decode cX3_hasNeeds 14 = .ok (.iand, 1) := by decide +kernel
theorem dX3_hasNeeds_15 : decode cX3_hasNeeds 15 = .ok (.ifCond .ne 7, 3) := by decide +kernel
theorem dX3_hasNeeds_18 : decode cX3_hasNeeds 18 = .ok (.iconst 1, 1) := by decide +kernel
theorem dX3_hasNeeds_19 : decode cX3_hasNeeds 19 = .ok (.goto 4, 3) := by decide +kernel
theorem dX3_hasNeeds_22 : decode cX3_hasNeeds 22 = .ok (.iconst 0, 1) := by decide +kernel
theorem dX3_hasNeeds_23 : decode cX3_hasNeeds 23 = .ok (.ireturn, 1) := by decide +kernel
theorem dX3_slotsAt_0 : decode cX3_slotsAt 0 = .ok (.iconst 1, 1) := by decide +kernel
theorem dX3_slotsAt_1 : decode cX3_slotsAt 1 = .ok (.iload_n 2, 1) := by decide +kernel
theorem dX3_slotsAt_2 : decode cX3_slotsAt 2 = .ok (.bipush 6, 2) := by decide +kernel
theorem dX3_slotsAt_4 : decode cX3_slotsAt 4 = .ok (.idiv, 1) := by decide +kernel
theorem dX3_slotsAt_5 : decode cX3_slotsAt 5 = .ok (.ishl, 1) := by decide +kernel
theorem dX3_slotsAt_6 : decode cX3_slotsAt 6 = .ok (.istore_n 3, 1) := by decide +kernel
theorem dX3_slotsAt_7 : decode cX3_slotsAt 7 = .ok (.aload_n 0, 1) := by decide +kernel
theorem dX3_slotsAt_8 : decode cX3_slotsAt 8 = .ok (.getfield 36, 3) := by decide +kernel
theorem dX3_slotsAt_11 : decode cX3_slotsAt 11 = .ok (.iload_n 1, 1) := by decide +kernel
theorem dX3_slotsAt_12 : decode cX3_slotsAt 12 = .ok (.iaload, 1) := by decide +kernel
theorem dX3_slotsAt_13 : decode cX3_slotsAt 13 = .ok (.iconst 2, 1) := by decide +kernel
theorem dX3_slotsAt_14 : decode cX3_slotsAt 14 = .ok (.if_icmp .ne 15, 3) := by decide +kernel
theorem dX3_slotsAt_17 : decode cX3_slotsAt 17 = .ok (.iload_n 3, 1) := by decide +kernel
theorem dX3_slotsAt_18 : decode cX3_slotsAt 18 = .ok (.sipush 528, 3) := by decide +kernel
theorem dX3_slotsAt_21 : decode cX3_slotsAt 21 = .ok (.iand, 1) := by decide +kernel
theorem dX3_slotsAt_22 : decode cX3_slotsAt 22 = .ok (.ifCond .ne 7, 3) := by decide +kernel
theorem dX3_slotsAt_25 : decode cX3_slotsAt 25 = .ok (.iconst 1, 1) := by decide +kernel
theorem dX3_slotsAt_26 : decode cX3_slotsAt 26 = .ok (.goto 4, 3) := by decide +kernel
theorem dX3_slotsAt_29 : decode cX3_slotsAt 29 = .ok (.iconst 0, 1) := by decide +kernel
theorem dX3_slotsAt_30 : decode cX3_slotsAt 30 = .ok (.istore 4, 2) := by decide +kernel
theorem dX3_slotsAt_32 : decode cX3_slotsAt 32 = .ok (.iload 4, 2) := by decide +kernel
theorem dX3_slotsAt_34 : decode cX3_slotsAt 34 = .ok (.ifCond .eq 11, 3) := by decide +kernel
theorem dX3_slotsAt_37 : decode cX3_slotsAt 37 = .ok (.iload_n 3, 1) := by decide +kernel
theorem dX3_slotsAt_38 : decode cX3_slotsAt 38 = .ok (.iload_n 3, 1) := by decide +kernel
theorem dX3_slotsAt_39 : decode cX3_slotsAt 39 = .ok (.iconst 1, 1) := by decide +kernel
theorem dX3_slotsAt_40 : decode cX3_slotsAt 40 = .ok (.ishl, 1) := by decide +kernel
theorem dX3_slotsAt_41 : decode cX3_slotsAt 41 = .ok (.ior, 1) := by decide +kernel
theorem dX3_slotsAt_42 : decode cX3_slotsAt 42 = .ok (.goto 4, 3) := by decide +kernel
theorem dX3_slotsAt_45 : decode cX3_slotsAt 45 = .ok (.iload_n 3, 1) := by decide +kernel
theorem dX3_slotsAt_46 : decode cX3_slotsAt 46 = .ok (.ireturn, 1) := by decide +kernel
theorem dX3_obstacleAt_0 : decode cX3_obstacleAt 0 = .ok (.aload_n 0, 1) := by decide +kernel
theorem dX3_obstacleAt_1 : decode cX3_obstacleAt 1 = .ok (.iload_n 1, 1) := by decide +kernel
theorem dX3_obstacleAt_2 : decode cX3_obstacleAt 2 = .ok (.iload_n 2, 1) := by decide +kernel
theorem dX3_obstacleAt_3 : decode cX3_obstacleAt 3 = .ok (.invokevirtual 80, 3) := by decide +kernel
theorem dX3_obstacleAt_6 : decode cX3_obstacleAt 6 = .ok (.istore_n 3, 1) := by decide +kernel
theorem dX3_obstacleAt_7 : decode cX3_obstacleAt 7 = .ok (.iload_n 3, 1) := by decide +kernel
theorem dX3_obstacleAt_8 : decode cX3_obstacleAt 8 = .ok (.ifCond .eq 5, 3) := by decide +kernel
theorem dX3_obstacleAt_11 : decode cX3_obstacleAt 11 = .ok (.iload_n 3, 1) := by decide +kernel
theorem dX3_obstacleAt_12 : decode cX3_obstacleAt 12 = .ok (.ireturn, 1) := by decide +kernel
theorem dX3_obstacleAt_13 : decode cX3_obstacleAt 13 = .ok (.aload_n 0, 1) := by decide +kernel
theorem dX3_obstacleAt_14 : decode cX3_obstacleAt 14 = .ok (.iload_n 1, 1) := by decide +kernel
theorem dX3_obstacleAt_15 : decode cX3_obstacleAt 15 = .ok (.iload_n 2, 1) := by decide +kernel
theorem dX3_obstacleAt_16 : decode cX3_obstacleAt 16 = .ok (.invokevirtual 72, 3) := by decide +kernel
theorem dX3_obstacleAt_19 : decode cX3_obstacleAt 19 = .ok (.istore 4, 2) := by decide +kernel
theorem dX3_obstacleAt_21 : decode cX3_obstacleAt 21 = .ok (.iconst 0, 1) := by decide +kernel
theorem dX3_obstacleAt_22 : decode cX3_obstacleAt 22 = .ok (.istore 5, 2) := by decide +kernel
theorem dX3_obstacleAt_24 : decode cX3_obstacleAt 24 = .ok (.iload 5, 2) := by decide +kernel
theorem dX3_obstacleAt_26 : decode cX3_obstacleAt 26 = .ok (.bipush 14, 2) := by decide +kernel
theorem dX3_obstacleAt_28 : decode cX3_obstacleAt 28 = .ok (.if_icmp .ge 42, 3) := by decide +kernel
theorem dX3_obstacleAt_31 : decode cX3_obstacleAt 31 = .ok (.aload_n 0, 1) := by decide +kernel
theorem dX3_obstacleAt_32 : decode cX3_obstacleAt 32 = .ok (.iload 5, 2) := by decide +kernel
theorem dX3_obstacleAt_34 : decode cX3_obstacleAt 34 = .ok (.iload_n 1, 1) := by decide +kernel
theorem dX3_obstacleAt_35 : decode cX3_obstacleAt 35 = .ok (.iload_n 2, 1) := by decide +kernel
theorem dX3_obstacleAt_36 : decode cX3_obstacleAt 36 = .ok (.bipush 6, 2) := by decide +kernel
theorem dX3_obstacleAt_38 : decode cX3_obstacleAt 38 = .ok (.irem, 1) := by decide +kernel
theorem dX3_obstacleAt_39 : decode cX3_obstacleAt 39 = .ok (.iload 4, 2) := by decide +kernel
theorem dX3_obstacleAt_41 : decode cX3_obstacleAt 41 = .ok (.invokevirtual 87, 3) := by decide +kernel
theorem dX3_obstacleAt_44 : decode cX3_obstacleAt 44 = .ok (.istore 6, 2) := by decide +kernel
theorem dX3_obstacleAt_46 : decode cX3_obstacleAt 46 = .ok (.iload 6, 2) := by decide +kernel
theorem dX3_obstacleAt_48 : decode cX3_obstacleAt 48 = .ok (.ifCond .eq 16, 3) := by decide +kernel
theorem dX3_obstacleAt_51 : decode cX3_obstacleAt 51 = .ok (.iload_n 3, 1) := by decide +kernel
theorem dX3_obstacleAt_52 : decode cX3_obstacleAt 52 = .ok (.ifCond .eq 9, 3) := by decide +kernel
theorem dX3_obstacleAt_55 : decode cX3_obstacleAt 55 = .ok (.iload 6, 2) := by decide +kernel
theorem dX3_obstacleAt_57 : decode cX3_obstacleAt 57 = .ok (.iload_n 3, 1) := by decide +kernel
theorem dX3_obstacleAt_58 : decode cX3_obstacleAt 58 = .ok (.if_icmp .ge 6, 3) := by decide +kernel
theorem dX3_obstacleAt_61 : decode cX3_obstacleAt 61 = .ok (.iload 6, 2) := by decide +kernel
theorem dX3_obstacleAt_63 : decode cX3_obstacleAt 63 = .ok (.istore_n 3, 1) := by decide +kernel
theorem dX3_obstacleAt_64 : decode cX3_obstacleAt 64 = .ok (.iinc 5 1, 3) := by decide +kernel
theorem dX3_obstacleAt_67 : decode cX3_obstacleAt 67 = .ok (.goto (-43), 3) := by decide +kernel
theorem dX3_obstacleAt_70 : decode cX3_obstacleAt 70 = .ok (.iload_n 3, 1) := by decide +kernel
theorem dX3_obstacleAt_71 : decode cX3_obstacleAt 71 = .ok (.ireturn, 1) := by decide +kernel
theorem dX3_unsuitableAt_0 : decode cX3_unsuitableAt 0 = .ok (.aload_n 0, 1) := by decide +kernel
theorem dX3_unsuitableAt_1 : decode cX3_unsuitableAt 1 = .ok (.iload_n 1, 1) := by decide +kernel
theorem dX3_unsuitableAt_2 : decode cX3_unsuitableAt 2 = .ok (.iload_n 2, 1) := by decide +kernel
theorem dX3_unsuitableAt_3 : decode cX3_unsuitableAt 3 = .ok (.invokevirtual 72, 3) := by decide +kernel
theorem dX3_unsuitableAt_6 : decode cX3_unsuitableAt 6 = .ok (.istore_n 3, 1) := by decide +kernel
theorem dX3_unsuitableAt_7 : decode cX3_unsuitableAt 7 = .ok (.iload_n 2, 1) := by decide +kernel
theorem dX3_unsuitableAt_8 : decode cX3_unsuitableAt 8 = .ok (.bipush 6, 2) := by decide +kernel
theorem dX3_unsuitableAt_10 : decode cX3_unsuitableAt 10 = .ok (.irem, 1) := by decide +kernel
theorem dX3_unsuitableAt_11 : decode cX3_unsuitableAt 11 = .ok (.istore 4, 2) := by decide +kernel
theorem dX3_unsuitableAt_13 : decode cX3_unsuitableAt 13 = .ok (.iload_n 3, 1) := by decide +kernel
theorem dX3_unsuitableAt_14 : decode cX3_unsuitableAt 14 = .ok (.invokestatic 91, 3) := by decide +kernel
theorem dX3_unsuitableAt_17 : decode cX3_unsuitableAt 17 = .ok (.aload_n 0, 1) := by decide +kernel
theorem dX3_unsuitableAt_18 : decode cX3_unsuitableAt 18 = .ok (.getfield 36, 3) := by decide +kernel
theorem dX3_unsuitableAt_21 : decode cX3_unsuitableAt 21 = .ok (.iload_n 1, 1) := by decide +kernel
theorem dX3_unsuitableAt_22 : decode cX3_unsuitableAt 22 = .ok (.iaload, 1) := by decide +kernel
theorem dX3_unsuitableAt_23 : decode cX3_unsuitableAt 23 = .ok (.if_icmp .ge 5, 3) := by decide +kernel
theorem dX3_unsuitableAt_26 : decode cX3_unsuitableAt 26 = .ok (.iconst 1, 1) := by decide +kernel
theorem dX3_unsuitableAt_27 : decode cX3_unsuitableAt 27 = .ok (.ireturn, 1) := by decide +kernel
theorem dX3_unsuitableAt_28 : decode cX3_unsuitableAt 28 = .ok (.aload_n 0, 1) := by decide +kernel
theorem dX3_unsuitableAt_29 : decode cX3_unsuitableAt 29 = .ok (.iload_n 1, 1) := by decide +kernel
theorem dX3_unsuitableAt_30 : decode cX3_unsuitableAt 30 = .ok (.iload_n 3, 1) := by decide +kernel
theorem dX3_unsuitableAt_31 : decode cX3_unsuitableAt 31 = .ok (.invokevirtual 97, 3) := by decide +kernel
theorem dX3_unsuitableAt_34 : decode cX3_unsuitableAt 34 = .ok (.ifCond .ne 5, 3) := by decide +kernel
theorem dX3_unsuitableAt_37 : decode cX3_unsuitableAt 37 = .ok (.iconst 2, 1) := by decide +kernel
theorem dX3_unsuitableAt_38 : decode cX3_unsuitableAt 38 = .ok (.ireturn, 1) := by decide +kernel
theorem dX3_unsuitableAt_39 : decode cX3_unsuitableAt 39 = .ok (.aload_n 0, 1) := by decide +kernel
theorem dX3_unsuitableAt_40 : decode cX3_unsuitableAt 40 = .ok (.getfield 9, 3) := by decide +kernel
theorem dX3_unsuitableAt_43 : decode cX3_unsuitableAt 43 = .ok (.iload 4, 2) := by decide +kernel
theorem dX3_unsuitableAt_45 : decode cX3_unsuitableAt 45 = .ok (.iaload, 1) := by decide +kernel
theorem dX3_unsuitableAt_46 : decode cX3_unsuitableAt 46 = .ok (.aload_n 0, 1) := by decide +kernel
theorem dX3_unsuitableAt_47 : decode cX3_unsuitableAt 47 = .ok (.iload_n 1, 1) := by decide +kernel
theorem dX3_unsuitableAt_48 : decode cX3_unsuitableAt 48 = .ok (.invokevirtual 101, 3) := by decide +kernel
theorem dX3_unsuitableAt_51 : decode cX3_unsuitableAt 51 = .ok (.if_icmp .ge 5, 3) := by decide +kernel
theorem dX3_unsuitableAt_54 : decode cX3_unsuitableAt 54 = .ok (.iconst 3, 1) := by decide +kernel
theorem dX3_unsuitableAt_55 : decode cX3_unsuitableAt 55 = .ok (.ireturn, 1) := by decide +kernel
theorem dX3_unsuitableAt_56 : decode cX3_unsuitableAt 56 = .ok (.aload_n 0, 1) := by decide +kernel
theorem dX3_unsuitableAt_57 : decode cX3_unsuitableAt 57 = .ok (.iload_n 1, 1) := by decide +kernel
theorem dX3_unsuitableAt_58 : decode cX3_unsuitableAt 58 = .ok (.iload 4, 2) := by decide +kernel
theorem dX3_unsuitableAt_60 : decode cX3_unsuitableAt 60 = .ok (.invokevirtual 104, 3) := by decide +kernel
theorem dX3_unsuitableAt_63 : decode cX3_unsuitableAt 63 = .ok (.ifCond .eq 7, 3) := by decide +kernel
theorem dX3_unsuitableAt_66 : decode cX3_unsuitableAt 66 = .ok (.iconst 0, 1) := by decide +kernel
theorem dX3_unsuitableAt_67 : decode cX3_unsuitableAt 67 = .ok (.goto 4, 3) := by decide +kernel
theorem dX3_unsuitableAt_70 : decode cX3_unsuitableAt 70 = .ok (.iconst 4, 1) := by decide +kernel
theorem dX3_unsuitableAt_71 : decode cX3_unsuitableAt 71 = .ok (.ireturn, 1) := by decide +kernel
theorem dX3_clashWith_0 : decode cX3_clashWith 0 = .ok (.iload_n 1, 1) := by decide +kernel
theorem dX3_clashWith_1 : decode cX3_clashWith 1 = .ok (.iload_n 2, 1) := by decide +kernel
theorem dX3_clashWith_2 : decode cX3_clashWith 2 = .ok (.if_icmp .eq 15, 3) := by decide +kernel
theorem dX3_clashWith_5 : decode cX3_clashWith 5 = .ok (.aload_n 0, 1) := by decide +kernel
theorem dX3_clashWith_6 : decode cX3_clashWith 6 = .ok (.getfield 42, 3) := by decide +kernel
theorem dX3_clashWith_9 : decode cX3_clashWith 9 = .ok (.iload_n 1, 1) := by decide +kernel
theorem dX3_clashWith_10 : decode cX3_clashWith 10 = .ok (.iaload, 1) := by decide +kernel
theorem dX3_clashWith_11 : decode cX3_clashWith 11 = .ok (.iload 4, 2) := by decide +kernel
theorem dX3_clashWith_13 : decode cX3_clashWith 13 = .ok (.iand, 1) := by decide +kernel
theorem dX3_clashWith_14 : decode cX3_clashWith 14 = .ok (.ifCond .ne 5, 3) := by decide +kernel
theorem dX3_clashWith_17 : decode cX3_clashWith 17 = .ok (.iconst 0, 1) := by decide +kernel
theorem dX3_clashWith_18 : decode cX3_clashWith 18 = .ok (.ireturn, 1) := by decide +kernel
theorem dX3_clashWith_19 : decode cX3_clashWith 19 = .ok (.aload_n 0, 1) := by decide +kernel
theorem dX3_clashWith_20 : decode cX3_clashWith 20 = .ok (.getfield 39, 3) := by decide +kernel
theorem dX3_clashWith_23 : decode cX3_clashWith 23 = .ok (.iload_n 1, 1) := by decide +kernel
theorem dX3_clashWith_24 : decode cX3_clashWith 24 = .ok (.iaload, 1) := by decide +kernel
theorem dX3_clashWith_25 : decode cX3_clashWith 25 = .ok (.bipush 6, 2) := by decide +kernel
theorem dX3_clashWith_27 : decode cX3_clashWith 27 = .ok (.irem, 1) := by decide +kernel
theorem dX3_clashWith_28 : decode cX3_clashWith 28 = .ok (.iload_n 3, 1) := by decide +kernel
theorem dX3_clashWith_29 : decode cX3_clashWith 29 = .ok (.if_icmp .ne 5, 3) := by decide +kernel
theorem dX3_clashWith_32 : decode cX3_clashWith 32 = .ok (.iconst 5, 1) := by decide +kernel
theorem dX3_clashWith_33 : decode cX3_clashWith 33 = .ok (.ireturn, 1) := by decide +kernel
theorem dX3_clashWith_34 : decode cX3_clashWith 34 = .ok (.aload_n 0, 1) := by decide +kernel
theorem dX3_clashWith_35 : decode cX3_clashWith 35 = .ok (.getfield 27, 3) := by decide +kernel
theorem dX3_clashWith_38 : decode cX3_clashWith 38 = .ok (.iload_n 1, 1) := by decide +kernel
theorem dX3_clashWith_39 : decode cX3_clashWith 39 = .ok (.iaload, 1) := by decide +kernel
theorem dX3_clashWith_40 : decode cX3_clashWith 40 = .ok (.aload_n 0, 1) := by decide +kernel
theorem dX3_clashWith_41 : decode cX3_clashWith 41 = .ok (.getfield 27, 3) := by decide +kernel
theorem dX3_clashWith_44 : decode cX3_clashWith 44 = .ok (.iload_n 2, 1) := by decide +kernel
theorem dX3_clashWith_45 : decode cX3_clashWith 45 = .ok (.iaload, 1) := by decide +kernel
theorem dX3_clashWith_46 : decode cX3_clashWith 46 = .ok (.if_icmp .ne 6, 3) := by decide +kernel
theorem dX3_clashWith_49 : decode cX3_clashWith 49 = .ok (.bipush 6, 2) := by decide +kernel
theorem dX3_clashWith_51 : decode cX3_clashWith 51 = .ok (.ireturn, 1) := by decide +kernel
theorem dX3_clashWith_52 : decode cX3_clashWith 52 = .ok (.aload_n 0, 1) := by decide +kernel
theorem dX3_clashWith_53 : decode cX3_clashWith 53 = .ok (.getfield 30, 3) := by decide +kernel
theorem dX3_clashWith_56 : decode cX3_clashWith 56 = .ok (.iload_n 1, 1) := by decide +kernel
theorem dX3_clashWith_57 : decode cX3_clashWith 57 = .ok (.iaload, 1) := by decide +kernel
theorem dX3_clashWith_58 : decode cX3_clashWith 58 = .ok (.aload_n 0, 1) := by decide +kernel
theorem dX3_clashWith_59 : decode cX3_clashWith 59 = .ok (.getfield 30, 3) := by decide +kernel
theorem dX3_clashWith_62 : decode cX3_clashWith 62 = .ok (.iload_n 2, 1) := by decide +kernel
theorem dX3_clashWith_63 : decode cX3_clashWith 63 = .ok (.iaload, 1) := by decide +kernel
theorem dX3_clashWith_64 : decode cX3_clashWith 64 = .ok (.iand, 1) := by decide +kernel
theorem dX3_clashWith_65 : decode cX3_clashWith 65 = .ok (.ifCond .eq 8, 3) := by decide +kernel
theorem dX3_clashWith_68 : decode cX3_clashWith 68 = .ok (.bipush 7, 2) := by decide +kernel
theorem dX3_clashWith_70 : decode cX3_clashWith 70 = .ok (.goto 4, 3) := by decide +kernel
theorem dX3_clashWith_73 : decode cX3_clashWith 73 = .ok (.iconst 0, 1) := by decide +kernel
theorem dX3_clashWith_74 : decode cX3_clashWith 74 = .ok (.ireturn, 1) := by decide +kernel
theorem dX3_hinderingAt_0 : decode cX3_hinderingAt 0 = .ok (.iconst 0, 1) := by decide +kernel
theorem dX3_hinderingAt_1 : decode cX3_hinderingAt 1 = .ok (.istore_n 3, 1) := by decide +kernel
theorem dX3_hinderingAt_2 : decode cX3_hinderingAt 2 = .ok (.aload_n 0, 1) := by decide +kernel
theorem dX3_hinderingAt_3 : decode cX3_hinderingAt 3 = .ok (.iload_n 1, 1) := by decide +kernel
theorem dX3_hinderingAt_4 : decode cX3_hinderingAt 4 = .ok (.iload_n 2, 1) := by decide +kernel
theorem dX3_hinderingAt_5 : decode cX3_hinderingAt 5 = .ok (.invokevirtual 72, 3) := by decide +kernel
theorem dX3_hinderingAt_8 : decode cX3_hinderingAt 8 = .ok (.istore 4, 2) := by decide +kernel
theorem dX3_hinderingAt_10 : decode cX3_hinderingAt 10 = .ok (.iconst 0, 1) := by decide +kernel
theorem dX3_hinderingAt_11 : decode cX3_hinderingAt 11 = .ok (.istore 5, 2) := by decide +kernel
theorem dX3_hinderingAt_13 : decode cX3_hinderingAt 13 = .ok (.iload 5, 2) := by decide +kernel
theorem dX3_hinderingAt_15 : decode cX3_hinderingAt 15 = .ok (.bipush 14, 2) := by decide +kernel
theorem dX3_hinderingAt_17 : decode cX3_hinderingAt 17 = .ok (.if_icmp .ge 32, 3) := by decide +kernel
theorem dX3_hinderingAt_20 : decode cX3_hinderingAt 20 = .ok (.aload_n 0, 1) := by decide +kernel
theorem dX3_hinderingAt_21 : decode cX3_hinderingAt 21 = .ok (.iload 5, 2) := by decide +kernel
theorem dX3_hinderingAt_23 : decode cX3_hinderingAt 23 = .ok (.iload_n 1, 1) := by decide +kernel
theorem dX3_hinderingAt_24 : decode cX3_hinderingAt 24 = .ok (.iload_n 2, 1) := by decide +kernel
theorem dX3_hinderingAt_25 : decode cX3_hinderingAt 25 = .ok (.bipush 6, 2) := by decide +kernel
theorem dX3_hinderingAt_27 : decode cX3_hinderingAt 27 = .ok (.irem, 1) := by decide +kernel
theorem dX3_hinderingAt_28 : decode cX3_hinderingAt 28 = .ok (.iload 4, 2) := by decide +kernel
theorem dX3_hinderingAt_30 : decode cX3_hinderingAt 30 = .ok (.invokevirtual 87, 3) := by decide +kernel
theorem dX3_hinderingAt_33 : decode cX3_hinderingAt 33 = .ok (.ifCond .eq 10, 3) := by decide +kernel
theorem dX3_hinderingAt_36 : decode cX3_hinderingAt 36 = .ok (.iload_n 3, 1) := by decide +kernel
theorem dX3_hinderingAt_37 : decode cX3_hinderingAt 37 = .ok (.iconst 1, 1) := by decide +kernel
theorem dX3_hinderingAt_38 : decode cX3_hinderingAt 38 = .ok (.iload 5, 2) := by decide +kernel
theorem dX3_hinderingAt_40 : decode cX3_hinderingAt 40 = .ok (.ishl, 1) := by decide +kernel
theorem dX3_hinderingAt_41 : decode cX3_hinderingAt 41 = .ok (.ior, 1) := by decide +kernel
theorem dX3_hinderingAt_42 : decode cX3_hinderingAt 42 = .ok (.istore_n 3, 1) := by decide +kernel
theorem dX3_hinderingAt_43 : decode cX3_hinderingAt 43 = .ok (.iinc 5 1, 3) := by decide +kernel
theorem dX3_hinderingAt_46 : decode cX3_hinderingAt 46 = .ok (.goto (-33), 3) := by decide +kernel
theorem dX3_hinderingAt_49 : decode cX3_hinderingAt 49 = .ok (.iload_n 3, 1) := by decide +kernel
theorem dX3_hinderingAt_50 : decode cX3_hinderingAt 50 = .ok (.ireturn, 1) := by decide +kernel
theorem dX3_freePlace_0 : decode cX3_freePlace 0 = .ok (.iconst 0, 1) := by decide +kernel
theorem dX3_freePlace_1 : decode cX3_freePlace 1 = .ok (.istore_n 3, 1) := by decide +kernel
theorem dX3_freePlace_2 : decode cX3_freePlace 2 = .ok (.iconst 0, 1) := by decide +kernel
theorem dX3_freePlace_3 : decode cX3_freePlace 3 = .ok (.istore 4, 2) := by decide +kernel
theorem dX3_freePlace_5 : decode cX3_freePlace 5 = .ok (.iload 4, 2) := by decide +kernel
theorem dX3_freePlace_7 : decode cX3_freePlace 7 = .ok (.bipush 60, 2) := by decide +kernel
theorem dX3_freePlace_9 : decode cX3_freePlace 9 = .ok (.if_icmp .ge 30, 3) := by decide +kernel
theorem dX3_freePlace_12 : decode cX3_freePlace 12 = .ok (.aload_n 0, 1) := by decide +kernel
theorem dX3_freePlace_13 : decode cX3_freePlace 13 = .ok (.iload_n 1, 1) := by decide +kernel
theorem dX3_freePlace_14 : decode cX3_freePlace 14 = .ok (.iload 4, 2) := by decide +kernel
theorem dX3_freePlace_16 : decode cX3_freePlace 16 = .ok (.invokevirtual 107, 3) := by decide +kernel
theorem dX3_freePlace_19 : decode cX3_freePlace 19 = .ok (.ifCond .ne 14, 3) := by decide +kernel
theorem dX3_freePlace_22 : decode cX3_freePlace 22 = .ok (.iload_n 3, 1) := by decide +kernel
theorem dX3_freePlace_23 : decode cX3_freePlace 23 = .ok (.iload_n 2, 1) := by decide +kernel
theorem dX3_freePlace_24 : decode cX3_freePlace 24 = .ok (.if_icmp .ne 6, 3) := by decide +kernel
theorem dX3_freePlace_27 : decode cX3_freePlace 27 = .ok (.iload 4, 2) := by decide +kernel
theorem dX3_freePlace_29 : decode cX3_freePlace 29 = .ok (.ireturn, 1) := by decide +kernel
theorem dX3_freePlace_30 : decode cX3_freePlace 30 = .ok (.iinc 3 1, 3) := by decide +kernel
theorem dX3_freePlace_33 : decode cX3_freePlace 33 = .ok (.iinc 4 1, 3) := by decide +kernel
theorem dX3_freePlace_36 : decode cX3_freePlace 36 = .ok (.goto (-31), 3) := by decide +kernel
theorem dX3_freePlace_39 : decode cX3_freePlace 39 = .ok (.iconst (-1), 1) := by decide +kernel
theorem dX3_freePlace_40 : decode cX3_freePlace 40 = .ok (.ireturn, 1) := by decide +kernel
theorem dX3_suitablePlaces_0 : decode cX3_suitablePlaces 0 = .ok (.iconst 0, 1) := by decide +kernel
theorem dX3_suitablePlaces_1 : decode cX3_suitablePlaces 1 = .ok (.istore_n 2, 1) := by decide +kernel
theorem dX3_suitablePlaces_2 : decode cX3_suitablePlaces 2 = .ok (.iconst 0, 1) := by decide +kernel
theorem dX3_suitablePlaces_3 : decode cX3_suitablePlaces 3 = .ok (.istore_n 3, 1) := by decide +kernel
theorem dX3_suitablePlaces_4 : decode cX3_suitablePlaces 4 = .ok (.iload_n 3, 1) := by decide +kernel
theorem dX3_suitablePlaces_5 : decode cX3_suitablePlaces 5 = .ok (.bipush 60, 2) := by decide +kernel
theorem dX3_suitablePlaces_7 : decode cX3_suitablePlaces 7 = .ok (.if_icmp .ge 21, 3) := by decide +kernel
theorem dX3_suitablePlaces_10 : decode cX3_suitablePlaces 10 = .ok (.aload_n 0, 1) := by decide +kernel
theorem dX3_suitablePlaces_11 : decode cX3_suitablePlaces 11 = .ok (.iload_n 1, 1) := by decide +kernel
theorem dX3_suitablePlaces_12 : decode cX3_suitablePlaces 12 = .ok (.iload_n 3, 1) := by decide +kernel
theorem dX3_suitablePlaces_13 : decode cX3_suitablePlaces 13 = .ok (.invokevirtual 80, 3) := by decide +kernel
theorem dX3_suitablePlaces_16 : decode cX3_suitablePlaces 16 = .ok (.ifCond .ne 6, 3) := by decide +kernel
theorem dX3_suitablePlaces_19 : decode cX3_suitablePlaces 19 = .ok (.iinc 2 1, 3) := by decide +kernel
theorem dX3_suitablePlaces_22 : decode cX3_suitablePlaces 22 = .ok (.iinc 3 1, 3) := by decide +kernel
theorem dX3_suitablePlaces_25 : decode cX3_suitablePlaces 25 = .ok (.goto (-21), 3) := by decide +kernel
theorem dX3_suitablePlaces_28 : decode cX3_suitablePlaces 28 = .ok (.iload_n 2, 1) := by decide +kernel
theorem dX3_suitablePlaces_29 : decode cX3_suitablePlaces 29 = .ok (.ireturn, 1) := by decide +kernel
theorem dX3_eventIn_0 : decode cX3_eventIn 0 = .ok (.iconst 0, 1) := by decide +kernel
theorem dX3_eventIn_1 : decode cX3_eventIn 1 = .ok (.istore_n 3, 1) := by decide +kernel
theorem dX3_eventIn_2 : decode cX3_eventIn 2 = .ok (.iload_n 3, 1) := by decide +kernel
theorem dX3_eventIn_3 : decode cX3_eventIn 3 = .ok (.bipush 14, 2) := by decide +kernel
theorem dX3_eventIn_5 : decode cX3_eventIn 5 = .ok (.if_icmp .ge 37, 3) := by decide +kernel
theorem dX3_eventIn_8 : decode cX3_eventIn 8 = .ok (.aload_n 0, 1) := by decide +kernel
theorem dX3_eventIn_9 : decode cX3_eventIn 9 = .ok (.getfield 42, 3) := by decide +kernel
theorem dX3_eventIn_12 : decode cX3_eventIn 12 = .ok (.iload_n 3, 1) := by decide +kernel
theorem dX3_eventIn_13 : decode cX3_eventIn 13 = .ok (.iaload, 1) := by decide +kernel
theorem dX3_eventIn_14 : decode cX3_eventIn 14 = .ok (.iload_n 1, 1) := by decide +kernel
theorem dX3_eventIn_15 : decode cX3_eventIn 15 = .ok (.invokestatic 110, 3) := by decide +kernel
theorem dX3_eventIn_18 : decode cX3_eventIn 18 = .ok (.ifCond .eq 18, 3) := by decide +kernel
theorem dX3_eventIn_21 : decode cX3_eventIn 21 = .ok (.aload_n 0, 1) := by decide +kernel
theorem dX3_eventIn_22 : decode cX3_eventIn 22 = .ok (.getfield 39, 3) := by decide +kernel
theorem dX3_eventIn_25 : decode cX3_eventIn 25 = .ok (.iload_n 3, 1) := by decide +kernel
theorem dX3_eventIn_26 : decode cX3_eventIn 26 = .ok (.iaload, 1) := by decide +kernel
theorem dX3_eventIn_27 : decode cX3_eventIn 27 = .ok (.bipush 6, 2) := by decide +kernel
theorem dX3_eventIn_29 : decode cX3_eventIn 29 = .ok (.irem, 1) := by decide +kernel
theorem dX3_eventIn_30 : decode cX3_eventIn 30 = .ok (.iload_n 2, 1) := by decide +kernel
theorem dX3_eventIn_31 : decode cX3_eventIn 31 = .ok (.if_icmp .ne 5, 3) := by decide +kernel
theorem dX3_eventIn_34 : decode cX3_eventIn 34 = .ok (.iload_n 3, 1) := by decide +kernel
theorem dX3_eventIn_35 : decode cX3_eventIn 35 = .ok (.ireturn, 1) := by decide +kernel
theorem dX3_eventIn_36 : decode cX3_eventIn 36 = .ok (.iinc 3 1, 3) := by decide +kernel
theorem dX3_eventIn_39 : decode cX3_eventIn 39 = .ok (.goto (-37), 3) := by decide +kernel
theorem dX3_eventIn_42 : decode cX3_eventIn 42 = .ok (.iconst (-1), 1) := by decide +kernel
theorem dX3_eventIn_43 : decode cX3_eventIn 43 = .ok (.ireturn, 1) := by decide +kernel
theorem dX3_slotsOfTeacher_0 : decode cX3_slotsOfTeacher 0 = .ok (.iconst 0, 1) := by decide +kernel
theorem dX3_slotsOfTeacher_1 : decode cX3_slotsOfTeacher 1 = .ok (.istore_n 2, 1) := by decide +kernel
theorem dX3_slotsOfTeacher_2 : decode cX3_slotsOfTeacher 2 = .ok (.iconst 0, 1) := by decide +kernel
theorem dX3_slotsOfTeacher_3 : decode cX3_slotsOfTeacher 3 = .ok (.istore_n 3, 1) := by decide +kernel
theorem dX3_slotsOfTeacher_4 : decode cX3_slotsOfTeacher 4 = .ok (.iload_n 3, 1) := by decide +kernel
theorem dX3_slotsOfTeacher_5 : decode cX3_slotsOfTeacher 5 = .ok (.bipush 14, 2) := by decide +kernel
theorem dX3_slotsOfTeacher_7 : decode cX3_slotsOfTeacher 7 = .ok (.if_icmp .ge 28, 3) := by decide +kernel
theorem dX3_slotsOfTeacher_10 : decode cX3_slotsOfTeacher 10 = .ok (.aload_n 0, 1) := by decide +kernel
theorem dX3_slotsOfTeacher_11 : decode cX3_slotsOfTeacher 11 = .ok (.getfield 27, 3) := by decide +kernel
theorem dX3_slotsOfTeacher_14 : decode cX3_slotsOfTeacher 14 = .ok (.iload_n 3, 1) := by decide +kernel
theorem dX3_slotsOfTeacher_15 : decode cX3_slotsOfTeacher 15 = .ok (.iaload, 1) := by decide +kernel
theorem dX3_slotsOfTeacher_16 : decode cX3_slotsOfTeacher 16 = .ok (.iload_n 1, 1) := by decide +kernel
theorem dX3_slotsOfTeacher_17 : decode cX3_slotsOfTeacher 17 = .ok (.if_icmp .ne 12, 3) := by decide +kernel
theorem dX3_slotsOfTeacher_20 : decode cX3_slotsOfTeacher 20 = .ok (.iload_n 2, 1) := by decide +kernel
theorem dX3_slotsOfTeacher_21 : decode cX3_slotsOfTeacher 21 = .ok (.aload_n 0, 1) := by decide +kernel
theorem dX3_slotsOfTeacher_22 : decode cX3_slotsOfTeacher 22 = .ok (.getfield 42, 3) := by decide +kernel
theorem dX3_slotsOfTeacher_25 : decode cX3_slotsOfTeacher 25 = .ok (.iload_n 3, 1) := by decide +kernel
theorem dX3_slotsOfTeacher_26 : decode cX3_slotsOfTeacher 26 = .ok (.iaload, 1) := by decide +kernel
theorem dX3_slotsOfTeacher_27 : decode cX3_slotsOfTeacher 27 = .ok (.ior, 1) := by decide +kernel
theorem dX3_slotsOfTeacher_28 : decode cX3_slotsOfTeacher 28 = .ok (.istore_n 2, 1) := by decide +kernel
theorem dX3_slotsOfTeacher_29 : decode cX3_slotsOfTeacher 29 = .ok (.iinc 3 1, 3) := by decide +kernel
theorem dX3_slotsOfTeacher_32 : decode cX3_slotsOfTeacher 32 = .ok (.goto (-28), 3) := by decide +kernel
theorem dX3_slotsOfTeacher_35 : decode cX3_slotsOfTeacher 35 = .ok (.iload_n 2, 1) := by decide +kernel
theorem dX3_slotsOfTeacher_36 : decode cX3_slotsOfTeacher 36 = .ok (.ireturn, 1) := by decide +kernel
theorem dX3_slotsOfGroup_0 : decode cX3_slotsOfGroup 0 = .ok (.iconst 0, 1) := by decide +kernel
theorem dX3_slotsOfGroup_1 : decode cX3_slotsOfGroup 1 = .ok (.istore_n 2, 1) := by decide +kernel
theorem dX3_slotsOfGroup_2 : decode cX3_slotsOfGroup 2 = .ok (.iconst 0, 1) := by decide +kernel
theorem dX3_slotsOfGroup_3 : decode cX3_slotsOfGroup 3 = .ok (.istore_n 3, 1) := by decide +kernel
theorem dX3_slotsOfGroup_4 : decode cX3_slotsOfGroup 4 = .ok (.iload_n 3, 1) := by decide +kernel
theorem dX3_slotsOfGroup_5 : decode cX3_slotsOfGroup 5 = .ok (.bipush 14, 2) := by decide +kernel
theorem dX3_slotsOfGroup_7 : decode cX3_slotsOfGroup 7 = .ok (.if_icmp .ge 31, 3) := by decide +kernel
theorem dX3_slotsOfGroup_10 : decode cX3_slotsOfGroup 10 = .ok (.aload_n 0, 1) := by decide +kernel
theorem dX3_slotsOfGroup_11 : decode cX3_slotsOfGroup 11 = .ok (.getfield 30, 3) := by decide +kernel
theorem dX3_slotsOfGroup_14 : decode cX3_slotsOfGroup 14 = .ok (.iload_n 3, 1) := by decide +kernel
theorem dX3_slotsOfGroup_15 : decode cX3_slotsOfGroup 15 = .ok (.iaload, 1) := by decide +kernel
theorem dX3_slotsOfGroup_16 : decode cX3_slotsOfGroup 16 = .ok (.iload_n 1, 1) := by decide +kernel
theorem dX3_slotsOfGroup_17 : decode cX3_slotsOfGroup 17 = .ok (.invokestatic 110, 3) := by decide +kernel
theorem dX3_slotsOfGroup_20 : decode cX3_slotsOfGroup 20 = .ok (.ifCond .eq 12, 3) := by decide +kernel
theorem dX3_slotsOfGroup_23 : decode cX3_slotsOfGroup 23 = .ok (.iload_n 2, 1) := by decide +kernel
theorem dX3_slotsOfGroup_24 : decode cX3_slotsOfGroup 24 = .ok (.aload_n 0, 1) := by decide +kernel
theorem dX3_slotsOfGroup_25 : decode cX3_slotsOfGroup 25 = .ok (.getfield 42, 3) := by decide +kernel
theorem dX3_slotsOfGroup_28 : decode cX3_slotsOfGroup 28 = .ok (.iload_n 3, 1) := by decide +kernel
theorem dX3_slotsOfGroup_29 : decode cX3_slotsOfGroup 29 = .ok (.iaload, 1) := by decide +kernel
theorem dX3_slotsOfGroup_30 : decode cX3_slotsOfGroup 30 = .ok (.ior, 1) := by decide +kernel
theorem dX3_slotsOfGroup_31 : decode cX3_slotsOfGroup 31 = .ok (.istore_n 2, 1) := by decide +kernel
theorem dX3_slotsOfGroup_32 : decode cX3_slotsOfGroup 32 = .ok (.iinc 3 1, 3) := by decide +kernel
theorem dX3_slotsOfGroup_35 : decode cX3_slotsOfGroup 35 = .ok (.goto (-31), 3) := by decide +kernel
theorem dX3_slotsOfGroup_38 : decode cX3_slotsOfGroup 38 = .ok (.iload_n 2, 1) := by decide +kernel
theorem dX3_slotsOfGroup_39 : decode cX3_slotsOfGroup 39 = .ok (.ireturn, 1) := by decide +kernel
theorem dX3_slotsOfRoom_0 : decode cX3_slotsOfRoom 0 = .ok (.iconst 0, 1) := by decide +kernel
theorem dX3_slotsOfRoom_1 : decode cX3_slotsOfRoom 1 = .ok (.istore_n 2, 1) := by decide +kernel
theorem dX3_slotsOfRoom_2 : decode cX3_slotsOfRoom 2 = .ok (.iconst 0, 1) := by decide +kernel
theorem dX3_slotsOfRoom_3 : decode cX3_slotsOfRoom 3 = .ok (.istore_n 3, 1) := by decide +kernel
theorem dX3_slotsOfRoom_4 : decode cX3_slotsOfRoom 4 = .ok (.iload_n 3, 1) := by decide +kernel
theorem dX3_slotsOfRoom_5 : decode cX3_slotsOfRoom 5 = .ok (.bipush 14, 2) := by decide +kernel
theorem dX3_slotsOfRoom_7 : decode cX3_slotsOfRoom 7 = .ok (.if_icmp .ge 31, 3) := by decide +kernel
theorem dX3_slotsOfRoom_10 : decode cX3_slotsOfRoom 10 = .ok (.aload_n 0, 1) := by decide +kernel
theorem dX3_slotsOfRoom_11 : decode cX3_slotsOfRoom 11 = .ok (.getfield 39, 3) := by decide +kernel
theorem dX3_slotsOfRoom_14 : decode cX3_slotsOfRoom 14 = .ok (.iload_n 3, 1) := by decide +kernel
theorem dX3_slotsOfRoom_15 : decode cX3_slotsOfRoom 15 = .ok (.iaload, 1) := by decide +kernel
theorem dX3_slotsOfRoom_16 : decode cX3_slotsOfRoom 16 = .ok (.bipush 6, 2) := by decide +kernel
theorem dX3_slotsOfRoom_18 : decode cX3_slotsOfRoom 18 = .ok (.irem, 1) := by decide +kernel
theorem dX3_slotsOfRoom_19 : decode cX3_slotsOfRoom 19 = .ok (.iload_n 1, 1) := by decide +kernel
theorem dX3_slotsOfRoom_20 : decode cX3_slotsOfRoom 20 = .ok (.if_icmp .ne 12, 3) := by decide +kernel
theorem dX3_slotsOfRoom_23 : decode cX3_slotsOfRoom 23 = .ok (.iload_n 2, 1) := by decide +kernel
theorem dX3_slotsOfRoom_24 : decode cX3_slotsOfRoom 24 = .ok (.aload_n 0, 1) := by decide +kernel
theorem dX3_slotsOfRoom_25 : decode cX3_slotsOfRoom 25 = .ok (.getfield 42, 3) := by decide +kernel
theorem dX3_slotsOfRoom_28 : decode cX3_slotsOfRoom 28 = .ok (.iload_n 3, 1) := by decide +kernel
theorem dX3_slotsOfRoom_29 : decode cX3_slotsOfRoom 29 = .ok (.iaload, 1) := by decide +kernel
theorem dX3_slotsOfRoom_30 : decode cX3_slotsOfRoom 30 = .ok (.ior, 1) := by decide +kernel
theorem dX3_slotsOfRoom_31 : decode cX3_slotsOfRoom 31 = .ok (.istore_n 2, 1) := by decide +kernel
theorem dX3_slotsOfRoom_32 : decode cX3_slotsOfRoom 32 = .ok (.iinc 3 1, 3) := by decide +kernel
theorem dX3_slotsOfRoom_35 : decode cX3_slotsOfRoom 35 = .ok (.goto (-31), 3) := by decide +kernel
theorem dX3_slotsOfRoom_38 : decode cX3_slotsOfRoom 38 = .ok (.iload_n 2, 1) := by decide +kernel
theorem dX3_slotsOfRoom_39 : decode cX3_slotsOfRoom 39 = .ok (.ireturn, 1) := by decide +kernel
theorem dX3_gaps_0 : decode cX3_gaps 0 = .ok (.iconst 0, 1) := by decide +kernel
theorem dX3_gaps_1 : decode cX3_gaps 1 = .ok (.istore_n 1, 1) := by decide +kernel
theorem dX3_gaps_2 : decode cX3_gaps 2 = .ok (.iconst 0, 1) := by decide +kernel
theorem dX3_gaps_3 : decode cX3_gaps 3 = .ok (.istore_n 2, 1) := by decide +kernel
theorem dX3_gaps_4 : decode cX3_gaps 4 = .ok (.iload_n 2, 1) := by decide +kernel
theorem dX3_gaps_5 : decode cX3_gaps 5 = .ok (.bipush 6, 2) := by decide +kernel
theorem dX3_gaps_7 : decode cX3_gaps 7 = .ok (.if_icmp .ge 35, 3) := by decide +kernel
theorem dX3_gaps_10 : decode cX3_gaps 10 = .ok (.aload_n 0, 1) := by decide +kernel
theorem dX3_gaps_11 : decode cX3_gaps 11 = .ok (.iload_n 2, 1) := by decide +kernel
theorem dX3_gaps_12 : decode cX3_gaps 12 = .ok (.invokevirtual 113, 3) := by decide +kernel
theorem dX3_gaps_15 : decode cX3_gaps 15 = .ok (.istore_n 3, 1) := by decide +kernel
theorem dX3_gaps_16 : decode cX3_gaps 16 = .ok (.iload_n 1, 1) := by decide +kernel
theorem dX3_gaps_17 : decode cX3_gaps 17 = .ok (.iload_n 3, 1) := by decide +kernel
theorem dX3_gaps_18 : decode cX3_gaps 18 = .ok (.bipush 31, 2) := by decide +kernel
theorem dX3_gaps_20 : decode cX3_gaps 20 = .ok (.iand, 1) := by decide +kernel
theorem dX3_gaps_21 : decode cX3_gaps 21 = .ok (.invokestatic 116, 3) := by decide +kernel
theorem dX3_gaps_24 : decode cX3_gaps 24 = .ok (.iload_n 3, 1) := by decide +kernel
theorem dX3_gaps_25 : decode cX3_gaps 25 = .ok (.iconst 5, 1) := by decide +kernel
theorem dX3_gaps_26 : decode cX3_gaps 26 = .ok (.ishr, 1) := by decide +kernel
theorem dX3_gaps_27 : decode cX3_gaps 27 = .ok (.bipush 31, 2) := by decide +kernel
theorem dX3_gaps_29 : decode cX3_gaps 29 = .ok (.iand, 1) := by decide +kernel
theorem dX3_gaps_30 : decode cX3_gaps 30 = .ok (.invokestatic 116, 3) := by decide +kernel
theorem dX3_gaps_33 : decode cX3_gaps 33 = .ok (.iadd, 1) := by decide +kernel
theorem dX3_gaps_34 : decode cX3_gaps 34 = .ok (.iadd, 1) := by decide +kernel
theorem dX3_gaps_35 : decode cX3_gaps 35 = .ok (.istore_n 1, 1) := by decide +kernel
theorem dX3_gaps_36 : decode cX3_gaps 36 = .ok (.iinc 2 1, 3) := by decide +kernel
theorem dX3_gaps_39 : decode cX3_gaps 39 = .ok (.goto (-35), 3) := by decide +kernel
theorem dX3_gaps_42 : decode cX3_gaps 42 = .ok (.iload_n 1, 1) := by decide +kernel
theorem dX3_gaps_43 : decode cX3_gaps 43 = .ok (.ireturn, 1) := by decide +kernel
theorem dX3_gapsOfDay_0 : decode cX3_gapsOfDay 0 = .ok (.iconst 0, 1) := by decide +kernel
theorem dX3_gapsOfDay_1 : decode cX3_gapsOfDay 1 = .ok (.istore_n 1, 1) := by decide +kernel
theorem dX3_gapsOfDay_2 : decode cX3_gapsOfDay 2 = .ok (.iconst 1, 1) := by decide +kernel
theorem dX3_gapsOfDay_3 : decode cX3_gapsOfDay 3 = .ok (.istore_n 2, 1) := by decide +kernel
theorem dX3_gapsOfDay_4 : decode cX3_gapsOfDay 4 = .ok (.iload_n 2, 1) := by decide +kernel
theorem dX3_gapsOfDay_5 : decode cX3_gapsOfDay 5 = .ok (.iconst 4, 1) := by decide +kernel
theorem dX3_gapsOfDay_6 : decode cX3_gapsOfDay 6 = .ok (.if_icmp .ge 44, 3) := by decide +kernel
theorem dX3_gapsOfDay_9 : decode cX3_gapsOfDay 9 = .ok (.iload_n 0, 1) := by decide +kernel
theorem dX3_gapsOfDay_10 : decode cX3_gapsOfDay 10 = .ok (.iconst 1, 1) := by decide +kernel
theorem dX3_gapsOfDay_11 : decode cX3_gapsOfDay 11 = .ok (.iload_n 2, 1) := by decide +kernel
theorem dX3_gapsOfDay_12 : decode cX3_gapsOfDay 12 = .ok (.ishl, 1) := by decide +kernel
theorem dX3_gapsOfDay_13 : decode cX3_gapsOfDay 13 = .ok (.iconst 1, 1) := by decide +kernel
theorem dX3_gapsOfDay_14 : decode cX3_gapsOfDay 14 = .ok (.isub, 1) := by decide +kernel
theorem dX3_gapsOfDay_15 : decode cX3_gapsOfDay 15 = .ok (.iand, 1) := by decide +kernel
theorem dX3_gapsOfDay_16 : decode cX3_gapsOfDay 16 = .ok (.istore_n 3, 1) := by decide +kernel
theorem dX3_gapsOfDay_17 : decode cX3_gapsOfDay 17 = .ok (.iload_n 0, 1) := by decide +kernel
theorem dX3_gapsOfDay_18 : decode cX3_gapsOfDay 18 = .ok (.iload_n 2, 1) := by decide +kernel
theorem dX3_gapsOfDay_19 : decode cX3_gapsOfDay 19 = .ok (.iconst 1, 1) := by decide +kernel
theorem dX3_gapsOfDay_20 : decode cX3_gapsOfDay 20 = .ok (.iadd, 1) := by decide +kernel
theorem dX3_gapsOfDay_21 : decode cX3_gapsOfDay 21 = .ok (.ishr, 1) := by decide +kernel
theorem dX3_gapsOfDay_22 : decode cX3_gapsOfDay 22 = .ok (.istore 4, 2) := by decide +kernel
theorem dX3_gapsOfDay_24 : decode cX3_gapsOfDay 24 = .ok (.iload_n 0, 1) := by decide +kernel
theorem dX3_gapsOfDay_25 : decode cX3_gapsOfDay 25 = .ok (.iload_n 2, 1) := by decide +kernel
theorem dX3_gapsOfDay_26 : decode cX3_gapsOfDay 26 = .ok (.invokestatic 110, 3) := by decide +kernel
theorem dX3_gapsOfDay_29 : decode cX3_gapsOfDay 29 = .ok (.ifCond .ne 15, 3) := by decide +kernel
theorem dX3_gapsOfDay_32 : decode cX3_gapsOfDay 32 = .ok (.iload_n 3, 1) := by decide +kernel
theorem dX3_gapsOfDay_33 : decode cX3_gapsOfDay 33 = .ok (.ifCond .eq 11, 3) := by decide +kernel
theorem dX3_gapsOfDay_36 : decode cX3_gapsOfDay 36 = .ok (.iload 4, 2) := by decide +kernel
theorem dX3_gapsOfDay_38 : decode cX3_gapsOfDay 38 = .ok (.ifCond .eq 6, 3) := by decide +kernel
theorem dX3_gapsOfDay_41 : decode cX3_gapsOfDay 41 = .ok (.iinc 1 1, 3) := by decide +kernel
theorem dX3_gapsOfDay_44 : decode cX3_gapsOfDay 44 = .ok (.iinc 2 1, 3) := by decide +kernel
theorem dX3_gapsOfDay_47 : decode cX3_gapsOfDay 47 = .ok (.goto (-43), 3) := by decide +kernel
theorem dX3_gapsOfDay_50 : decode cX3_gapsOfDay 50 = .ok (.iload_n 1, 1) := by decide +kernel
theorem dX3_gapsOfDay_51 : decode cX3_gapsOfDay 51 = .ok (.ireturn, 1) := by decide +kernel
theorem dX3_lateOnes_0 : decode cX3_lateOnes 0 = .ok (.iconst 0, 1) := by decide +kernel
theorem dX3_lateOnes_1 : decode cX3_lateOnes 1 = .ok (.istore_n 1, 1) := by decide +kernel
theorem dX3_lateOnes_2 : decode cX3_lateOnes 2 = .ok (.iconst 0, 1) := by decide +kernel
theorem dX3_lateOnes_3 : decode cX3_lateOnes 3 = .ok (.istore_n 2, 1) := by decide +kernel
theorem dX3_lateOnes_4 : decode cX3_lateOnes 4 = .ok (.iload_n 2, 1) := by decide +kernel
theorem dX3_lateOnes_5 : decode cX3_lateOnes 5 = .ok (.bipush 14, 2) := by decide +kernel
theorem dX3_lateOnes_7 : decode cX3_lateOnes 7 = .ok (.if_icmp .ge 25, 3) := by decide +kernel
theorem dX3_lateOnes_10 : decode cX3_lateOnes 10 = .ok (.aload_n 0, 1) := by decide +kernel
theorem dX3_lateOnes_11 : decode cX3_lateOnes 11 = .ok (.getfield 42, 3) := by decide +kernel
theorem dX3_lateOnes_14 : decode cX3_lateOnes 14 = .ok (.iload_n 2, 1) := by decide +kernel
theorem dX3_lateOnes_15 : decode cX3_lateOnes 15 = .ok (.iaload, 1) := by decide +kernel
theorem dX3_lateOnes_16 : decode cX3_lateOnes 16 = .ok (.sipush 528, 3) := by decide +kernel
theorem dX3_lateOnes_19 : decode cX3_lateOnes 19 = .ok (.iand, 1) := by decide +kernel
theorem dX3_lateOnes_20 : decode cX3_lateOnes 20 = .ok (.ifCond .eq 6, 3) := by decide +kernel
theorem dX3_lateOnes_23 : decode cX3_lateOnes 23 = .ok (.iinc 1 1, 3) := by decide +kernel
theorem dX3_lateOnes_26 : decode cX3_lateOnes 26 = .ok (.iinc 2 1, 3) := by decide +kernel
theorem dX3_lateOnes_29 : decode cX3_lateOnes 29 = .ok (.goto (-25), 3) := by decide +kernel
theorem dX3_lateOnes_32 : decode cX3_lateOnes 32 = .ok (.iload_n 1, 1) := by decide +kernel
theorem dX3_lateOnes_33 : decode cX3_lateOnes 33 = .ok (.ireturn, 1) := by decide +kernel
theorem dX3_slack_0 : decode cX3_slack 0 = .ok (.iconst 0, 1) := by decide +kernel
theorem dX3_slack_1 : decode cX3_slack 1 = .ok (.istore_n 1, 1) := by decide +kernel
theorem dX3_slack_2 : decode cX3_slack 2 = .ok (.iconst 0, 1) := by decide +kernel
theorem dX3_slack_3 : decode cX3_slack 3 = .ok (.istore_n 2, 1) := by decide +kernel
theorem dX3_slack_4 : decode cX3_slack 4 = .ok (.iload_n 2, 1) := by decide +kernel
theorem dX3_slack_5 : decode cX3_slack 5 = .ok (.bipush 14, 2) := by decide +kernel
theorem dX3_slack_7 : decode cX3_slack 7 = .ok (.if_icmp .ge 41, 3) := by decide +kernel
theorem dX3_slack_10 : decode cX3_slack 10 = .ok (.aload_n 0, 1) := by decide +kernel
theorem dX3_slack_11 : decode cX3_slack 11 = .ok (.getfield 39, 3) := by decide +kernel
theorem dX3_slack_14 : decode cX3_slack 14 = .ok (.iload_n 2, 1) := by decide +kernel
theorem dX3_slack_15 : decode cX3_slack 15 = .ok (.iaload, 1) := by decide +kernel
theorem dX3_slack_16 : decode cX3_slack 16 = .ok (.istore_n 3, 1) := by decide +kernel
theorem dX3_slack_17 : decode cX3_slack 17 = .ok (.iload_n 3, 1) := by decide +kernel
theorem dX3_slack_18 : decode cX3_slack 18 = .ok (.ifCond .lt 24, 3) := by decide +kernel
theorem dX3_slack_21 : decode cX3_slack 21 = .ok (.iload_n 1, 1) := by decide +kernel
theorem dX3_slack_22 : decode cX3_slack 22 = .ok (.aload_n 0, 1) := by decide +kernel
theorem dX3_slack_23 : decode cX3_slack 23 = .ok (.getfield 9, 3) := by decide +kernel
theorem dX3_slack_26 : decode cX3_slack 26 = .ok (.iload_n 3, 1) := by decide +kernel
theorem dX3_slack_27 : decode cX3_slack 27 = .ok (.bipush 6, 2) := by decide +kernel
theorem dX3_slack_29 : decode cX3_slack 29 = .ok (.irem, 1) := by decide +kernel
theorem dX3_slack_30 : decode cX3_slack 30 = .ok (.iaload, 1) := by decide +kernel
theorem dX3_slack_31 : decode cX3_slack 31 = .ok (.aload_n 0, 1) := by decide +kernel
theorem dX3_slack_32 : decode cX3_slack 32 = .ok (.iload_n 2, 1) := by decide +kernel
theorem dX3_slack_33 : decode cX3_slack 33 = .ok (.invokevirtual 101, 3) := by decide +kernel
theorem dX3_slack_36 : decode cX3_slack 36 = .ok (.isub, 1) := by decide +kernel
theorem dX3_slack_37 : decode cX3_slack 37 = .ok (.bipush 10, 2) := by decide +kernel
theorem dX3_slack_39 : decode cX3_slack 39 = .ok (.idiv, 1) := by decide +kernel
theorem dX3_slack_40 : decode cX3_slack 40 = .ok (.iadd, 1) := by decide +kernel
theorem dX3_slack_41 : decode cX3_slack 41 = .ok (.istore_n 1, 1) := by decide +kernel
theorem dX3_slack_42 : decode cX3_slack 42 = .ok (.iinc 2 1, 3) := by decide +kernel
theorem dX3_slack_45 : decode cX3_slack 45 = .ok (.goto (-41), 3) := by decide +kernel
theorem dX3_slack_48 : decode cX3_slack 48 = .ok (.iload_n 1, 1) := by decide +kernel
theorem dX3_slack_49 : decode cX3_slack 49 = .ok (.ireturn, 1) := by decide +kernel
theorem dX3_placedOnes_0 : decode cX3_placedOnes 0 = .ok (.iconst 0, 1) := by decide +kernel
theorem dX3_placedOnes_1 : decode cX3_placedOnes 1 = .ok (.istore_n 1, 1) := by decide +kernel
theorem dX3_placedOnes_2 : decode cX3_placedOnes 2 = .ok (.iconst 0, 1) := by decide +kernel
theorem dX3_placedOnes_3 : decode cX3_placedOnes 3 = .ok (.istore_n 2, 1) := by decide +kernel
theorem dX3_placedOnes_4 : decode cX3_placedOnes 4 = .ok (.iload_n 2, 1) := by decide +kernel
theorem dX3_placedOnes_5 : decode cX3_placedOnes 5 = .ok (.bipush 14, 2) := by decide +kernel
theorem dX3_placedOnes_7 : decode cX3_placedOnes 7 = .ok (.if_icmp .ge 22, 3) := by decide +kernel
theorem dX3_placedOnes_10 : decode cX3_placedOnes 10 = .ok (.aload_n 0, 1) := by decide +kernel
theorem dX3_placedOnes_11 : decode cX3_placedOnes 11 = .ok (.getfield 39, 3) := by decide +kernel
theorem dX3_placedOnes_14 : decode cX3_placedOnes 14 = .ok (.iload_n 2, 1) := by decide +kernel
theorem dX3_placedOnes_15 : decode cX3_placedOnes 15 = .ok (.iaload, 1) := by decide +kernel
theorem dX3_placedOnes_16 : decode cX3_placedOnes 16 = .ok (.iconst (-1), 1) := by decide +kernel
theorem dX3_placedOnes_17 : decode cX3_placedOnes 17 = .ok (.if_icmp .eq 6, 3) := by decide +kernel
theorem dX3_placedOnes_20 : decode cX3_placedOnes 20 = .ok (.iinc 1 1, 3) := by decide +kernel
theorem dX3_placedOnes_23 : decode cX3_placedOnes 23 = .ok (.iinc 2 1, 3) := by decide +kernel
theorem dX3_placedOnes_26 : decode cX3_placedOnes 26 = .ok (.goto (-22), 3) := by decide +kernel
theorem dX3_placedOnes_29 : decode cX3_placedOnes 29 = .ok (.iload_n 1, 1) := by decide +kernel
theorem dX3_placedOnes_30 : decode cX3_placedOnes 30 = .ok (.ireturn, 1) := by decide +kernel
theorem dX3_fixedOnes_0 : decode cX3_fixedOnes 0 = .ok (.iconst 0, 1) := by decide +kernel
theorem dX3_fixedOnes_1 : decode cX3_fixedOnes 1 = .ok (.istore_n 1, 1) := by decide +kernel
theorem dX3_fixedOnes_2 : decode cX3_fixedOnes 2 = .ok (.iconst 0, 1) := by decide +kernel
theorem dX3_fixedOnes_3 : decode cX3_fixedOnes 3 = .ok (.istore_n 2, 1) := by decide +kernel
theorem dX3_fixedOnes_4 : decode cX3_fixedOnes 4 = .ok (.iload_n 2, 1) := by decide +kernel
theorem dX3_fixedOnes_5 : decode cX3_fixedOnes 5 = .ok (.bipush 14, 2) := by decide +kernel
theorem dX3_fixedOnes_7 : decode cX3_fixedOnes 7 = .ok (.if_icmp .ge 21, 3) := by decide +kernel
theorem dX3_fixedOnes_10 : decode cX3_fixedOnes 10 = .ok (.aload_n 0, 1) := by decide +kernel
theorem dX3_fixedOnes_11 : decode cX3_fixedOnes 11 = .ok (.getfield 48, 3) := by decide +kernel
theorem dX3_fixedOnes_14 : decode cX3_fixedOnes 14 = .ok (.iload_n 2, 1) := by decide +kernel
theorem dX3_fixedOnes_15 : decode cX3_fixedOnes 15 = .ok (.baload, 1) := by decide +kernel
theorem dX3_fixedOnes_16 : decode cX3_fixedOnes 16 = .ok (.ifCond .eq 6, 3) := by decide +kernel
theorem dX3_fixedOnes_19 : decode cX3_fixedOnes 19 = .ok (.iinc 1 1, 3) := by decide +kernel
theorem dX3_fixedOnes_22 : decode cX3_fixedOnes 22 = .ok (.iinc 2 1, 3) := by decide +kernel
theorem dX3_fixedOnes_25 : decode cX3_fixedOnes 25 = .ok (.goto (-21), 3) := by decide +kernel
theorem dX3_fixedOnes_28 : decode cX3_fixedOnes 28 = .ok (.iload_n 1, 1) := by decide +kernel
theorem dX3_fixedOnes_29 : decode cX3_fixedOnes 29 = .ok (.ireturn, 1) := by decide +kernel
theorem dX3_unplaced_0 : decode cX3_unplaced 0 = .ok (.aload_n 0, 1) := by decide +kernel
theorem dX3_unplaced_1 : decode cX3_unplaced 1 = .ok (.getfield 64, 3) := by decide +kernel
theorem dX3_unplaced_4 : decode cX3_unplaced 4 = .ok (.aload_n 0, 1) := by decide +kernel
theorem dX3_unplaced_5 : decode cX3_unplaced 5 = .ok (.invokevirtual 119, 3) := by decide +kernel
theorem dX3_unplaced_8 : decode cX3_unplaced 8 = .ok (.isub, 1) := by decide +kernel
theorem dX3_unplaced_9 : decode cX3_unplaced 9 = .ok (.ireturn, 1) := by decide +kernel
theorem dX3_totalCost_0 : decode cX3_totalCost 0 = .ok (.aload_n 0, 1) := by decide +kernel
theorem dX3_totalCost_1 : decode cX3_totalCost 1 = .ok (.getfield 24, 3) := by decide +kernel
theorem dX3_totalCost_4 : decode cX3_totalCost 4 = .ok (.iconst 0, 1) := by decide +kernel
theorem dX3_totalCost_5 : decode cX3_totalCost 5 = .ok (.iaload, 1) := by decide +kernel
theorem dX3_totalCost_6 : decode cX3_totalCost 6 = .ok (.aload_n 0, 1) := by decide +kernel
theorem dX3_totalCost_7 : decode cX3_totalCost 7 = .ok (.invokevirtual 123, 3) := by decide +kernel
theorem dX3_totalCost_10 : decode cX3_totalCost 10 = .ok (.imul, 1) := by decide +kernel
theorem dX3_totalCost_11 : decode cX3_totalCost 11 = .ok (.aload_n 0, 1) := by decide +kernel
theorem dX3_totalCost_12 : decode cX3_totalCost 12 = .ok (.getfield 24, 3) := by decide +kernel
theorem dX3_totalCost_15 : decode cX3_totalCost 15 = .ok (.iconst 1, 1) := by decide +kernel
theorem dX3_totalCost_16 : decode cX3_totalCost 16 = .ok (.iaload, 1) := by decide +kernel
theorem dX3_totalCost_17 : decode cX3_totalCost 17 = .ok (.aload_n 0, 1) := by decide +kernel
theorem dX3_totalCost_18 : decode cX3_totalCost 18 = .ok (.invokevirtual 126, 3) := by decide +kernel
theorem dX3_totalCost_21 : decode cX3_totalCost 21 = .ok (.imul, 1) := by decide +kernel
theorem dX3_totalCost_22 : decode cX3_totalCost 22 = .ok (.iadd, 1) := by decide +kernel
theorem dX3_totalCost_23 : decode cX3_totalCost 23 = .ok (.aload_n 0, 1) := by decide +kernel
theorem dX3_totalCost_24 : decode cX3_totalCost 24 = .ok (.getfield 24, 3) := by decide +kernel
theorem dX3_totalCost_27 : decode cX3_totalCost 27 = .ok (.iconst 2, 1) := by decide +kernel
theorem dX3_totalCost_28 : decode cX3_totalCost 28 = .ok (.iaload, 1) := by decide +kernel
theorem dX3_totalCost_29 : decode cX3_totalCost 29 = .ok (.aload_n 0, 1) := by decide +kernel
theorem dX3_totalCost_30 : decode cX3_totalCost 30 = .ok (.invokevirtual 129, 3) := by decide +kernel
theorem dX3_totalCost_33 : decode cX3_totalCost 33 = .ok (.imul, 1) := by decide +kernel
theorem dX3_totalCost_34 : decode cX3_totalCost 34 = .ok (.iadd, 1) := by decide +kernel
theorem dX3_totalCost_35 : decode cX3_totalCost 35 = .ok (.bipush 100, 2) := by decide +kernel
theorem dX3_totalCost_37 : decode cX3_totalCost 37 = .ok (.aload_n 0, 1) := by decide +kernel
theorem dX3_totalCost_38 : decode cX3_totalCost 38 = .ok (.invokevirtual 132, 3) := by decide +kernel
theorem dX3_totalCost_41 : decode cX3_totalCost 41 = .ok (.imul, 1) := by decide +kernel
theorem dX3_totalCost_42 : decode cX3_totalCost 42 = .ok (.iadd, 1) := by decide +kernel
theorem dX3_totalCost_43 : decode cX3_totalCost 43 = .ok (.ireturn, 1) := by decide +kernel
theorem dX3_costIf_0 : decode cX3_costIf 0 = .ok (.aload_n 0, 1) := by decide +kernel
theorem dX3_costIf_1 : decode cX3_costIf 1 = .ok (.getfield 39, 3) := by decide +kernel
theorem dX3_costIf_4 : decode cX3_costIf 4 = .ok (.iload_n 1, 1) := by decide +kernel
theorem dX3_costIf_5 : decode cX3_costIf 5 = .ok (.iaload, 1) := by decide +kernel
theorem dX3_costIf_6 : decode cX3_costIf 6 = .ok (.istore_n 3, 1) := by decide +kernel
theorem dX3_costIf_7 : decode cX3_costIf 7 = .ok (.aload_n 0, 1) := by decide +kernel
theorem dX3_costIf_8 : decode cX3_costIf 8 = .ok (.iload_n 1, 1) := by decide +kernel
theorem dX3_costIf_9 : decode cX3_costIf 9 = .ok (.iload_n 2, 1) := by decide +kernel
theorem dX3_costIf_10 : decode cX3_costIf 10 = .ok (.invokevirtual 76, 3) := by decide +kernel
theorem dX3_costIf_13 : decode cX3_costIf 13 = .ok (.aload_n 0, 1) := by decide +kernel
theorem dX3_costIf_14 : decode cX3_costIf 14 = .ok (.invokevirtual 135, 3) := by decide +kernel
theorem dX3_costIf_17 : decode cX3_costIf 17 = .ok (.istore 4, 2) := by decide +kernel
theorem dX3_costIf_19 : decode cX3_costIf 19 = .ok (.aload_n 0, 1) := by decide +kernel
theorem dX3_costIf_20 : decode cX3_costIf 20 = .ok (.iload_n 1, 1) := by decide +kernel
theorem dX3_costIf_21 : decode cX3_costIf 21 = .ok (.iload_n 3, 1) := by decide +kernel
theorem dX3_costIf_22 : decode cX3_costIf 22 = .ok (.invokevirtual 76, 3) := by decide +kernel
theorem dX3_costIf_25 : decode cX3_costIf 25 = .ok (.iload 4, 2) := by decide +kernel
theorem dX3_costIf_27 : decode cX3_costIf 27 = .ok (.ireturn, 1) := by decide +kernel
theorem dX3_textOf_0 : decode cX3_textOf 0 = .ok (.new 138, 3) := by decide +kernel
theorem dX3_textOf_3 : decode cX3_textOf 3 = .ok (.dup, 1) := by decide +kernel
theorem dX3_textOf_4 : decode cX3_textOf 4 = .ok (.invokespecial 140, 3) := by decide +kernel
theorem dX3_textOf_7 : decode cX3_textOf 7 = .ok (.astore_n 2, 1) := by decide +kernel
theorem dX3_textOf_8 : decode cX3_textOf 8 = .ok (.aload_n 2, 1) := by decide +kernel
theorem dX3_textOf_9 : decode cX3_textOf 9 = .ok (.aload_n 0, 1) := by decide +kernel
theorem dX3_textOf_10 : decode cX3_textOf 10 = .ok (.getfield 27, 3) := by decide +kernel
theorem dX3_textOf_13 : decode cX3_textOf 13 = .ok (.iload_n 1, 1) := by decide +kernel
theorem dX3_textOf_14 : decode cX3_textOf 14 = .ok (.iaload, 1) := by decide +kernel
theorem dX3_textOf_15 : decode cX3_textOf 15 = .ok (.invokevirtual 141, 3) := by decide +kernel
theorem dX3_textOf_18 : decode cX3_textOf 18 = .ok (.pop, 1) := by decide +kernel
theorem dX3_textOf_19 : decode cX3_textOf 19 = .ok (.bipush 58, 2) := by decide +kernel
theorem dX3_textOf_21 : decode cX3_textOf 21 = .ok (.istore_n 3, 1) := by decide +kernel
theorem dX3_textOf_22 : decode cX3_textOf 22 = .ok (.iconst 0, 1) := by decide +kernel
theorem dX3_textOf_23 : decode cX3_textOf 23 = .ok (.istore 4, 2) := by decide +kernel
theorem dX3_textOf_25 : decode cX3_textOf 25 = .ok (.iload 4, 2) := by decide +kernel
theorem dX3_textOf_27 : decode cX3_textOf 27 = .ok (.bipush 6, 2) := by decide +kernel
theorem dX3_textOf_29 : decode cX3_textOf 29 = .ok (.if_icmp .ge 37, 3) := by decide +kernel
theorem dX3_textOf_32 : decode cX3_textOf 32 = .ok (.aload_n 0, 1) := by decide +kernel
theorem dX3_textOf_33 : decode cX3_textOf 33 = .ok (.getfield 30, 3) := by decide +kernel
theorem dX3_textOf_36 : decode cX3_textOf 36 = .ok (.iload_n 1, 1) := by decide +kernel
theorem dX3_textOf_37 : decode cX3_textOf 37 = .ok (.iaload, 1) := by decide +kernel
theorem dX3_textOf_38 : decode cX3_textOf 38 = .ok (.iload 4, 2) := by decide +kernel
theorem dX3_textOf_40 : decode cX3_textOf 40 = .ok (.invokestatic 110, 3) := by decide +kernel
theorem dX3_textOf_43 : decode cX3_textOf 43 = .ok (.ifCond .eq 17, 3) := by decide +kernel
theorem dX3_textOf_46 : decode cX3_textOf 46 = .ok (.aload_n 2, 1) := by decide +kernel
theorem dX3_textOf_47 : decode cX3_textOf 47 = .ok (.iload_n 3, 1) := by decide +kernel
theorem dX3_textOf_48 : decode cX3_textOf 48 = .ok (.invokevirtual 145, 3) := by decide +kernel
theorem dX3_textOf_51 : decode cX3_textOf 51 = .ok (.iload 4, 2) := by decide +kernel
theorem dX3_textOf_53 : decode cX3_textOf 53 = .ok (.invokevirtual 141, 3) := by decide +kernel
theorem dX3_textOf_56 : decode cX3_textOf 56 = .ok (.pop, 1) := by decide +kernel
theorem dX3_textOf_57 : decode cX3_textOf 57 = .ok (.bipush 44, 2) := by decide +kernel
theorem dX3_textOf_59 : decode cX3_textOf 59 = .ok (.istore_n 3, 1) := by decide +kernel
theorem dX3_textOf_60 : decode cX3_textOf 60 = .ok (.iinc 4 1, 3) := by decide +kernel
theorem dX3_textOf_63 : decode cX3_textOf 63 = .ok (.goto (-38), 3) := by decide +kernel
theorem dX3_textOf_66 : decode cX3_textOf 66 = .ok (.aload_n 0, 1) := by decide +kernel
theorem dX3_textOf_67 : decode cX3_textOf 67 = .ok (.getfield 33, 3) := by decide +kernel
theorem dX3_textOf_70 : decode cX3_textOf 70 = .ok (.iload_n 1, 1) := by decide +kernel
theorem dX3_textOf_71 : decode cX3_textOf 71 = .ok (.iaload, 1) := by decide +kernel
theorem dX3_textOf_72 : decode cX3_textOf 72 = .ok (.ifCond .eq 19, 3) := by decide +kernel
theorem dX3_textOf_75 : decode cX3_textOf 75 = .ok (.aload_n 2, 1) := by decide +kernel
theorem dX3_textOf_76 : decode cX3_textOf 76 = .ok (.bipush 47, 2) := by decide +kernel
theorem dX3_textOf_78 : decode cX3_textOf 78 = .ok (.invokevirtual 145, 3) := by decide +kernel
theorem dX3_textOf_81 : decode cX3_textOf 81 = .ok (.aload_n 0, 1) := by decide +kernel
theorem dX3_textOf_82 : decode cX3_textOf 82 = .ok (.getfield 33, 3) := by decide +kernel
theorem dX3_textOf_85 : decode cX3_textOf 85 = .ok (.iload_n 1, 1) := by decide +kernel
theorem dX3_textOf_86 : decode cX3_textOf 86 = .ok (.iaload, 1) := by decide +kernel
theorem dX3_textOf_87 : decode cX3_textOf 87 = .ok (.invokevirtual 141, 3) := by decide +kernel
theorem dX3_textOf_90 : decode cX3_textOf 90 = .ok (.pop, 1) := by decide +kernel
theorem dX3_textOf_91 : decode cX3_textOf 91 = .ok (.aload_n 0, 1) := by decide +kernel
theorem dX3_textOf_92 : decode cX3_textOf 92 = .ok (.getfield 36, 3) := by decide +kernel
theorem dX3_textOf_95 : decode cX3_textOf 95 = .ok (.iload_n 1, 1) := by decide +kernel
theorem dX3_textOf_96 : decode cX3_textOf 96 = .ok (.iaload, 1) := by decide +kernel
theorem dX3_textOf_97 : decode cX3_textOf 97 = .ok (.iconst 2, 1) := by decide +kernel
theorem dX3_textOf_98 : decode cX3_textOf 98 = .ok (.if_icmp .ne 14, 3) := by decide +kernel
theorem dX3_textOf_101 : decode cX3_textOf 101 = .ok (.aload_n 2, 1) := by decide +kernel
theorem dX3_textOf_102 : decode cX3_textOf 102 = .ok (.bipush 42, 2) := by decide +kernel
theorem dX3_textOf_104 : decode cX3_textOf 104 = .ok (.invokevirtual 145, 3) := by decide +kernel
theorem dX3_textOf_107 : decode cX3_textOf 107 = .ok (.iconst 2, 1) := by decide +kernel
theorem dX3_textOf_108 : decode cX3_textOf 108 = .ok (.invokevirtual 141, 3) := by decide +kernel
theorem dX3_textOf_111 : decode cX3_textOf 111 = .ok (.pop, 1) := by decide +kernel
theorem dX3_textOf_112 : decode cX3_textOf 112 = .ok (.aload_n 2, 1) := by decide +kernel
theorem dX3_textOf_113 : decode cX3_textOf 113 = .ok (.areturn, 1) := by decide +kernel
theorem dX4_init_0 : decode cX4_init 0 = .ok (.aload_n 0, 1) := by decide +kernel
theorem dX4_init_1 : decode cX4_init 1 = .ok (.invokespecial 3, 3) := by decide +kernel
theorem dX4_init_4 : decode cX4_init 4 = .ok (.aload_n 0, 1) := by decide +kernel
theorem dX4_init_5 : decode cX4_init 5 = .ok (.new 9, 3) := by decide +kernel
theorem dX4_init_8 : decode cX4_init 8 = .ok (.dup, 1) := by decide +kernel
theorem dX4_init_9 : decode cX4_init 9 = .ok (.invokespecial 11, 3) := by decide +kernel
theorem dX4_init_12 : decode cX4_init 12 = .ok (.putfield 12, 3) := by decide +kernel
theorem dX4_init_15 : decode cX4_init 15 = .ok (.aload_n 0, 1) := by decide +kernel
theorem dX4_init_16 : decode cX4_init 16 = .ok (.new 9, 3) := by decide +kernel
theorem dX4_init_19 : decode cX4_init 19 = .ok (.dup, 1) := by decide +kernel
theorem dX4_init_20 : decode cX4_init 20 = .ok (.invokespecial 11, 3) := by decide +kernel
theorem dX4_init_23 : decode cX4_init 23 = .ok (.putfield 16, 3) := by decide +kernel
theorem dX4_init_26 : decode cX4_init 26 = .ok (.aload_n 0, 1) := by decide +kernel
theorem dX4_init_27 : decode cX4_init 27 = .ok (.new 19, 3) := by decide +kernel
theorem dX4_init_30 : decode cX4_init 30 = .ok (.dup, 1) := by decide +kernel
theorem dX4_init_31 : decode cX4_init 31 = .ok (.aload_n 0, 1) := by decide +kernel
theorem dX4_init_32 : decode cX4_init 32 = .ok (.getfield 12, 3) := by decide +kernel
theorem dX4_init_35 : decode cX4_init 35 = .ok (.invokespecial 21, 3) := by decide +kernel
theorem dX4_init_38 : decode cX4_init 38 = .ok (.putfield 24, 3) := by decide +kernel
theorem dX4_init_41 : decode cX4_init 41 = .ok (.aload_n 0, 1) := by decide +kernel
theorem dX4_init_42 : decode cX4_init 42 = .ok (.new 28, 3) := by decide +kernel
theorem dX4_init_45 : decode cX4_init 45 = .ok (.dup, 1) := by decide +kernel
theorem dX4_init_46 : decode cX4_init 46 = .ok (.invokespecial 30, 3) := by decide +kernel
theorem dX4_init_49 : decode cX4_init 49 = .ok (.putfield 31, 3) := by decide +kernel
theorem dX4_init_52 : decode cX4_init 52 = .ok (.aload_n 0, 1) := by decide +kernel
theorem dX4_init_53 : decode cX4_init 53 = .ok (.new 35, 3) := by decide +kernel
theorem dX4_init_56 : decode cX4_init 56 = .ok (.dup, 1) := by decide +kernel
theorem dX4_init_57 : decode cX4_init 57 = .ok (.invokespecial 37, 3) := by decide +kernel
theorem dX4_init_60 : decode cX4_init 60 = .ok (.putfield 38, 3) := by decide +kernel
theorem dX4_init_63 : decode cX4_init 63 = .ok (.return_, 1) := by decide +kernel
theorem dX4_setRoom_0 : decode cX4_setRoom 0 = .ok (.iload_n 1, 1) := by decide +kernel
theorem dX4_setRoom_1 : decode cX4_setRoom 1 = .ok (.bipush 6, 2) := by decide +kernel
theorem dX4_setRoom_3 : decode cX4_setRoom 3 = .ok (.invokestatic 42, 3) := by decide +kernel
theorem dX4_setRoom_6 : decode cX4_setRoom 6 = .ok (.iload_n 2, 1) := by decide +kernel
theorem dX4_setRoom_7 : decode cX4_setRoom 7 = .ok (.iconst 0, 1) := by decide +kernel
theorem dX4_setRoom_8 : decode cX4_setRoom 8 = .ok (.bipush 99, 2) := by decide +kernel
theorem dX4_setRoom_10 : decode cX4_setRoom 10 = .ok (.invokestatic 46, 3) := by decide +kernel
theorem dX4_setRoom_13 : decode cX4_setRoom 13 = .ok (.iload_n 3, 1) := by decide +kernel
theorem dX4_setRoom_14 : decode cX4_setRoom 14 = .ok (.iconst 0, 1) := by decide +kernel
theorem dX4_setRoom_15 : decode cX4_setRoom 15 = .ok (.bipush 15, 2) := by decide +kernel
theorem dX4_setRoom_17 : decode cX4_setRoom 17 = .ok (.invokestatic 46, 3) := by decide +kernel
theorem dX4_setRoom_20 : decode cX4_setRoom 20 = .ok (.aload_n 0, 1) := by decide +kernel
theorem dX4_setRoom_21 : decode cX4_setRoom 21 = .ok (.getfield 31, 3) := by decide +kernel
theorem dX4_setRoom_24 : decode cX4_setRoom 24 = .ok (.aload_n 0, 1) := by decide +kernel
theorem dX4_setRoom_25 : decode cX4_setRoom 25 = .ok (.getfield 12, 3) := by decide +kernel
theorem dX4_setRoom_28 : decode cX4_setRoom 28 = .ok (.invokevirtual 50, 3) := by decide +kernel
theorem dX4_setRoom_31 : decode cX4_setRoom 31 = .ok (.aload_n 0, 1) := by decide +kernel
theorem dX4_setRoom_32 : decode cX4_setRoom 32 = .ok (.getfield 12, 3) := by decide +kernel
theorem dX4_setRoom_35 : decode cX4_setRoom 35 = .ok (.getfield 53, 3) := by decide +kernel
theorem dX4_setRoom_38 : decode cX4_setRoom 38 = .ok (.iload_n 1, 1) := by decide +kernel
theorem dX4_setRoom_39 : decode cX4_setRoom 39 = .ok (.iload_n 2, 1) := by decide +kernel
theorem dX4_setRoom_40 : decode cX4_setRoom 40 = .ok (.iastore, 1) := by decide +kernel
theorem dX4_setRoom_41 : decode cX4_setRoom 41 = .ok (.aload_n 0, 1) := by decide +kernel
theorem dX4_setRoom_42 : decode cX4_setRoom 42 = .ok (.getfield 12, 3) := by decide +kernel
theorem dX4_setRoom_45 : decode cX4_setRoom 45 = .ok (.getfield 57, 3) := by decide +kernel
theorem dX4_setRoom_48 : decode cX4_setRoom 48 = .ok (.iload_n 1, 1) := by decide +kernel
theorem dX4_setRoom_49 : decode cX4_setRoom 49 = .ok (.iload_n 3, 1) := by decide +kernel
theorem dX4_setRoom_50 : decode cX4_setRoom 50 = .ok (.iastore, 1) := by decide +kernel
theorem dX4_setRoom_51 : decode cX4_setRoom 51 = .ok (.aload_n 0, 1) := by decide +kernel
theorem dX4_setRoom_52 : decode cX4_setRoom 52 = .ok (.getfield 12, 3) := by decide +kernel
theorem dX4_setRoom_55 : decode cX4_setRoom 55 = .ok (.invokevirtual 60, 3) := by decide +kernel
theorem dX4_setRoom_58 : decode cX4_setRoom 58 = .ok (.ireturn, 1) := by decide +kernel
theorem dX4_setGroup_0 : decode cX4_setGroup 0 = .ok (.iload_n 1, 1) := by decide +kernel
theorem dX4_setGroup_1 : decode cX4_setGroup 1 = .ok (.bipush 6, 2) := by decide +kernel
theorem dX4_setGroup_3 : decode cX4_setGroup 3 = .ok (.invokestatic 42, 3) := by decide +kernel
theorem dX4_setGroup_6 : decode cX4_setGroup 6 = .ok (.iload_n 2, 1) := by decide +kernel
theorem dX4_setGroup_7 : decode cX4_setGroup 7 = .ok (.iconst 0, 1) := by decide +kernel
theorem dX4_setGroup_8 : decode cX4_setGroup 8 = .ok (.bipush 40, 2) := by decide +kernel
theorem dX4_setGroup_10 : decode cX4_setGroup 10 = .ok (.invokestatic 46, 3) := by decide +kernel
theorem dX4_setGroup_13 : decode cX4_setGroup 13 = .ok (.aload_n 0, 1) := by decide +kernel
theorem dX4_setGroup_14 : decode cX4_setGroup 14 = .ok (.getfield 31, 3) := by decide +kernel
theorem dX4_setGroup_17 : decode cX4_setGroup 17 = .ok (.aload_n 0, 1) := by decide +kernel
theorem dX4_setGroup_18 : decode cX4_setGroup 18 = .ok (.getfield 12, 3) := by decide +kernel
theorem dX4_setGroup_21 : decode cX4_setGroup 21 = .ok (.invokevirtual 50, 3) := by decide +kernel
theorem dX4_setGroup_24 : decode cX4_setGroup 24 = .ok (.aload_n 0, 1) := by decide +kernel
theorem dX4_setGroup_25 : decode cX4_setGroup 25 = .ok (.getfield 12, 3) := by decide +kernel
theorem dX4_setGroup_28 : decode cX4_setGroup 28 = .ok (.getfield 64, 3) := by decide +kernel
theorem dX4_setGroup_31 : decode cX4_setGroup 31 = .ok (.iload_n 1, 1) := by decide +kernel
theorem dX4_setGroup_32 : decode cX4_setGroup 32 = .ok (.iload_n 2, 1) := by decide +kernel
theorem dX4_setGroup_33 : decode cX4_setGroup 33 = .ok (.iastore, 1) := by decide +kernel
theorem dX4_setGroup_34 : decode cX4_setGroup 34 = .ok (.aload_n 0, 1) := by decide +kernel
theorem dX4_setGroup_35 : decode cX4_setGroup 35 = .ok (.getfield 12, 3) := by decide +kernel
theorem dX4_setGroup_38 : decode cX4_setGroup 38 = .ok (.invokevirtual 60, 3) := by decide +kernel
theorem dX4_setGroup_41 : decode cX4_setGroup 41 = .ok (.ireturn, 1) := by decide +kernel
theorem dX4_setTeacher_0 : decode cX4_setTeacher 0 = .ok (.iload_n 1, 1) := by decide +kernel
theorem dX4_setTeacher_1 : decode cX4_setTeacher 1 = .ok (.bipush 6, 2) := by decide +kernel
theorem dX4_setTeacher_3 : decode cX4_setTeacher 3 = .ok (.invokestatic 42, 3) := by decide +kernel
theorem dX4_setTeacher_6 : decode cX4_setTeacher 6 = .ok (.iload_n 2, 1) := by decide +kernel
theorem dX4_setTeacher_7 : decode cX4_setTeacher 7 = .ok (.iconst 0, 1) := by decide +kernel
theorem dX4_setTeacher_8 : decode cX4_setTeacher 8 = .ok (.sipush 1023, 3) := by decide +kernel
theorem dX4_setTeacher_11 : decode cX4_setTeacher 11 = .ok (.invokestatic 46, 3) := by decide +kernel
theorem dX4_setTeacher_14 : decode cX4_setTeacher 14 = .ok (.aload_n 0, 1) := by decide +kernel
theorem dX4_setTeacher_15 : decode cX4_setTeacher 15 = .ok (.getfield 31, 3) := by decide +kernel
theorem dX4_setTeacher_18 : decode cX4_setTeacher 18 = .ok (.aload_n 0, 1) := by decide +kernel
theorem dX4_setTeacher_19 : decode cX4_setTeacher 19 = .ok (.getfield 12, 3) := by decide +kernel
theorem dX4_setTeacher_22 : decode cX4_setTeacher 22 = .ok (.invokevirtual 50, 3) := by decide +kernel
theorem dX4_setTeacher_25 : decode cX4_setTeacher 25 = .ok (.aload_n 0, 1) := by decide +kernel
theorem dX4_setTeacher_26 : decode cX4_setTeacher 26 = .ok (.getfield 12, 3) := by decide +kernel
theorem dX4_setTeacher_29 : decode cX4_setTeacher 29 = .ok (.getfield 67, 3) := by decide +kernel
theorem dX4_setTeacher_32 : decode cX4_setTeacher 32 = .ok (.iload_n 1, 1) := by decide +kernel
theorem dX4_setTeacher_33 : decode cX4_setTeacher 33 = .ok (.iload_n 2, 1) := by decide +kernel
theorem dX4_setTeacher_34 : decode cX4_setTeacher 34 = .ok (.iastore, 1) := by decide +kernel
theorem dX4_setTeacher_35 : decode cX4_setTeacher 35 = .ok (.aload_n 0, 1) := by decide +kernel
theorem dX4_setTeacher_36 : decode cX4_setTeacher 36 = .ok (.getfield 12, 3) := by decide +kernel
theorem dX4_setTeacher_39 : decode cX4_setTeacher 39 = .ok (.invokevirtual 60, 3) := by decide +kernel
theorem dX4_setTeacher_42 : decode cX4_setTeacher 42 = .ok (.ireturn, 1) := by decide +kernel
theorem dX4_setWeight_0 : decode cX4_setWeight 0 = .ok (.iload_n 1, 1) := by decide +kernel
theorem dX4_setWeight_1 : decode cX4_setWeight 1 = .ok (.iconst 3, 1) := by decide +kernel
theorem dX4_setWeight_2 : decode cX4_setWeight 2 = .ok (.invokestatic 42, 3) := by decide +kernel
theorem dX4_setWeight_5 : decode cX4_setWeight 5 = .ok (.iload_n 2, 1) := by decide +kernel
theorem dX4_setWeight_6 : decode cX4_setWeight 6 = .ok (.iconst 0, 1) := by decide +kernel
theorem dX4_setWeight_7 : decode cX4_setWeight 7 = .ok (.bipush 9, 2) := by decide +kernel
theorem dX4_setWeight_9 : decode cX4_setWeight 9 = .ok (.invokestatic 46, 3) := by decide +kernel
theorem dX4_setWeight_12 : decode cX4_setWeight 12 = .ok (.aload_n 0, 1) := by decide +kernel
theorem dX4_setWeight_13 : decode cX4_setWeight 13 = .ok (.getfield 31, 3) := by decide +kernel
theorem dX4_setWeight_16 : decode cX4_setWeight 16 = .ok (.aload_n 0, 1) := by decide +kernel
theorem dX4_setWeight_17 : decode cX4_setWeight 17 = .ok (.getfield 12, 3) := by decide +kernel
theorem dX4_setWeight_20 : decode cX4_setWeight 20 = .ok (.invokevirtual 50, 3) := by decide +kernel
theorem dX4_setWeight_23 : decode cX4_setWeight 23 = .ok (.aload_n 0, 1) := by decide +kernel
theorem dX4_setWeight_24 : decode cX4_setWeight 24 = .ok (.getfield 12, 3) := by decide +kernel
theorem dX4_setWeight_27 : decode cX4_setWeight 27 = .ok (.getfield 70, 3) := by decide +kernel
theorem dX4_setWeight_30 : decode cX4_setWeight 30 = .ok (.iload_n 1, 1) := by decide +kernel
theorem dX4_setWeight_31 : decode cX4_setWeight 31 = .ok (.iaload, 1) := by decide +kernel
theorem dX4_setWeight_32 : decode cX4_setWeight 32 = .ok (.istore_n 3, 1) := by decide +kernel
theorem dX4_setWeight_33 : decode cX4_setWeight 33 = .ok (.aload_n 0, 1) := by decide +kernel
theorem dX4_setWeight_34 : decode cX4_setWeight 34 = .ok (.getfield 12, 3) := by decide +kernel
theorem dX4_setWeight_37 : decode cX4_setWeight 37 = .ok (.getfield 70, 3) := by decide +kernel
theorem dX4_setWeight_40 : decode cX4_setWeight 40 = .ok (.iload_n 1, 1) := by decide +kernel
theorem dX4_setWeight_41 : decode cX4_setWeight 41 = .ok (.iload_n 2, 1) := by decide +kernel
theorem dX4_setWeight_42 : decode cX4_setWeight 42 = .ok (.iastore, 1) := by decide +kernel
theorem dX4_setWeight_43 : decode cX4_setWeight 43 = .ok (.iload_n 3, 1) := by decide +kernel
theorem dX4_setWeight_44 : decode cX4_setWeight 44 = .ok (.ireturn, 1) := by decide +kernel
theorem dX4_setting_0 : decode cX4_setting 0 = .ok (.iload_n 1, 1) := by decide +kernel
theorem dX4_setting_1 : decode cX4_setting 1 = .ok (.iconst 0, 1) := by decide +kernel
theorem dX4_setting_2 : decode cX4_setting 2 = .ok (.iconst 3, 1) := by decide +kernel
theorem dX4_setting_3 : decode cX4_setting 3 = .ok (.invokestatic 46, 3) := by decide +kernel
theorem dX4_setting_6 : decode cX4_setting 6 = .ok (.iload_n 1, 1) := by decide +kernel
theorem dX4_setting_7 : decode cX4_setting 7 = .ok (.tableswitch 73 0 2 #[25, 41, 57], 25) := by decide +kernel
theorem dX4_setting_32 : decode cX4_setting 32 = .ok (.iload_n 2, 1) := by decide +kernel
theorem dX4_setting_33 : decode cX4_setting 33 = .ok (.bipush 6, 2) := by decide +kernel
theorem dX4_setting_35 : decode cX4_setting 35 = .ok (.invokestatic 42, 3) := by decide +kernel
theorem dX4_setting_38 : decode cX4_setting 38 = .ok (.aload_n 0, 1) := by decide +kernel
theorem dX4_setting_39 : decode cX4_setting 39 = .ok (.getfield 12, 3) := by decide +kernel
theorem dX4_setting_42 : decode cX4_setting 42 = .ok (.getfield 53, 3) := by decide +kernel
theorem dX4_setting_45 : decode cX4_setting 45 = .ok (.iload_n 2, 1) := by decide +kernel
theorem dX4_setting_46 : decode cX4_setting 46 = .ok (.iaload, 1) := by decide +kernel
theorem dX4_setting_47 : decode cX4_setting 47 = .ok (.ireturn, 1) := by decide +kernel
theorem dX4_setting_48 : decode cX4_setting 48 = .ok (.iload_n 2, 1) := by decide +kernel
theorem dX4_setting_49 : decode cX4_setting 49 = .ok (.bipush 6, 2) := by decide +kernel
theorem dX4_setting_51 : decode cX4_setting 51 = .ok (.invokestatic 42, 3) := by decide +kernel
theorem dX4_setting_54 : decode cX4_setting 54 = .ok (.aload_n 0, 1) := by decide +kernel
theorem dX4_setting_55 : decode cX4_setting 55 = .ok (.getfield 12, 3) := by decide +kernel
theorem dX4_setting_58 : decode cX4_setting 58 = .ok (.getfield 57, 3) := by decide +kernel
theorem dX4_setting_61 : decode cX4_setting 61 = .ok (.iload_n 2, 1) := by decide +kernel
theorem dX4_setting_62 : decode cX4_setting 62 = .ok (.iaload, 1) := by decide +kernel
theorem dX4_setting_63 : decode cX4_setting 63 = .ok (.ireturn, 1) := by decide +kernel
theorem dX4_setting_64 : decode cX4_setting 64 = .ok (.iload_n 2, 1) := by decide +kernel
theorem dX4_setting_65 : decode cX4_setting 65 = .ok (.bipush 6, 2) := by decide +kernel
theorem dX4_setting_67 : decode cX4_setting 67 = .ok (.invokestatic 42, 3) := by decide +kernel
theorem dX4_setting_70 : decode cX4_setting 70 = .ok (.aload_n 0, 1) := by decide +kernel
theorem dX4_setting_71 : decode cX4_setting 71 = .ok (.getfield 12, 3) := by decide +kernel
theorem dX4_setting_74 : decode cX4_setting 74 = .ok (.getfield 64, 3) := by decide +kernel
theorem dX4_setting_77 : decode cX4_setting 77 = .ok (.iload_n 2, 1) := by decide +kernel
theorem dX4_setting_78 : decode cX4_setting 78 = .ok (.iaload, 1) := by decide +kernel
theorem dX4_setting_79 : decode cX4_setting 79 = .ok (.ireturn, 1) := by decide +kernel
theorem dX4_setting_80 : decode cX4_setting 80 = .ok (.iload_n 2, 1) := by decide +kernel
theorem dX4_setting_81 : decode cX4_setting 81 = .ok (.bipush 6, 2) := by decide +kernel
theorem dX4_setting_83 : decode cX4_setting 83 = .ok (.invokestatic 42, 3) := by decide +kernel
theorem dX4_setting_86 : decode cX4_setting 86 = .ok (.aload_n 0, 1) := by decide +kernel
theorem dX4_setting_87 : decode cX4_setting 87 = .ok (.getfield 12, 3) := by decide +kernel
theorem dX4_setting_90 : decode cX4_setting 90 = .ok (.getfield 67, 3) := by decide +kernel
theorem dX4_setting_93 : decode cX4_setting 93 = .ok (.iload_n 2, 1) := by decide +kernel
theorem dX4_setting_94 : decode cX4_setting 94 = .ok (.iaload, 1) := by decide +kernel
theorem dX4_setting_95 : decode cX4_setting 95 = .ok (.ireturn, 1) := by decide +kernel
theorem dX4_append_0 : decode cX4_append 0 = .ok (.iload_n 1, 1) := by decide +kernel
theorem dX4_append_1 : decode cX4_append 1 = .ok (.invokestatic 73, 3) := by decide +kernel
theorem dX4_append_4 : decode cX4_append 4 = .ok (.ifCond .ne 13, 3) := by decide +kernel
theorem dX4_append_7 : decode cX4_append 7 = .ok (.new 77, 3) := by decide +kernel
theorem dX4_append_10 : decode cX4_append 10 = .ok (.dup, 1) := by decide +kernel
theorem dX4_append_11 : decode cX4_append 11 = .ok (.ldc 79, 2) := by decide +kernel
theorem dX4_append_13 : decode cX4_append 13 = .ok (.invokespecial 81, 3) := by decide +kernel
theorem dX4_append_16 : decode cX4_append 16 = .ok (.athrow, 1) := by decide +kernel
theorem dX4_append_17 : decode cX4_append 17 = .ok (.aload_n 0, 1) := by decide +kernel
theorem dX4_append_18 : decode cX4_append 18 = .ok (.getfield 38, 3) := by decide +kernel
theorem dX4_append_21 : decode cX4_append 21 = .ok (.iload_n 1, 1) := by decide +kernel
theorem dX4_append_22 : decode cX4_append 22 = .ok (.invokevirtual 84, 3) := by decide +kernel
theorem dX4_append_25 : decode cX4_append 25 = .ok (.ifCond .ne 13, 3) := by decide +kernel
theorem dX4_append_28 : decode cX4_append 28 = .ok (.new 87, 3) := by decide +kernel
theorem dX4_append_31 : decode cX4_append 31 = .ok (.dup, 1) := by decide +kernel
theorem dX4_append_32 : decode cX4_append 32 = .ok (.ldc 89, 2) := by decide +kernel
theorem dX4_append_34 : decode cX4_append 34 = .ok (.invokespecial 91, 3) := by decide +kernel
theorem dX4_append_37 : decode cX4_append 37 = .ok (.athrow, 1) := by decide +kernel
theorem dX4_append_38 : decode cX4_append 38 = .ok (.aload_n 0, 1) := by decide +kernel
theorem dX4_append_39 : decode cX4_append 39 = .ok (.getfield 38, 3) := by decide +kernel
theorem dX4_append_42 : decode cX4_append 42 = .ok (.iload_n 1, 1) := by decide +kernel
theorem dX4_append_43 : decode cX4_append 43 = .ok (.invokevirtual 92, 3) := by decide +kernel
theorem dX4_append_46 : decode cX4_append 46 = .ok (.ireturn, 1) := by decide +kernel
theorem dX4_addEvent_0 : decode cX4_addEvent 0 = .ok (.aload_n 0, 1) := by decide +kernel
theorem dX4_addEvent_1 : decode cX4_addEvent 1 = .ok (.getfield 38, 3) := by decide +kernel
theorem dX4_addEvent_4 : decode cX4_addEvent 4 = .ok (.invokevirtual 96, 3) := by decide +kernel
theorem dX4_addEvent_7 : decode cX4_addEvent 7 = .ok (.ifCond .ne 13, 3) := by decide +kernel
theorem dX4_addEvent_10 : decode cX4_addEvent 10 = .ok (.new 77, 3) := by decide +kernel
theorem dX4_addEvent_13 : decode cX4_addEvent 13 = .ok (.dup, 1) := by decide +kernel
theorem dX4_addEvent_14 : decode cX4_addEvent 14 = .ok (.ldc 100, 2) := by decide +kernel
theorem dX4_addEvent_16 : decode cX4_addEvent 16 = .ok (.invokespecial 81, 3) := by decide +kernel
theorem dX4_addEvent_19 : decode cX4_addEvent 19 = .ok (.athrow, 1) := by decide +kernel
theorem dX4_addEvent_20 : decode cX4_addEvent 20 = .ok (.aload_n 0, 1) := by decide +kernel
theorem dX4_addEvent_21 : decode cX4_addEvent 21 = .ok (.invokevirtual 102, 3) := by decide +kernel
theorem dX4_addEvent_24 : decode cX4_addEvent 24 = .ok (.aload_n 0, 1) := by decide +kernel
theorem dX4_addEvent_25 : decode cX4_addEvent 25 = .ok (.getfield 31, 3) := by decide +kernel
theorem dX4_addEvent_28 : decode cX4_addEvent 28 = .ok (.aload_n 0, 1) := by decide +kernel
theorem dX4_addEvent_29 : decode cX4_addEvent 29 = .ok (.getfield 12, 3) := by decide +kernel
theorem dX4_addEvent_32 : decode cX4_addEvent 32 = .ok (.invokevirtual 50, 3) := by decide +kernel
theorem dX4_addEvent_35 : decode cX4_addEvent 35 = .ok (.aload_n 0, 1) := by decide +kernel
theorem dX4_addEvent_36 : decode cX4_addEvent 36 = .ok (.getfield 12, 3) := by decide +kernel
theorem dX4_addEvent_39 : decode cX4_addEvent 39 = .ok (.aload_n 0, 1) := by decide +kernel
theorem dX4_addEvent_40 : decode cX4_addEvent 40 = .ok (.getfield 38, 3) := by decide +kernel
theorem dX4_addEvent_43 : decode cX4_addEvent 43 = .ok (.getfield 105, 3) := by decide +kernel
theorem dX4_addEvent_46 : decode cX4_addEvent 46 = .ok (.aload_n 0, 1) := by decide +kernel
theorem dX4_addEvent_47 : decode cX4_addEvent 47 = .ok (.getfield 38, 3) := by decide +kernel
theorem dX4_addEvent_50 : decode cX4_addEvent 50 = .ok (.getfield 109, 3) := by decide +kernel
theorem dX4_addEvent_53 : decode cX4_addEvent 53 = .ok (.aload_n 0, 1) := by decide +kernel
theorem dX4_addEvent_54 : decode cX4_addEvent 54 = .ok (.getfield 38, 3) := by decide +kernel
theorem dX4_addEvent_57 : decode cX4_addEvent 57 = .ok (.getfield 112, 3) := by decide +kernel
theorem dX4_addEvent_60 : decode cX4_addEvent 60 = .ok (.aload_n 0, 1) := by decide +kernel
theorem dX4_addEvent_61 : decode cX4_addEvent 61 = .ok (.getfield 38, 3) := by decide +kernel
theorem dX4_addEvent_64 : decode cX4_addEvent 64 = .ok (.getfield 115, 3) := by decide +kernel
theorem dX4_addEvent_67 : decode cX4_addEvent 67 = .ok (.invokevirtual 118, 3) := by decide +kernel
theorem dX4_addEvent_70 : decode cX4_addEvent 70 = .ok (.ireturn, 1) := by decide +kernel
theorem dX4_errorPosition_0 : decode cX4_errorPosition 0 = .ok (.aload_n 0, 1) := by decide +kernel
theorem dX4_errorPosition_1 : decode cX4_errorPosition 1 = .ok (.getfield 38, 3) := by decide +kernel
theorem dX4_errorPosition_4 : decode cX4_errorPosition 4 = .ok (.getfield 122, 3) := by decide +kernel
theorem dX4_errorPosition_7 : decode cX4_errorPosition 7 = .ok (.ireturn, 1) := by decide +kernel
theorem dX4_removeEvent_0 : decode cX4_removeEvent 0 = .ok (.aload_n 0, 1) := by decide +kernel
theorem dX4_removeEvent_1 : decode cX4_removeEvent 1 = .ok (.iload_n 1, 1) := by decide +kernel
theorem dX4_removeEvent_2 : decode cX4_removeEvent 2 = .ok (.invokevirtual 125, 3) := by decide +kernel
theorem dX4_removeEvent_5 : decode cX4_removeEvent 5 = .ok (.aload_n 0, 1) := by decide +kernel
theorem dX4_removeEvent_6 : decode cX4_removeEvent 6 = .ok (.getfield 31, 3) := by decide +kernel
theorem dX4_removeEvent_9 : decode cX4_removeEvent 9 = .ok (.aload_n 0, 1) := by decide +kernel
theorem dX4_removeEvent_10 : decode cX4_removeEvent 10 = .ok (.getfield 12, 3) := by decide +kernel
theorem dX4_removeEvent_13 : decode cX4_removeEvent 13 = .ok (.invokevirtual 50, 3) := by decide +kernel
theorem dX4_removeEvent_16 : decode cX4_removeEvent 16 = .ok (.aload_n 0, 1) := by decide +kernel
theorem dX4_removeEvent_17 : decode cX4_removeEvent 17 = .ok (.getfield 12, 3) := by decide +kernel
theorem dX4_removeEvent_20 : decode cX4_removeEvent 20 = .ok (.iload_n 1, 1) := by decide +kernel
theorem dX4_removeEvent_21 : decode cX4_removeEvent 21 = .ok (.invokevirtual 129, 3) := by decide +kernel
theorem dX4_removeEvent_24 : decode cX4_removeEvent 24 = .ok (.aload_n 0, 1) := by decide +kernel
theorem dX4_removeEvent_25 : decode cX4_removeEvent 25 = .ok (.getfield 12, 3) := by decide +kernel
theorem dX4_removeEvent_28 : decode cX4_removeEvent 28 = .ok (.getfield 132, 3) := by decide +kernel
theorem dX4_removeEvent_31 : decode cX4_removeEvent 31 = .ok (.ireturn, 1) := by decide +kernel
theorem dX4_split_0 : decode cX4_split 0 = .ok (.aload_n 0, 1) := by decide +kernel
theorem dX4_split_1 : decode cX4_split 1 = .ok (.iload_n 1, 1) := by decide +kernel
theorem dX4_split_2 : decode cX4_split 2 = .ok (.invokevirtual 125, 3) := by decide +kernel
theorem dX4_split_5 : decode cX4_split 5 = .ok (.aload_n 0, 1) := by decide +kernel
theorem dX4_split_6 : decode cX4_split 6 = .ok (.getfield 12, 3) := by decide +kernel
theorem dX4_split_9 : decode cX4_split 9 = .ok (.getfield 135, 3) := by decide +kernel
theorem dX4_split_12 : decode cX4_split 12 = .ok (.iload_n 1, 1) := by decide +kernel
theorem dX4_split_13 : decode cX4_split 13 = .ok (.iaload, 1) := by decide +kernel
theorem dX4_split_14 : decode cX4_split 14 = .ok (.istore_n 3, 1) := by decide +kernel
theorem dX4_split_15 : decode cX4_split 15 = .ok (.iload_n 2, 1) := by decide +kernel
theorem dX4_split_16 : decode cX4_split 16 = .ok (.ifCond .eq 16, 3) := by decide +kernel
theorem dX4_split_19 : decode cX4_split 19 = .ok (.iload_n 2, 1) := by decide +kernel
theorem dX4_split_20 : decode cX4_split 20 = .ok (.iload_n 3, 1) := by decide +kernel
theorem dX4_split_21 : decode cX4_split 21 = .ok (.if_icmp .eq 11, 3) := by decide +kernel
theorem dX4_split_24 : decode cX4_split 24 = .ok (.iload_n 2, 1) := by decide +kernel
theorem dX4_split_25 : decode cX4_split 25 = .ok (.iload_n 3, 1) := by decide +kernel
theorem dX4_split_26 : decode cX4_split 26 = .ok (.iconst (-1), 1) := by decide +kernel
theorem dX4_split_27 : decode cX4_split 27 = .ok (.ixor, 1) := by decide +kernel
theorem dX4_split_28 : decode cX4_split 28 = .ok (.iand, 1) := by decide +kernel
theorem dX4_split_29 : decode cX4_split 29 = .ok (.ifCond .eq 13, 3) := by decide +kernel
theorem dX4_split_32 : decode cX4_split 32 = .ok (.new 77, 3) := by decide +kernel
theorem dX4_split_35 : decode cX4_split 35 = .ok (.dup, 1) := by decide +kernel
theorem dX4_split_36 : decode cX4_split 36 = .ok (.ldc 137, 2) := by decide +kernel
theorem dX4_split_38 : decode cX4_split 38 = .ok (.invokespecial 81, 3) := by decide +kernel
theorem dX4_split_41 : decode cX4_split 41 = .ok (.athrow, 1) := by decide +kernel
theorem dX4_split_42 : decode cX4_split 42 = .ok (.aload_n 0, 1) := by decide +kernel
theorem dX4_split_43 : decode cX4_split 43 = .ok (.invokevirtual 102, 3) := by decide +kernel
theorem dX4_split_46 : decode cX4_split 46 = .ok (.aload_n 0, 1) := by decide +kernel
theorem dX4_split_47 : decode cX4_split 47 = .ok (.getfield 31, 3) := by decide +kernel
theorem dX4_split_50 : decode cX4_split 50 = .ok (.aload_n 0, 1) := by decide +kernel
theorem dX4_split_51 : decode cX4_split 51 = .ok (.getfield 12, 3) := by decide +kernel
theorem dX4_split_54 : decode cX4_split 54 = .ok (.invokevirtual 50, 3) := by decide +kernel
theorem dX4_split_57 : decode cX4_split 57 = .ok (.aload_n 0, 1) := by decide +kernel
theorem dX4_split_58 : decode cX4_split 58 = .ok (.getfield 12, 3) := by decide +kernel
theorem dX4_split_61 : decode cX4_split 61 = .ok (.getfield 135, 3) := by decide +kernel
theorem dX4_split_64 : decode cX4_split 64 = .ok (.iload_n 1, 1) := by decide +kernel
theorem dX4_split_65 : decode cX4_split 65 = .ok (.iload_n 3, 1) := by decide +kernel
theorem dX4_split_66 : decode cX4_split 66 = .ok (.iload_n 2, 1) := by decide +kernel
theorem dX4_split_67 : decode cX4_split 67 = .ok (.iconst (-1), 1) := by decide +kernel
theorem dX4_split_68 : decode cX4_split 68 = .ok (.ixor, 1) := by decide +kernel
theorem dX4_split_69 : decode cX4_split 69 = .ok (.iand, 1) := by decide +kernel
theorem dX4_split_70 : decode cX4_split 70 = .ok (.iastore, 1) := by decide +kernel
theorem dX4_split_71 : decode cX4_split 71 = .ok (.aload_n 0, 1) := by decide +kernel
theorem dX4_split_72 : decode cX4_split 72 = .ok (.getfield 12, 3) := by decide +kernel
theorem dX4_split_75 : decode cX4_split 75 = .ok (.aload_n 0, 1) := by decide +kernel
theorem dX4_split_76 : decode cX4_split 76 = .ok (.getfield 12, 3) := by decide +kernel
theorem dX4_split_79 : decode cX4_split 79 = .ok (.getfield 139, 3) := by decide +kernel
theorem dX4_split_82 : decode cX4_split 82 = .ok (.iload_n 1, 1) := by decide +kernel
theorem dX4_split_83 : decode cX4_split 83 = .ok (.iaload, 1) := by decide +kernel
theorem dX4_split_84 : decode cX4_split 84 = .ok (.iload_n 2, 1) := by decide +kernel
theorem dX4_split_85 : decode cX4_split 85 = .ok (.aload_n 0, 1) := by decide +kernel
theorem dX4_split_86 : decode cX4_split 86 = .ok (.getfield 12, 3) := by decide +kernel
theorem dX4_split_89 : decode cX4_split 89 = .ok (.getfield 142, 3) := by decide +kernel
theorem dX4_split_92 : decode cX4_split 92 = .ok (.iload_n 1, 1) := by decide +kernel
theorem dX4_split_93 : decode cX4_split 93 = .ok (.iaload, 1) := by decide +kernel
theorem dX4_split_94 : decode cX4_split 94 = .ok (.aload_n 0, 1) := by decide +kernel
theorem dX4_split_95 : decode cX4_split 95 = .ok (.getfield 12, 3) := by decide +kernel
theorem dX4_split_98 : decode cX4_split 98 = .ok (.getfield 144, 3) := by decide +kernel
theorem dX4_split_101 : decode cX4_split 101 = .ok (.iload_n 1, 1) := by decide +kernel
theorem dX4_split_102 : decode cX4_split 102 = .ok (.iaload, 1) := by decide +kernel
theorem dX4_split_103 : decode cX4_split 103 = .ok (.invokevirtual 118, 3) := by decide +kernel
theorem dX4_split_106 : decode cX4_split 106 = .ok (.ireturn, 1) := by decide +kernel
theorem dX4_event_0 : decode cX4_event 0 = .ok (.aload_n 0, 1) := by decide +kernel
theorem dX4_event_1 : decode cX4_event 1 = .ok (.iload_n 1, 1) := by decide +kernel
theorem dX4_event_2 : decode cX4_event 2 = .ok (.invokevirtual 125, 3) := by decide +kernel
theorem dX4_event_5 : decode cX4_event 5 = .ok (.iload_n 2, 1) := by decide +kernel
theorem dX4_event_6 : decode cX4_event 6 = .ok (.tableswitch 119 0 6 #[42, 52, 62, 72, 82, 91, 101], 42) := by decide +kernel
theorem dX4_event_48 : decode cX4_event 48 = .ok (.aload_n 0, 1) := by decide +kernel
theorem dX4_event_49 : decode cX4_event 49 = .ok (.getfield 12, 3) := by decide +kernel
theorem dX4_event_52 : decode cX4_event 52 = .ok (.getfield 139, 3) := by decide +kernel
theorem dX4_event_55 : decode cX4_event 55 = .ok (.iload_n 1, 1) := by decide +kernel
theorem dX4_event_56 : decode cX4_event 56 = .ok (.iaload, 1) := by decide +kernel
theorem dX4_event_57 : decode cX4_event 57 = .ok (.ireturn, 1) := by decide +kernel
theorem dX4_event_58 : decode cX4_event 58 = .ok (.aload_n 0, 1) := by decide +kernel
theorem dX4_event_59 : decode cX4_event 59 = .ok (.getfield 12, 3) := by decide +kernel
theorem dX4_event_62 : decode cX4_event 62 = .ok (.getfield 135, 3) := by decide +kernel
theorem dX4_event_65 : decode cX4_event 65 = .ok (.iload_n 1, 1) := by decide +kernel
theorem dX4_event_66 : decode cX4_event 66 = .ok (.iaload, 1) := by decide +kernel
theorem dX4_event_67 : decode cX4_event 67 = .ok (.ireturn, 1) := by decide +kernel
theorem dX4_event_68 : decode cX4_event 68 = .ok (.aload_n 0, 1) := by decide +kernel
theorem dX4_event_69 : decode cX4_event 69 = .ok (.getfield 12, 3) := by decide +kernel
theorem dX4_event_72 : decode cX4_event 72 = .ok (.getfield 142, 3) := by decide +kernel
theorem dX4_event_75 : decode cX4_event 75 = .ok (.iload_n 1, 1) := by decide +kernel
theorem dX4_event_76 : decode cX4_event 76 = .ok (.iaload, 1) := by decide +kernel
theorem dX4_event_77 : decode cX4_event 77 = .ok (.ireturn, 1) := by decide +kernel
theorem dX4_event_78 : decode cX4_event 78 = .ok (.aload_n 0, 1) := by decide +kernel
theorem dX4_event_79 : decode cX4_event 79 = .ok (.getfield 12, 3) := by decide +kernel
theorem dX4_event_82 : decode cX4_event 82 = .ok (.getfield 144, 3) := by decide +kernel
theorem dX4_event_85 : decode cX4_event 85 = .ok (.iload_n 1, 1) := by decide +kernel
theorem dX4_event_86 : decode cX4_event 86 = .ok (.iaload, 1) := by decide +kernel
theorem dX4_event_87 : decode cX4_event 87 = .ok (.ireturn, 1) := by decide +kernel
theorem dX4_event_88 : decode cX4_event 88 = .ok (.aload_n 0, 1) := by decide +kernel
theorem dX4_event_89 : decode cX4_event 89 = .ok (.getfield 12, 3) := by decide +kernel
theorem dX4_event_92 : decode cX4_event 92 = .ok (.iload_n 1, 1) := by decide +kernel
theorem dX4_event_93 : decode cX4_event 93 = .ok (.invokevirtual 147, 3) := by decide +kernel
theorem dX4_event_96 : decode cX4_event 96 = .ok (.ireturn, 1) := by decide +kernel
theorem dX4_event_97 : decode cX4_event 97 = .ok (.aload_n 0, 1) := by decide +kernel
theorem dX4_event_98 : decode cX4_event 98 = .ok (.getfield 12, 3) := by decide +kernel
theorem dX4_event_101 : decode cX4_event 101 = .ok (.getfield 150, 3) := by decide +kernel
theorem dX4_event_104 : decode cX4_event 104 = .ok (.iload_n 1, 1) := by decide +kernel
theorem dX4_event_105 : decode cX4_event 105 = .ok (.iaload, 1) := by decide +kernel
theorem dX4_event_106 : decode cX4_event 106 = .ok (.ireturn, 1) := by decide +kernel
theorem dX4_event_107 : decode cX4_event 107 = .ok (.aload_n 0, 1) := by decide +kernel
theorem dX4_event_108 : decode cX4_event 108 = .ok (.getfield 12, 3) := by decide +kernel
theorem dX4_event_111 : decode cX4_event 111 = .ok (.getfield 153, 3) := by decide +kernel
theorem dX4_event_114 : decode cX4_event 114 = .ok (.iload_n 1, 1) := by decide +kernel
theorem dX4_event_115 : decode cX4_event 115 = .ok (.baload, 1) := by decide +kernel
theorem dX4_event_116 : decode cX4_event 116 = .ok (.ifCond .eq 7, 3) := by decide +kernel
theorem dX4_event_119 : decode cX4_event 119 = .ok (.iconst 1, 1) := by decide +kernel
theorem dX4_event_120 : decode cX4_event 120 = .ok (.goto 4, 3) := by decide +kernel
theorem dX4_event_123 : decode cX4_event 123 = .ok (.iconst 0, 1) := by decide +kernel
theorem dX4_event_124 : decode cX4_event 124 = .ok (.ireturn, 1) := by decide +kernel
theorem dX4_event_125 : decode cX4_event 125 = .ok (.new 77, 3) := by decide +kernel
theorem dX4_event_128 : decode cX4_event 128 = .ok (.dup, 1) := by decide +kernel
theorem dX4_event_129 : decode cX4_event 129 = .ok (.ldc 157, 2) := by decide +kernel
theorem dX4_event_131 : decode cX4_event 131 = .ok (.invokespecial 81, 3) := by decide +kernel
theorem dX4_event_134 : decode cX4_event 134 = .ok (.athrow, 1) := by decide +kernel
theorem dX4_describe_0 : decode cX4_describe 0 = .ok (.aload_n 0, 1) := by decide +kernel
theorem dX4_describe_1 : decode cX4_describe 1 = .ok (.iload_n 1, 1) := by decide +kernel
theorem dX4_describe_2 : decode cX4_describe 2 = .ok (.invokevirtual 125, 3) := by decide +kernel
theorem dX4_describe_5 : decode cX4_describe 5 = .ok (.aload_n 0, 1) := by decide +kernel
theorem dX4_describe_6 : decode cX4_describe 6 = .ok (.getfield 12, 3) := by decide +kernel
theorem dX4_describe_9 : decode cX4_describe 9 = .ok (.iload_n 1, 1) := by decide +kernel
theorem dX4_describe_10 : decode cX4_describe 10 = .ok (.invokevirtual 159, 3) := by decide +kernel
theorem dX4_describe_13 : decode cX4_describe 13 = .ok (.astore_n 3, 1) := by decide +kernel
theorem dX4_describe_14 : decode cX4_describe 14 = .ok (.iload_n 2, 1) := by decide +kernel
theorem dX4_describe_15 : decode cX4_describe 15 = .ok (.iconst (-1), 1) := by decide +kernel
theorem dX4_describe_16 : decode cX4_describe 16 = .ok (.if_icmp .ne 8, 3) := by decide +kernel
theorem dX4_describe_19 : decode cX4_describe 19 = .ok (.aload_n 3, 1) := by decide +kernel
theorem dX4_describe_20 : decode cX4_describe 20 = .ok (.invokevirtual 163, 3) := by decide +kernel
theorem dX4_describe_23 : decode cX4_describe 23 = .ok (.ireturn, 1) := by decide +kernel
theorem dX4_describe_24 : decode cX4_describe 24 = .ok (.iload_n 2, 1) := by decide +kernel
theorem dX4_describe_25 : decode cX4_describe 25 = .ok (.aload_n 3, 1) := by decide +kernel
theorem dX4_describe_26 : decode cX4_describe 26 = .ok (.invokevirtual 163, 3) := by decide +kernel
theorem dX4_describe_29 : decode cX4_describe 29 = .ok (.invokestatic 42, 3) := by decide +kernel
theorem dX4_describe_32 : decode cX4_describe 32 = .ok (.aload_n 3, 1) := by decide +kernel
theorem dX4_describe_33 : decode cX4_describe 33 = .ok (.iload_n 2, 1) := by decide +kernel
theorem dX4_describe_34 : decode cX4_describe 34 = .ok (.invokevirtual 167, 3) := by decide +kernel
theorem dX4_describe_37 : decode cX4_describe 37 = .ok (.ireturn, 1) := by decide +kernel
theorem dX4_place_0 : decode cX4_place 0 = .ok (.aload_n 0, 1) := by decide +kernel
theorem dX4_place_1 : decode cX4_place 1 = .ok (.iload_n 1, 1) := by decide +kernel
theorem dX4_place_2 : decode cX4_place 2 = .ok (.invokevirtual 125, 3) := by decide +kernel
theorem dX4_place_5 : decode cX4_place 5 = .ok (.iload_n 2, 1) := by decide +kernel
theorem dX4_place_6 : decode cX4_place 6 = .ok (.bipush 60, 2) := by decide +kernel
theorem dX4_place_8 : decode cX4_place 8 = .ok (.invokestatic 42, 3) := by decide +kernel
theorem dX4_place_11 : decode cX4_place 11 = .ok (.aload_n 0, 1) := by decide +kernel
theorem dX4_place_12 : decode cX4_place 12 = .ok (.getfield 12, 3) := by decide +kernel
theorem dX4_place_15 : decode cX4_place 15 = .ok (.getfield 153, 3) := by decide +kernel
theorem dX4_place_18 : decode cX4_place 18 = .ok (.iload_n 1, 1) := by decide +kernel
theorem dX4_place_19 : decode cX4_place 19 = .ok (.baload, 1) := by decide +kernel
theorem dX4_place_20 : decode cX4_place 20 = .ok (.ifCond .eq 13, 3) := by decide +kernel
theorem dX4_place_23 : decode cX4_place 23 = .ok (.new 171, 3) := by decide +kernel
theorem dX4_place_26 : decode cX4_place 26 = .ok (.dup, 1) := by decide +kernel
theorem dX4_place_27 : decode cX4_place 27 = .ok (.ldc 173, 2) := by decide +kernel
theorem dX4_place_29 : decode cX4_place 29 = .ok (.invokespecial 175, 3) := by decide +kernel
theorem dX4_place_32 : decode cX4_place 32 = .ok (.athrow, 1) := by decide +kernel
theorem dX4_place_33 : decode cX4_place 33 = .ok (.aload_n 0, 1) := by decide +kernel
theorem dX4_place_34 : decode cX4_place 34 = .ok (.iload_n 1, 1) := by decide +kernel
theorem dX4_place_35 : decode cX4_place 35 = .ok (.iload_n 2, 1) := by decide +kernel
theorem dX4_place_36 : decode cX4_place 36 = .ok (.invokevirtual 176, 3) := by decide +kernel
theorem dX4_place_39 : decode cX4_place 39 = .ok (.aload_n 0, 1) := by decide +kernel
theorem dX4_place_40 : decode cX4_place 40 = .ok (.getfield 31, 3) := by decide +kernel
theorem dX4_place_43 : decode cX4_place 43 = .ok (.aload_n 0, 1) := by decide +kernel
theorem dX4_place_44 : decode cX4_place 44 = .ok (.getfield 12, 3) := by decide +kernel
theorem dX4_place_47 : decode cX4_place 47 = .ok (.invokevirtual 50, 3) := by decide +kernel
theorem dX4_place_50 : decode cX4_place 50 = .ok (.aload_n 0, 1) := by decide +kernel
theorem dX4_place_51 : decode cX4_place 51 = .ok (.getfield 12, 3) := by decide +kernel
theorem dX4_place_54 : decode cX4_place 54 = .ok (.getfield 150, 3) := by decide +kernel
theorem dX4_place_57 : decode cX4_place 57 = .ok (.iload_n 1, 1) := by decide +kernel
theorem dX4_place_58 : decode cX4_place 58 = .ok (.iaload, 1) := by decide +kernel
theorem dX4_place_59 : decode cX4_place 59 = .ok (.istore_n 3, 1) := by decide +kernel
theorem dX4_place_60 : decode cX4_place 60 = .ok (.aload_n 0, 1) := by decide +kernel
theorem dX4_place_61 : decode cX4_place 61 = .ok (.getfield 12, 3) := by decide +kernel
theorem dX4_place_64 : decode cX4_place 64 = .ok (.iload_n 1, 1) := by decide +kernel
theorem dX4_place_65 : decode cX4_place 65 = .ok (.iload_n 2, 1) := by decide +kernel
theorem dX4_place_66 : decode cX4_place 66 = .ok (.invokevirtual 179, 3) := by decide +kernel
theorem dX4_place_69 : decode cX4_place 69 = .ok (.iload_n 3, 1) := by decide +kernel
theorem dX4_place_70 : decode cX4_place 70 = .ok (.ireturn, 1) := by decide +kernel
theorem dX4_unplace_0 : decode cX4_unplace 0 = .ok (.aload_n 0, 1) := by decide +kernel
theorem dX4_unplace_1 : decode cX4_unplace 1 = .ok (.iload_n 1, 1) := by decide +kernel
theorem dX4_unplace_2 : decode cX4_unplace 2 = .ok (.invokevirtual 125, 3) := by decide +kernel
theorem dX4_unplace_5 : decode cX4_unplace 5 = .ok (.aload_n 0, 1) := by decide +kernel
theorem dX4_unplace_6 : decode cX4_unplace 6 = .ok (.iload_n 1, 1) := by decide +kernel
theorem dX4_unplace_7 : decode cX4_unplace 7 = .ok (.invokevirtual 182, 3) := by decide +kernel
theorem dX4_unplace_10 : decode cX4_unplace 10 = .ok (.aload_n 0, 1) := by decide +kernel
theorem dX4_unplace_11 : decode cX4_unplace 11 = .ok (.getfield 31, 3) := by decide +kernel
theorem dX4_unplace_14 : decode cX4_unplace 14 = .ok (.aload_n 0, 1) := by decide +kernel
theorem dX4_unplace_15 : decode cX4_unplace 15 = .ok (.getfield 12, 3) := by decide +kernel
theorem dX4_unplace_18 : decode cX4_unplace 18 = .ok (.invokevirtual 50, 3) := by decide +kernel
theorem dX4_unplace_21 : decode cX4_unplace 21 = .ok (.aload_n 0, 1) := by decide +kernel
theorem dX4_unplace_22 : decode cX4_unplace 22 = .ok (.getfield 12, 3) := by decide +kernel
theorem dX4_unplace_25 : decode cX4_unplace 25 = .ok (.getfield 150, 3) := by decide +kernel
theorem dX4_unplace_28 : decode cX4_unplace 28 = .ok (.iload_n 1, 1) := by decide +kernel
theorem dX4_unplace_29 : decode cX4_unplace 29 = .ok (.iaload, 1) := by decide +kernel
theorem dX4_unplace_30 : decode cX4_unplace 30 = .ok (.istore_n 2, 1) := by decide +kernel
theorem dX4_unplace_31 : decode cX4_unplace 31 = .ok (.aload_n 0, 1) := by decide +kernel
theorem dX4_unplace_32 : decode cX4_unplace 32 = .ok (.getfield 12, 3) := by decide +kernel
theorem dX4_unplace_35 : decode cX4_unplace 35 = .ok (.iload_n 1, 1) := by decide +kernel
theorem dX4_unplace_36 : decode cX4_unplace 36 = .ok (.invokevirtual 185, 3) := by decide +kernel
theorem dX4_unplace_39 : decode cX4_unplace 39 = .ok (.iload_n 2, 1) := by decide +kernel
theorem dX4_unplace_40 : decode cX4_unplace 40 = .ok (.ireturn, 1) := by decide +kernel
theorem dX4_fix_0 : decode cX4_fix 0 = .ok (.aload_n 0, 1) := by decide +kernel
theorem dX4_fix_1 : decode cX4_fix 1 = .ok (.iload_n 1, 1) := by decide +kernel
theorem dX4_fix_2 : decode cX4_fix 2 = .ok (.invokevirtual 125, 3) := by decide +kernel
theorem dX4_fix_5 : decode cX4_fix 5 = .ok (.aload_n 0, 1) := by decide +kernel
theorem dX4_fix_6 : decode cX4_fix 6 = .ok (.iload_n 1, 1) := by decide +kernel
theorem dX4_fix_7 : decode cX4_fix 7 = .ok (.invokevirtual 182, 3) := by decide +kernel
theorem dX4_fix_10 : decode cX4_fix 10 = .ok (.aload_n 0, 1) := by decide +kernel
theorem dX4_fix_11 : decode cX4_fix 11 = .ok (.getfield 31, 3) := by decide +kernel
theorem dX4_fix_14 : decode cX4_fix 14 = .ok (.aload_n 0, 1) := by decide +kernel
theorem dX4_fix_15 : decode cX4_fix 15 = .ok (.getfield 12, 3) := by decide +kernel
theorem dX4_fix_18 : decode cX4_fix 18 = .ok (.invokevirtual 50, 3) := by decide +kernel
theorem dX4_fix_21 : decode cX4_fix 21 = .ok (.aload_n 0, 1) := by decide +kernel
theorem dX4_fix_22 : decode cX4_fix 22 = .ok (.getfield 12, 3) := by decide +kernel
theorem dX4_fix_25 : decode cX4_fix 25 = .ok (.getfield 153, 3) := by decide +kernel
theorem dX4_fix_28 : decode cX4_fix 28 = .ok (.iload_n 1, 1) := by decide +kernel
theorem dX4_fix_29 : decode cX4_fix 29 = .ok (.baload, 1) := by decide +kernel
theorem dX4_fix_30 : decode cX4_fix 30 = .ok (.istore_n 3, 1) := by decide +kernel
theorem dX4_fix_31 : decode cX4_fix 31 = .ok (.aload_n 0, 1) := by decide +kernel
theorem dX4_fix_32 : decode cX4_fix 32 = .ok (.getfield 12, 3) := by decide +kernel
theorem dX4_fix_35 : decode cX4_fix 35 = .ok (.getfield 153, 3) := by decide +kernel
theorem dX4_fix_38 : decode cX4_fix 38 = .ok (.iload_n 1, 1) := by decide +kernel
theorem dX4_fix_39 : decode cX4_fix 39 = .ok (.iload_n 2, 1) := by decide +kernel
theorem dX4_fix_40 : decode cX4_fix 40 = .ok (.bastore, 1) := by decide +kernel
theorem dX4_fix_41 : decode cX4_fix 41 = .ok (.iload_n 3, 1) := by decide +kernel
theorem dX4_fix_42 : decode cX4_fix 42 = .ok (.ireturn, 1) := by decide +kernel
theorem dX4_obstacle_0 : decode cX4_obstacle 0 = .ok (.aload_n 0, 1) := by decide +kernel
theorem dX4_obstacle_1 : decode cX4_obstacle 1 = .ok (.iload_n 1, 1) := by decide +kernel
theorem dX4_obstacle_2 : decode cX4_obstacle 2 = .ok (.invokevirtual 125, 3) := by decide +kernel
theorem dX4_obstacle_5 : decode cX4_obstacle 5 = .ok (.iload_n 2, 1) := by decide +kernel
theorem dX4_obstacle_6 : decode cX4_obstacle 6 = .ok (.bipush 60, 2) := by decide +kernel
theorem dX4_obstacle_8 : decode cX4_obstacle 8 = .ok (.invokestatic 42, 3) := by decide +kernel
theorem dX4_obstacle_11 : decode cX4_obstacle 11 = .ok (.aload_n 0, 1) := by decide +kernel
theorem dX4_obstacle_12 : decode cX4_obstacle 12 = .ok (.getfield 12, 3) := by decide +kernel
theorem dX4_obstacle_15 : decode cX4_obstacle 15 = .ok (.iload_n 1, 1) := by decide +kernel
theorem dX4_obstacle_16 : decode cX4_obstacle 16 = .ok (.iload_n 2, 1) := by decide +kernel
theorem dX4_obstacle_17 : decode cX4_obstacle 17 = .ok (.invokevirtual 188, 3) := by decide +kernel
theorem dX4_obstacle_20 : decode cX4_obstacle 20 = .ok (.ireturn, 1) := by decide +kernel
theorem dX4_places_0 : decode cX4_places 0 = .ok (.aload_n 0, 1) := by decide +kernel
theorem dX4_places_1 : decode cX4_places 1 = .ok (.iload_n 1, 1) := by decide +kernel
theorem dX4_places_2 : decode cX4_places 2 = .ok (.invokevirtual 125, 3) := by decide +kernel
theorem dX4_places_5 : decode cX4_places 5 = .ok (.iload_n 2, 1) := by decide +kernel
theorem dX4_places_6 : decode cX4_places 6 = .ok (.iconst 0, 1) := by decide +kernel
theorem dX4_places_7 : decode cX4_places 7 = .ok (.bipush 7, 2) := by decide +kernel
theorem dX4_places_9 : decode cX4_places 9 = .ok (.invokestatic 46, 3) := by decide +kernel
theorem dX4_places_12 : decode cX4_places 12 = .ok (.iconst 0, 1) := by decide +kernel
theorem dX4_places_13 : decode cX4_places 13 = .ok (.istore_n 3, 1) := by decide +kernel
theorem dX4_places_14 : decode cX4_places 14 = .ok (.iconst 0, 1) := by decide +kernel
theorem dX4_places_15 : decode cX4_places 15 = .ok (.istore 4, 2) := by decide +kernel
theorem dX4_places_17 : decode cX4_places 17 = .ok (.iload 4, 2) := by decide +kernel
theorem dX4_places_19 : decode cX4_places 19 = .ok (.bipush 60, 2) := by decide +kernel
theorem dX4_places_21 : decode cX4_places 21 = .ok (.if_icmp .ge 26, 3) := by decide +kernel
theorem dX4_places_24 : decode cX4_places 24 = .ok (.aload_n 0, 1) := by decide +kernel
theorem dX4_places_25 : decode cX4_places 25 = .ok (.getfield 12, 3) := by decide +kernel
theorem dX4_places_28 : decode cX4_places 28 = .ok (.iload_n 1, 1) := by decide +kernel
theorem dX4_places_29 : decode cX4_places 29 = .ok (.iload 4, 2) := by decide +kernel
theorem dX4_places_31 : decode cX4_places 31 = .ok (.invokevirtual 188, 3) := by decide +kernel
theorem dX4_places_34 : decode cX4_places 34 = .ok (.iload_n 2, 1) := by decide +kernel
theorem dX4_places_35 : decode cX4_places 35 = .ok (.if_icmp .ne 6, 3) := by decide +kernel
theorem dX4_places_38 : decode cX4_places 38 = .ok (.iinc 3 1, 3) := by decide +kernel
theorem dX4_places_41 : decode cX4_places 41 = .ok (.iinc 4 1, 3) := by decide +kernel
theorem dX4_places_44 : decode cX4_places 44 = .ok (.goto (-27), 3) := by decide +kernel
theorem dX4_places_47 : decode cX4_places 47 = .ok (.iload_n 3, 1) := by decide +kernel
theorem dX4_places_48 : decode cX4_places 48 = .ok (.ireturn, 1) := by decide +kernel
theorem dX4_free_0 : decode cX4_free 0 = .ok (.aload_n 0, 1) := by decide +kernel
theorem dX4_free_1 : decode cX4_free 1 = .ok (.iload_n 1, 1) := by decide +kernel
theorem dX4_free_2 : decode cX4_free 2 = .ok (.invokevirtual 125, 3) := by decide +kernel
theorem dX4_free_5 : decode cX4_free 5 = .ok (.iload_n 2, 1) := by decide +kernel
theorem dX4_free_6 : decode cX4_free 6 = .ok (.ifCond .ge 7, 3) := by decide +kernel
theorem dX4_free_9 : decode cX4_free 9 = .ok (.iconst (-1), 1) := by decide +kernel
theorem dX4_free_10 : decode cX4_free 10 = .ok (.goto 12, 3) := by decide +kernel
theorem dX4_free_13 : decode cX4_free 13 = .ok (.aload_n 0, 1) := by decide +kernel
theorem dX4_free_14 : decode cX4_free 14 = .ok (.getfield 12, 3) := by decide +kernel
theorem dX4_free_17 : decode cX4_free 17 = .ok (.iload_n 1, 1) := by decide +kernel
theorem dX4_free_18 : decode cX4_free 18 = .ok (.iload_n 2, 1) := by decide +kernel
theorem dX4_free_19 : decode cX4_free 19 = .ok (.invokevirtual 192, 3) := by decide +kernel
theorem dX4_free_22 : decode cX4_free 22 = .ok (.istore_n 3, 1) := by decide +kernel
theorem dX4_free_23 : decode cX4_free 23 = .ok (.iload_n 3, 1) := by decide +kernel
theorem dX4_free_24 : decode cX4_free 24 = .ok (.iconst (-1), 1) := by decide +kernel
theorem dX4_free_25 : decode cX4_free 25 = .ok (.if_icmp .ne 13, 3) := by decide +kernel
theorem dX4_free_28 : decode cX4_free 28 = .ok (.new 195, 3) := by decide +kernel
theorem dX4_free_31 : decode cX4_free 31 = .ok (.dup, 1) := by decide +kernel
theorem dX4_free_32 : decode cX4_free 32 = .ok (.ldc 197, 2) := by decide +kernel
theorem dX4_free_34 : decode cX4_free 34 = .ok (.invokespecial 199, 3) := by decide +kernel
theorem dX4_free_37 : decode cX4_free 37 = .ok (.athrow, 1) := by decide +kernel
theorem dX4_free_38 : decode cX4_free 38 = .ok (.iload_n 3, 1) := by decide +kernel
theorem dX4_free_39 : decode cX4_free 39 = .ok (.ireturn, 1) := by decide +kernel
theorem dX4_hindering_0 : decode cX4_hindering 0 = .ok (.aload_n 0, 1) := by decide +kernel
theorem dX4_hindering_1 : decode cX4_hindering 1 = .ok (.iload_n 1, 1) := by decide +kernel
theorem dX4_hindering_2 : decode cX4_hindering 2 = .ok (.invokevirtual 125, 3) := by decide +kernel
theorem dX4_hindering_5 : decode cX4_hindering 5 = .ok (.iload_n 2, 1) := by decide +kernel
theorem dX4_hindering_6 : decode cX4_hindering 6 = .ok (.bipush 60, 2) := by decide +kernel
theorem dX4_hindering_8 : decode cX4_hindering 8 = .ok (.invokestatic 42, 3) := by decide +kernel
theorem dX4_hindering_11 : decode cX4_hindering 11 = .ok (.aload_n 0, 1) := by decide +kernel
theorem dX4_hindering_12 : decode cX4_hindering 12 = .ok (.getfield 12, 3) := by decide +kernel
theorem dX4_hindering_15 : decode cX4_hindering 15 = .ok (.iload_n 1, 1) := by decide +kernel
theorem dX4_hindering_16 : decode cX4_hindering 16 = .ok (.iload_n 2, 1) := by decide +kernel
theorem dX4_hindering_17 : decode cX4_hindering 17 = .ok (.invokevirtual 200, 3) := by decide +kernel
theorem dX4_hindering_20 : decode cX4_hindering 20 = .ok (.ireturn, 1) := by decide +kernel
theorem dX4_at_0 : decode cX4_at 0 = .ok (.iload_n 1, 1) := by decide +kernel
theorem dX4_at_1 : decode cX4_at 1 = .ok (.bipush 10, 2) := by decide +kernel
theorem dX4_at_3 : decode cX4_at 3 = .ok (.invokestatic 42, 3) := by decide +kernel
theorem dX4_at_6 : decode cX4_at 6 = .ok (.iload_n 2, 1) := by decide +kernel
theorem dX4_at_7 : decode cX4_at 7 = .ok (.bipush 6, 2) := by decide +kernel
theorem dX4_at_9 : decode cX4_at 9 = .ok (.invokestatic 42, 3) := by decide +kernel
theorem dX4_at_12 : decode cX4_at 12 = .ok (.aload_n 0, 1) := by decide +kernel
theorem dX4_at_13 : decode cX4_at 13 = .ok (.getfield 12, 3) := by decide +kernel
theorem dX4_at_16 : decode cX4_at 16 = .ok (.iload_n 1, 1) := by decide +kernel
theorem dX4_at_17 : decode cX4_at 17 = .ok (.iload_n 2, 1) := by decide +kernel
theorem dX4_at_18 : decode cX4_at 18 = .ok (.invokevirtual 203, 3) := by decide +kernel
theorem dX4_at_21 : decode cX4_at 21 = .ok (.istore_n 3, 1) := by decide +kernel
theorem dX4_at_22 : decode cX4_at 22 = .ok (.iload_n 3, 1) := by decide +kernel
theorem dX4_at_23 : decode cX4_at 23 = .ok (.iconst (-1), 1) := by decide +kernel
theorem dX4_at_24 : decode cX4_at 24 = .ok (.if_icmp .ne 13, 3) := by decide +kernel
theorem dX4_at_27 : decode cX4_at 27 = .ok (.new 195, 3) := by decide +kernel
theorem dX4_at_30 : decode cX4_at 30 = .ok (.dup, 1) := by decide +kernel
theorem dX4_at_31 : decode cX4_at 31 = .ok (.ldc 206, 2) := by decide +kernel
theorem dX4_at_33 : decode cX4_at 33 = .ok (.invokespecial 199, 3) := by decide +kernel
theorem dX4_at_36 : decode cX4_at 36 = .ok (.athrow, 1) := by decide +kernel
theorem dX4_at_37 : decode cX4_at 37 = .ok (.iload_n 3, 1) := by decide +kernel
theorem dX4_at_38 : decode cX4_at 38 = .ok (.ireturn, 1) := by decide +kernel
theorem dX4_taken_0 : decode cX4_taken 0 = .ok (.iload_n 1, 1) := by decide +kernel
theorem dX4_taken_1 : decode cX4_taken 1 = .ok (.iconst 0, 1) := by decide +kernel
theorem dX4_taken_2 : decode cX4_taken 2 = .ok (.iconst 2, 1) := by decide +kernel
theorem dX4_taken_3 : decode cX4_taken 3 = .ok (.invokestatic 46, 3) := by decide +kernel
theorem dX4_taken_6 : decode cX4_taken 6 = .ok (.iload_n 1, 1) := by decide +kernel
theorem dX4_taken_7 : decode cX4_taken 7 = .ok (.lookupswitch 55 #[(0, 25), (1, 40)], 25) := by decide +kernel
theorem dX4_taken_32 : decode cX4_taken 32 = .ok (.iload_n 2, 1) := by decide +kernel
theorem dX4_taken_33 : decode cX4_taken 33 = .ok (.bipush 6, 2) := by decide +kernel
theorem dX4_taken_35 : decode cX4_taken 35 = .ok (.invokestatic 42, 3) := by decide +kernel
theorem dX4_taken_38 : decode cX4_taken 38 = .ok (.aload_n 0, 1) := by decide +kernel
theorem dX4_taken_39 : decode cX4_taken 39 = .ok (.getfield 12, 3) := by decide +kernel
theorem dX4_taken_42 : decode cX4_taken 42 = .ok (.iload_n 2, 1) := by decide +kernel
theorem dX4_taken_43 : decode cX4_taken 43 = .ok (.invokevirtual 208, 3) := by decide +kernel
theorem dX4_taken_46 : decode cX4_taken 46 = .ok (.ireturn, 1) := by decide +kernel
theorem dX4_taken_47 : decode cX4_taken 47 = .ok (.iload_n 2, 1) := by decide +kernel
theorem dX4_taken_48 : decode cX4_taken 48 = .ok (.bipush 6, 2) := by decide +kernel
theorem dX4_taken_50 : decode cX4_taken 50 = .ok (.invokestatic 42, 3) := by decide +kernel
theorem dX4_taken_53 : decode cX4_taken 53 = .ok (.aload_n 0, 1) := by decide +kernel
theorem dX4_taken_54 : decode cX4_taken 54 = .ok (.getfield 12, 3) := by decide +kernel
theorem dX4_taken_57 : decode cX4_taken 57 = .ok (.iload_n 2, 1) := by decide +kernel
theorem dX4_taken_58 : decode cX4_taken 58 = .ok (.invokevirtual 211, 3) := by decide +kernel
theorem dX4_taken_61 : decode cX4_taken 61 = .ok (.ireturn, 1) := by decide +kernel
theorem dX4_taken_62 : decode cX4_taken 62 = .ok (.iload_n 2, 1) := by decide +kernel
theorem dX4_taken_63 : decode cX4_taken 63 = .ok (.bipush 6, 2) := by decide +kernel
theorem dX4_taken_65 : decode cX4_taken 65 = .ok (.invokestatic 42, 3) := by decide +kernel
theorem dX4_taken_68 : decode cX4_taken 68 = .ok (.aload_n 0, 1) := by decide +kernel
theorem dX4_taken_69 : decode cX4_taken 69 = .ok (.getfield 12, 3) := by decide +kernel
theorem dX4_taken_72 : decode cX4_taken 72 = .ok (.iload_n 2, 1) := by decide +kernel
theorem dX4_taken_73 : decode cX4_taken 73 = .ok (.invokevirtual 214, 3) := by decide +kernel
theorem dX4_taken_76 : decode cX4_taken 76 = .ok (.ireturn, 1) := by decide +kernel
theorem dX4_insert_0 : decode cX4_insert 0 = .ok (.aload_n 0, 1) := by decide +kernel
theorem dX4_insert_1 : decode cX4_insert 1 = .ok (.iload_n 1, 1) := by decide +kernel
theorem dX4_insert_2 : decode cX4_insert 2 = .ok (.invokevirtual 125, 3) := by decide +kernel
theorem dX4_insert_5 : decode cX4_insert 5 = .ok (.aload_n 0, 1) := by decide +kernel
theorem dX4_insert_6 : decode cX4_insert 6 = .ok (.getfield 12, 3) := by decide +kernel
theorem dX4_insert_9 : decode cX4_insert 9 = .ok (.getfield 150, 3) := by decide +kernel
theorem dX4_insert_12 : decode cX4_insert 12 = .ok (.iload_n 1, 1) := by decide +kernel
theorem dX4_insert_13 : decode cX4_insert 13 = .ok (.iaload, 1) := by decide +kernel
theorem dX4_insert_14 : decode cX4_insert 14 = .ok (.iconst (-1), 1) := by decide +kernel
theorem dX4_insert_15 : decode cX4_insert 15 = .ok (.if_icmp .eq 13, 3) := by decide +kernel
theorem dX4_insert_18 : decode cX4_insert 18 = .ok (.new 87, 3) := by decide +kernel
theorem dX4_insert_21 : decode cX4_insert 21 = .ok (.dup, 1) := by decide +kernel
theorem dX4_insert_22 : decode cX4_insert 22 = .ok (.ldc 217, 2) := by decide +kernel
theorem dX4_insert_24 : decode cX4_insert 24 = .ok (.invokespecial 91, 3) := by decide +kernel
theorem dX4_insert_27 : decode cX4_insert 27 = .ok (.athrow, 1) := by decide +kernel
theorem dX4_insert_28 : decode cX4_insert 28 = .ok (.aload_n 0, 1) := by decide +kernel
theorem dX4_insert_29 : decode cX4_insert 29 = .ok (.getfield 31, 3) := by decide +kernel
theorem dX4_insert_32 : decode cX4_insert 32 = .ok (.aload_n 0, 1) := by decide +kernel
theorem dX4_insert_33 : decode cX4_insert 33 = .ok (.getfield 12, 3) := by decide +kernel
theorem dX4_insert_36 : decode cX4_insert 36 = .ok (.invokevirtual 219, 3) := by decide +kernel
theorem dX4_insert_39 : decode cX4_insert 39 = .ok (.aload_n 0, 1) := by decide +kernel
theorem dX4_insert_40 : decode cX4_insert 40 = .ok (.getfield 24, 3) := by decide +kernel
theorem dX4_insert_43 : decode cX4_insert 43 = .ok (.iload_n 1, 1) := by decide +kernel
theorem dX4_insert_44 : decode cX4_insert 44 = .ok (.invokevirtual 222, 3) := by decide +kernel
theorem dX4_insert_47 : decode cX4_insert 47 = .ok (.istore_n 2, 1) := by decide +kernel
theorem dX4_insert_48 : decode cX4_insert 48 = .ok (.iload_n 2, 1) := by decide +kernel
theorem dX4_insert_49 : decode cX4_insert 49 = .ok (.iconst (-1), 1) := by decide +kernel
theorem dX4_insert_50 : decode cX4_insert 50 = .ok (.if_icmp .ne 13, 3) := by decide +kernel
theorem dX4_insert_53 : decode cX4_insert 53 = .ok (.new 171, 3) := by decide +kernel
theorem dX4_insert_56 : decode cX4_insert 56 = .ok (.dup, 1) := by decide +kernel
theorem dX4_insert_57 : decode cX4_insert 57 = .ok (.ldc 225, 2) := by decide +kernel
theorem dX4_insert_59 : decode cX4_insert 59 = .ok (.invokespecial 175, 3) := by decide +kernel
theorem dX4_insert_62 : decode cX4_insert 62 = .ok (.athrow, 1) := by decide +kernel
theorem dX4_insert_63 : decode cX4_insert 63 = .ok (.aload_n 0, 1) := by decide +kernel
theorem dX4_insert_64 : decode cX4_insert 64 = .ok (.getfield 31, 3) := by decide +kernel
theorem dX4_insert_67 : decode cX4_insert 67 = .ok (.invokevirtual 227, 3) := by decide +kernel
theorem dX4_insert_70 : decode cX4_insert 70 = .ok (.iload_n 2, 1) := by decide +kernel
theorem dX4_insert_71 : decode cX4_insert 71 = .ok (.ireturn, 1) := by decide +kernel
theorem dX4_build_0 : decode cX4_build 0 = .ok (.aload_n 0, 1) := by decide +kernel
theorem dX4_build_1 : decode cX4_build 1 = .ok (.getfield 31, 3) := by decide +kernel
theorem dX4_build_4 : decode cX4_build 4 = .ok (.aload_n 0, 1) := by decide +kernel
theorem dX4_build_5 : decode cX4_build 5 = .ok (.getfield 12, 3) := by decide +kernel
theorem dX4_build_8 : decode cX4_build 8 = .ok (.invokevirtual 50, 3) := by decide +kernel
theorem dX4_build_11 : decode cX4_build 11 = .ok (.aload_n 0, 1) := by decide +kernel
theorem dX4_build_12 : decode cX4_build 12 = .ok (.getfield 24, 3) := by decide +kernel
theorem dX4_build_15 : decode cX4_build 15 = .ok (.invokevirtual 230, 3) := by decide +kernel
theorem dX4_build_18 : decode cX4_build 18 = .ok (.iconst 0, 1) := by decide +kernel
theorem dX4_build_19 : decode cX4_build 19 = .ok (.istore_n 1, 1) := by decide +kernel
theorem dX4_build_20 : decode cX4_build 20 = .ok (.iload_n 1, 1) := by decide +kernel
theorem dX4_build_21 : decode cX4_build 21 = .ok (.bipush 14, 2) := by decide +kernel
theorem dX4_build_23 : decode cX4_build 23 = .ok (.if_icmp .ge 31, 3) := by decide +kernel
theorem dX4_build_26 : decode cX4_build 26 = .ok (.aload_n 0, 1) := by decide +kernel
theorem dX4_build_27 : decode cX4_build 27 = .ok (.getfield 24, 3) := by decide +kernel
theorem dX4_build_30 : decode cX4_build 30 = .ok (.invokevirtual 233, 3) := by decide +kernel
theorem dX4_build_33 : decode cX4_build 33 = .ok (.istore_n 2, 1) := by decide +kernel
theorem dX4_build_34 : decode cX4_build 34 = .ok (.iload_n 2, 1) := by decide +kernel
theorem dX4_build_35 : decode cX4_build 35 = .ok (.iconst (-1), 1) := by decide +kernel
theorem dX4_build_36 : decode cX4_build 36 = .ok (.if_icmp .eq 12, 3) := by decide +kernel
theorem dX4_build_39 : decode cX4_build 39 = .ok (.aload_n 0, 1) := by decide +kernel
theorem dX4_build_40 : decode cX4_build 40 = .ok (.getfield 24, 3) := by decide +kernel
theorem dX4_build_43 : decode cX4_build 43 = .ok (.iload_n 2, 1) := by decide +kernel
theorem dX4_build_44 : decode cX4_build 44 = .ok (.invokevirtual 222, 3) := by decide +kernel
theorem dX4_build_47 : decode cX4_build 47 = .ok (.pop, 1) := by decide +kernel
theorem dX4_build_48 : decode cX4_build 48 = .ok (.iinc 1 1, 3) := by decide +kernel
theorem dX4_build_51 : decode cX4_build 51 = .ok (.goto (-31), 3) := by decide +kernel
theorem dX4_build_54 : decode cX4_build 54 = .ok (.aload_n 0, 1) := by decide +kernel
theorem dX4_build_55 : decode cX4_build 55 = .ok (.getfield 12, 3) := by decide +kernel
theorem dX4_build_58 : decode cX4_build 58 = .ok (.invokevirtual 236, 3) := by decide +kernel
theorem dX4_build_61 : decode cX4_build 61 = .ok (.ireturn, 1) := by decide +kernel
theorem dX4_exchange_0 : decode cX4_exchange 0 = .ok (.aload_n 0, 1) := by decide +kernel
theorem dX4_exchange_1 : decode cX4_exchange 1 = .ok (.iload_n 1, 1) := by decide +kernel
theorem dX4_exchange_2 : decode cX4_exchange 2 = .ok (.iload_n 2, 1) := by decide +kernel
theorem dX4_exchange_3 : decode cX4_exchange 3 = .ok (.invokevirtual 239, 3) := by decide +kernel
theorem dX4_exchange_6 : decode cX4_exchange 6 = .ok (.istore_n 3, 1) := by decide +kernel
theorem dX4_exchange_7 : decode cX4_exchange 7 = .ok (.aload_n 0, 1) := by decide +kernel
theorem dX4_exchange_8 : decode cX4_exchange 8 = .ok (.getfield 12, 3) := by decide +kernel
theorem dX4_exchange_11 : decode cX4_exchange 11 = .ok (.iload_n 1, 1) := by decide +kernel
theorem dX4_exchange_12 : decode cX4_exchange 12 = .ok (.invokevirtual 242, 3) := by decide +kernel
theorem dX4_exchange_15 : decode cX4_exchange 15 = .ok (.istore 4, 2) := by decide +kernel
theorem dX4_exchange_17 : decode cX4_exchange 17 = .ok (.aload_n 0, 1) := by decide +kernel
theorem dX4_exchange_18 : decode cX4_exchange 18 = .ok (.getfield 24, 3) := by decide +kernel
theorem dX4_exchange_21 : decode cX4_exchange 21 = .ok (.iload_n 3, 1) := by decide +kernel
theorem dX4_exchange_22 : decode cX4_exchange 22 = .ok (.iload 4, 2) := by decide +kernel
theorem dX4_exchange_24 : decode cX4_exchange 24 = .ok (.iload_n 2, 1) := by decide +kernel
theorem dX4_exchange_25 : decode cX4_exchange 25 = .ok (.invokevirtual 245, 3) := by decide +kernel
theorem dX4_exchange_28 : decode cX4_exchange 28 = .ok (.ifCond .ne 13, 3) := by decide +kernel
theorem dX4_exchange_31 : decode cX4_exchange 31 = .ok (.new 171, 3) := by decide +kernel
theorem dX4_exchange_34 : decode cX4_exchange 34 = .ok (.dup, 1) := by decide +kernel
theorem dX4_exchange_35 : decode cX4_exchange 35 = .ok (.ldc 249, 2) := by decide +kernel
theorem dX4_exchange_37 : decode cX4_exchange 37 = .ok (.invokespecial 175, 3) := by decide +kernel
theorem dX4_exchange_40 : decode cX4_exchange 40 = .ok (.athrow, 1) := by decide +kernel
theorem dX4_exchange_41 : decode cX4_exchange 41 = .ok (.aload_n 0, 1) := by decide +kernel
theorem dX4_exchange_42 : decode cX4_exchange 42 = .ok (.getfield 31, 3) := by decide +kernel
theorem dX4_exchange_45 : decode cX4_exchange 45 = .ok (.aload_n 0, 1) := by decide +kernel
theorem dX4_exchange_46 : decode cX4_exchange 46 = .ok (.getfield 12, 3) := by decide +kernel
theorem dX4_exchange_49 : decode cX4_exchange 49 = .ok (.invokevirtual 50, 3) := by decide +kernel
theorem dX4_exchange_52 : decode cX4_exchange 52 = .ok (.aload_n 0, 1) := by decide +kernel
theorem dX4_exchange_53 : decode cX4_exchange 53 = .ok (.getfield 24, 3) := by decide +kernel
theorem dX4_exchange_56 : decode cX4_exchange 56 = .ok (.iload_n 3, 1) := by decide +kernel
theorem dX4_exchange_57 : decode cX4_exchange 57 = .ok (.iload 4, 2) := by decide +kernel
theorem dX4_exchange_59 : decode cX4_exchange 59 = .ok (.iload_n 2, 1) := by decide +kernel
theorem dX4_exchange_60 : decode cX4_exchange 60 = .ok (.invokevirtual 251, 3) := by decide +kernel
theorem dX4_exchange_63 : decode cX4_exchange 63 = .ok (.iload_n 3, 1) := by decide +kernel
theorem dX4_exchange_64 : decode cX4_exchange 64 = .ok (.invokestatic 254, 3) := by decide +kernel
theorem dX4_exchange_67 : decode cX4_exchange 67 = .ok (.ireturn, 1) := by decide +kernel
theorem dX4_chain_0 : decode cX4_chain 0 = .ok (.aload_n 0, 1) := by decide +kernel
theorem dX4_chain_1 : decode cX4_chain 1 = .ok (.iload_n 1, 1) := by decide +kernel
theorem dX4_chain_2 : decode cX4_chain 2 = .ok (.invokevirtual 125, 3) := by decide +kernel
theorem dX4_chain_5 : decode cX4_chain 5 = .ok (.iload_n 2, 1) := by decide +kernel
theorem dX4_chain_6 : decode cX4_chain 6 = .ok (.bipush 10, 2) := by decide +kernel
theorem dX4_chain_8 : decode cX4_chain 8 = .ok (.invokestatic 42, 3) := by decide +kernel
theorem dX4_chain_11 : decode cX4_chain 11 = .ok (.aload_n 0, 1) := by decide +kernel
theorem dX4_chain_12 : decode cX4_chain 12 = .ok (.iload_n 1, 1) := by decide +kernel
theorem dX4_chain_13 : decode cX4_chain 13 = .ok (.invokevirtual 182, 3) := by decide +kernel
theorem dX4_chain_16 : decode cX4_chain 16 = .ok (.aload_n 0, 1) := by decide +kernel
theorem dX4_chain_17 : decode cX4_chain 17 = .ok (.getfield 12, 3) := by decide +kernel
theorem dX4_chain_20 : decode cX4_chain 20 = .ok (.getfield 144, 3) := by decide +kernel
theorem dX4_chain_23 : decode cX4_chain 23 = .ok (.iload_n 1, 1) := by decide +kernel
theorem dX4_chain_24 : decode cX4_chain 24 = .ok (.iaload, 1) := by decide +kernel
theorem dX4_chain_25 : decode cX4_chain 25 = .ok (.iconst 2, 1) := by decide +kernel
theorem dX4_chain_26 : decode cX4_chain 26 = .ok (.if_icmp .eq 15, 3) := by decide +kernel
theorem dX4_chain_29 : decode cX4_chain 29 = .ok (.aload_n 0, 1) := by decide +kernel
theorem dX4_chain_30 : decode cX4_chain 30 = .ok (.getfield 12, 3) := by decide +kernel
theorem dX4_chain_33 : decode cX4_chain 33 = .ok (.iload_n 1, 1) := by decide +kernel
theorem dX4_chain_34 : decode cX4_chain 34 = .ok (.invokevirtual 242, 3) := by decide +kernel
theorem dX4_chain_37 : decode cX4_chain 37 = .ok (.iload_n 2, 1) := by decide +kernel
theorem dX4_chain_38 : decode cX4_chain 38 = .ok (.if_icmp .ne 14, 3) := by decide +kernel
theorem dX4_chain_41 : decode cX4_chain 41 = .ok (.new 87, 3) := by decide +kernel
theorem dX4_chain_44 : decode cX4_chain 44 = .ok (.dup, 1) := by decide +kernel
theorem dX4_chain_45 : decode cX4_chain 45 = .ok (.ldc_w 259, 3) := by decide +kernel
theorem dX4_chain_48 : decode cX4_chain 48 = .ok (.invokespecial 91, 3) := by decide +kernel
theorem dX4_chain_51 : decode cX4_chain 51 = .ok (.athrow, 1) := by decide +kernel
theorem dX4_chain_52 : decode cX4_chain 52 = .ok (.aload_n 0, 1) := by decide +kernel
theorem dX4_chain_53 : decode cX4_chain 53 = .ok (.getfield 24, 3) := by decide +kernel
theorem dX4_chain_56 : decode cX4_chain 56 = .ok (.iload_n 1, 1) := by decide +kernel
theorem dX4_chain_57 : decode cX4_chain 57 = .ok (.iload_n 2, 1) := by decide +kernel
theorem dX4_chain_58 : decode cX4_chain 58 = .ok (.invokevirtual 261, 3) := by decide +kernel
theorem dX4_chain_61 : decode cX4_chain 61 = .ok (.ireturn, 1) := by decide +kernel
theorem dX4_improve_0 : decode cX4_improve 0 = .ok (.iload_n 1, 1) := by decide +kernel
theorem dX4_improve_1 : decode cX4_improve 1 = .ok (.iconst 1, 1) := by decide +kernel
theorem dX4_improve_2 : decode cX4_improve 2 = .ok (.iconst 5, 1) := by decide +kernel
theorem dX4_improve_3 : decode cX4_improve 3 = .ok (.invokestatic 46, 3) := by decide +kernel
theorem dX4_improve_6 : decode cX4_improve 6 = .ok (.aload_n 0, 1) := by decide +kernel
theorem dX4_improve_7 : decode cX4_improve 7 = .ok (.getfield 31, 3) := by decide +kernel
theorem dX4_improve_10 : decode cX4_improve 10 = .ok (.aload_n 0, 1) := by decide +kernel
theorem dX4_improve_11 : decode cX4_improve 11 = .ok (.getfield 12, 3) := by decide +kernel
theorem dX4_improve_14 : decode cX4_improve 14 = .ok (.invokevirtual 50, 3) := by decide +kernel
theorem dX4_improve_17 : decode cX4_improve 17 = .ok (.iconst 0, 1) := by decide +kernel
theorem dX4_improve_18 : decode cX4_improve 18 = .ok (.istore_n 2, 1) := by decide +kernel
theorem dX4_improve_19 : decode cX4_improve 19 = .ok (.iload_n 2, 1) := by decide +kernel
theorem dX4_improve_20 : decode cX4_improve 20 = .ok (.iload_n 1, 1) := by decide +kernel
theorem dX4_improve_21 : decode cX4_improve 21 = .ok (.if_icmp .ge 21, 3) := by decide +kernel
theorem dX4_improve_24 : decode cX4_improve 24 = .ok (.aload_n 0, 1) := by decide +kernel
theorem dX4_improve_25 : decode cX4_improve 25 = .ok (.getfield 24, 3) := by decide +kernel
theorem dX4_improve_28 : decode cX4_improve 28 = .ok (.invokevirtual 264, 3) := by decide +kernel
theorem dX4_improve_31 : decode cX4_improve 31 = .ok (.ifCond .ne 5, 3) := by decide +kernel
theorem dX4_improve_34 : decode cX4_improve 34 = .ok (.iload_n 2, 1) := by decide +kernel
theorem dX4_improve_35 : decode cX4_improve 35 = .ok (.ireturn, 1) := by decide +kernel
theorem dX4_improve_36 : decode cX4_improve 36 = .ok (.iinc 2 1, 3) := by decide +kernel
theorem dX4_improve_39 : decode cX4_improve 39 = .ok (.goto (-20), 3) := by decide +kernel
theorem dX4_improve_42 : decode cX4_improve 42 = .ok (.iload_n 1, 1) := by decide +kernel
theorem dX4_improve_43 : decode cX4_improve 43 = .ok (.ireturn, 1) := by decide +kernel
theorem dX4_cost_0 : decode cX4_cost 0 = .ok (.iload_n 1, 1) := by decide +kernel
theorem dX4_cost_1 : decode cX4_cost 1 = .ok (.tableswitch 75 0 4 #[35, 43, 51, 59, 67], 35) := by decide +kernel
theorem dX4_cost_36 : decode cX4_cost 36 = .ok (.aload_n 0, 1) := by decide +kernel
theorem dX4_cost_37 : decode cX4_cost 37 = .ok (.getfield 12, 3) := by decide +kernel
theorem dX4_cost_40 : decode cX4_cost 40 = .ok (.invokevirtual 267, 3) := by decide +kernel
theorem dX4_cost_43 : decode cX4_cost 43 = .ok (.ireturn, 1) := by decide +kernel
theorem dX4_cost_44 : decode cX4_cost 44 = .ok (.aload_n 0, 1) := by decide +kernel
theorem dX4_cost_45 : decode cX4_cost 45 = .ok (.getfield 12, 3) := by decide +kernel
theorem dX4_cost_48 : decode cX4_cost 48 = .ok (.invokevirtual 270, 3) := by decide +kernel
theorem dX4_cost_51 : decode cX4_cost 51 = .ok (.ireturn, 1) := by decide +kernel
theorem dX4_cost_52 : decode cX4_cost 52 = .ok (.aload_n 0, 1) := by decide +kernel
theorem dX4_cost_53 : decode cX4_cost 53 = .ok (.getfield 12, 3) := by decide +kernel
theorem dX4_cost_56 : decode cX4_cost 56 = .ok (.invokevirtual 273, 3) := by decide +kernel
theorem dX4_cost_59 : decode cX4_cost 59 = .ok (.ireturn, 1) := by decide +kernel
theorem dX4_cost_60 : decode cX4_cost 60 = .ok (.aload_n 0, 1) := by decide +kernel
theorem dX4_cost_61 : decode cX4_cost 61 = .ok (.getfield 12, 3) := by decide +kernel
theorem dX4_cost_64 : decode cX4_cost 64 = .ok (.invokevirtual 236, 3) := by decide +kernel
theorem dX4_cost_67 : decode cX4_cost 67 = .ok (.ireturn, 1) := by decide +kernel
theorem dX4_cost_68 : decode cX4_cost 68 = .ok (.aload_n 0, 1) := by decide +kernel
theorem dX4_cost_69 : decode cX4_cost 69 = .ok (.getfield 12, 3) := by decide +kernel
theorem dX4_cost_72 : decode cX4_cost 72 = .ok (.invokevirtual 276, 3) := by decide +kernel
theorem dX4_cost_75 : decode cX4_cost 75 = .ok (.ireturn, 1) := by decide +kernel
theorem dX4_cost_76 : decode cX4_cost 76 = .ok (.new 77, 3) := by decide +kernel
theorem dX4_cost_79 : decode cX4_cost 79 = .ok (.dup, 1) := by decide +kernel
theorem dX4_cost_80 : decode cX4_cost 80 = .ok (.ldc 157, 2) := by decide +kernel
theorem dX4_cost_82 : decode cX4_cost 82 = .ok (.invokespecial 81, 3) := by decide +kernel
theorem dX4_cost_85 : decode cX4_cost 85 = .ok (.athrow, 1) := by decide +kernel
theorem dX4_costAt_0 : decode cX4_costAt 0 = .ok (.aload_n 0, 1) := by decide +kernel
theorem dX4_costAt_1 : decode cX4_costAt 1 = .ok (.iload_n 1, 1) := by decide +kernel
theorem dX4_costAt_2 : decode cX4_costAt 2 = .ok (.invokevirtual 125, 3) := by decide +kernel
theorem dX4_costAt_5 : decode cX4_costAt 5 = .ok (.iload_n 2, 1) := by decide +kernel
theorem dX4_costAt_6 : decode cX4_costAt 6 = .ok (.bipush 60, 2) := by decide +kernel
theorem dX4_costAt_8 : decode cX4_costAt 8 = .ok (.invokestatic 42, 3) := by decide +kernel
theorem dX4_costAt_11 : decode cX4_costAt 11 = .ok (.aload_n 0, 1) := by decide +kernel
theorem dX4_costAt_12 : decode cX4_costAt 12 = .ok (.iload_n 1, 1) := by decide +kernel
theorem dX4_costAt_13 : decode cX4_costAt 13 = .ok (.iload_n 2, 1) := by decide +kernel
theorem dX4_costAt_14 : decode cX4_costAt 14 = .ok (.invokevirtual 176, 3) := by decide +kernel
theorem dX4_costAt_17 : decode cX4_costAt 17 = .ok (.aload_n 0, 1) := by decide +kernel
theorem dX4_costAt_18 : decode cX4_costAt 18 = .ok (.getfield 12, 3) := by decide +kernel
theorem dX4_costAt_21 : decode cX4_costAt 21 = .ok (.iload_n 1, 1) := by decide +kernel
theorem dX4_costAt_22 : decode cX4_costAt 22 = .ok (.iload_n 2, 1) := by decide +kernel
theorem dX4_costAt_23 : decode cX4_costAt 23 = .ok (.invokevirtual 279, 3) := by decide +kernel
theorem dX4_costAt_26 : decode cX4_costAt 26 = .ok (.ireturn, 1) := by decide +kernel
theorem dX4_mark_0 : decode cX4_mark 0 = .ok (.aload_n 0, 1) := by decide +kernel
theorem dX4_mark_1 : decode cX4_mark 1 = .ok (.getfield 31, 3) := by decide +kernel
theorem dX4_mark_4 : decode cX4_mark 4 = .ok (.aload_n 0, 1) := by decide +kernel
theorem dX4_mark_5 : decode cX4_mark 5 = .ok (.getfield 12, 3) := by decide +kernel
theorem dX4_mark_8 : decode cX4_mark 8 = .ok (.invokevirtual 50, 3) := by decide +kernel
theorem dX4_mark_11 : decode cX4_mark 11 = .ok (.aload_n 0, 1) := by decide +kernel
theorem dX4_mark_12 : decode cX4_mark 12 = .ok (.getfield 12, 3) := by decide +kernel
theorem dX4_mark_15 : decode cX4_mark 15 = .ok (.getfield 150, 3) := by decide +kernel
theorem dX4_mark_18 : decode cX4_mark 18 = .ok (.iconst 0, 1) := by decide +kernel
theorem dX4_mark_19 : decode cX4_mark 19 = .ok (.aload_n 0, 1) := by decide +kernel
theorem dX4_mark_20 : decode cX4_mark 20 = .ok (.getfield 12, 3) := by decide +kernel
theorem dX4_mark_23 : decode cX4_mark 23 = .ok (.getfield 282, 3) := by decide +kernel
theorem dX4_mark_26 : decode cX4_mark 26 = .ok (.iconst 0, 1) := by decide +kernel
theorem dX4_mark_27 : decode cX4_mark 27 = .ok (.bipush 14, 2) := by decide +kernel
theorem dX4_mark_29 : decode cX4_mark 29 = .ok (.invokestatic 285, 3) := by decide +kernel
theorem dX4_mark_32 : decode cX4_mark 32 = .ok (.aload_n 0, 1) := by decide +kernel
theorem dX4_mark_33 : decode cX4_mark 33 = .ok (.getfield 12, 3) := by decide +kernel
theorem dX4_mark_36 : decode cX4_mark 36 = .ok (.invokevirtual 291, 3) := by decide +kernel
theorem dX4_mark_39 : decode cX4_mark 39 = .ok (.ireturn, 1) := by decide +kernel
theorem dX4_changed_0 : decode cX4_changed 0 = .ok (.iconst 0, 1) := by decide +kernel
theorem dX4_changed_1 : decode cX4_changed 1 = .ok (.istore_n 1, 1) := by decide +kernel
theorem dX4_changed_2 : decode cX4_changed 2 = .ok (.iconst 0, 1) := by decide +kernel
theorem dX4_changed_3 : decode cX4_changed 3 = .ok (.istore_n 2, 1) := by decide +kernel
theorem dX4_changed_4 : decode cX4_changed 4 = .ok (.iload_n 2, 1) := by decide +kernel
theorem dX4_changed_5 : decode cX4_changed 5 = .ok (.bipush 14, 2) := by decide +kernel
theorem dX4_changed_7 : decode cX4_changed 7 = .ok (.if_icmp .ge 36, 3) := by decide +kernel
theorem dX4_changed_10 : decode cX4_changed 10 = .ok (.aload_n 0, 1) := by decide +kernel
theorem dX4_changed_11 : decode cX4_changed 11 = .ok (.getfield 12, 3) := by decide +kernel
theorem dX4_changed_14 : decode cX4_changed 14 = .ok (.getfield 150, 3) := by decide +kernel
theorem dX4_changed_17 : decode cX4_changed 17 = .ok (.iload_n 2, 1) := by decide +kernel
theorem dX4_changed_18 : decode cX4_changed 18 = .ok (.iaload, 1) := by decide +kernel
theorem dX4_changed_19 : decode cX4_changed 19 = .ok (.aload_n 0, 1) := by decide +kernel
theorem dX4_changed_20 : decode cX4_changed 20 = .ok (.getfield 12, 3) := by decide +kernel
theorem dX4_changed_23 : decode cX4_changed 23 = .ok (.getfield 282, 3) := by decide +kernel
theorem dX4_changed_26 : decode cX4_changed 26 = .ok (.iload_n 2, 1) := by decide +kernel
theorem dX4_changed_27 : decode cX4_changed 27 = .ok (.iaload, 1) := by decide +kernel
theorem dX4_changed_28 : decode cX4_changed 28 = .ok (.if_icmp .eq 9, 3) := by decide +kernel
theorem dX4_changed_31 : decode cX4_changed 31 = .ok (.iload_n 1, 1) := by decide +kernel
theorem dX4_changed_32 : decode cX4_changed 32 = .ok (.iconst 1, 1) := by decide +kernel
theorem dX4_changed_33 : decode cX4_changed 33 = .ok (.iload_n 2, 1) := by decide +kernel
theorem dX4_changed_34 : decode cX4_changed 34 = .ok (.ishl, 1) := by decide +kernel
theorem dX4_changed_35 : decode cX4_changed 35 = .ok (.ior, 1) := by decide +kernel
theorem dX4_changed_36 : decode cX4_changed 36 = .ok (.istore_n 1, 1) := by decide +kernel
theorem dX4_changed_37 : decode cX4_changed 37 = .ok (.iinc 2 1, 3) := by decide +kernel
theorem dX4_changed_40 : decode cX4_changed 40 = .ok (.goto (-36), 3) := by decide +kernel
theorem dX4_changed_43 : decode cX4_changed 43 = .ok (.iload_n 1, 1) := by decide +kernel
theorem dX4_changed_44 : decode cX4_changed 44 = .ok (.ireturn, 1) := by decide +kernel
theorem dX4_marked_0 : decode cX4_marked 0 = .ok (.aload_n 0, 1) := by decide +kernel
theorem dX4_marked_1 : decode cX4_marked 1 = .ok (.iload_n 1, 1) := by decide +kernel
theorem dX4_marked_2 : decode cX4_marked 2 = .ok (.invokevirtual 125, 3) := by decide +kernel
theorem dX4_marked_5 : decode cX4_marked 5 = .ok (.aload_n 0, 1) := by decide +kernel
theorem dX4_marked_6 : decode cX4_marked 6 = .ok (.getfield 12, 3) := by decide +kernel
theorem dX4_marked_9 : decode cX4_marked 9 = .ok (.getfield 282, 3) := by decide +kernel
theorem dX4_marked_12 : decode cX4_marked 12 = .ok (.iload_n 1, 1) := by decide +kernel
theorem dX4_marked_13 : decode cX4_marked 13 = .ok (.iaload, 1) := by decide +kernel
theorem dX4_marked_14 : decode cX4_marked 14 = .ok (.ireturn, 1) := by decide +kernel
theorem dX4_count_0 : decode cX4_count 0 = .ok (.iload_n 1, 1) := by decide +kernel
theorem dX4_count_1 : decode cX4_count 1 = .ok (.tableswitch 75 0 4 #[35, 43, 51, 59, 67], 35) := by decide +kernel
theorem dX4_count_36 : decode cX4_count 36 = .ok (.aload_n 0, 1) := by decide +kernel
theorem dX4_count_37 : decode cX4_count 37 = .ok (.getfield 12, 3) := by decide +kernel
theorem dX4_count_40 : decode cX4_count 40 = .ok (.getfield 132, 3) := by decide +kernel
theorem dX4_count_43 : decode cX4_count 43 = .ok (.ireturn, 1) := by decide +kernel
theorem dX4_count_44 : decode cX4_count 44 = .ok (.aload_n 0, 1) := by decide +kernel
theorem dX4_count_45 : decode cX4_count 45 = .ok (.getfield 12, 3) := by decide +kernel
theorem dX4_count_48 : decode cX4_count 48 = .ok (.invokevirtual 291, 3) := by decide +kernel
theorem dX4_count_51 : decode cX4_count 51 = .ok (.ireturn, 1) := by decide +kernel
theorem dX4_count_52 : decode cX4_count 52 = .ok (.aload_n 0, 1) := by decide +kernel
theorem dX4_count_53 : decode cX4_count 53 = .ok (.getfield 12, 3) := by decide +kernel
theorem dX4_count_56 : decode cX4_count 56 = .ok (.invokevirtual 294, 3) := by decide +kernel
theorem dX4_count_59 : decode cX4_count 59 = .ok (.ireturn, 1) := by decide +kernel
theorem dX4_count_60 : decode cX4_count 60 = .ok (.aload_n 0, 1) := by decide +kernel
theorem dX4_count_61 : decode cX4_count 61 = .ok (.getfield 38, 3) := by decide +kernel
theorem dX4_count_64 : decode cX4_count 64 = .ok (.getfield 297, 3) := by decide +kernel
theorem dX4_count_67 : decode cX4_count 67 = .ok (.ireturn, 1) := by decide +kernel
theorem dX4_count_68 : decode cX4_count 68 = .ok (.aload_n 0, 1) := by decide +kernel
theorem dX4_count_69 : decode cX4_count 69 = .ok (.getfield 31, 3) := by decide +kernel
theorem dX4_count_72 : decode cX4_count 72 = .ok (.getfield 300, 3) := by decide +kernel
theorem dX4_count_75 : decode cX4_count 75 = .ok (.ireturn, 1) := by decide +kernel
theorem dX4_count_76 : decode cX4_count 76 = .ok (.new 77, 3) := by decide +kernel
theorem dX4_count_79 : decode cX4_count 79 = .ok (.dup, 1) := by decide +kernel
theorem dX4_count_80 : decode cX4_count 80 = .ok (.ldc 157, 2) := by decide +kernel
theorem dX4_count_82 : decode cX4_count 82 = .ok (.invokespecial 81, 3) := by decide +kernel
theorem dX4_count_85 : decode cX4_count 85 = .ok (.athrow, 1) := by decide +kernel
theorem dX4_undo_0 : decode cX4_undo 0 = .ok (.aload_n 0, 1) := by decide +kernel
theorem dX4_undo_1 : decode cX4_undo 1 = .ok (.getfield 31, 3) := by decide +kernel
theorem dX4_undo_4 : decode cX4_undo 4 = .ok (.getfield 300, 3) := by decide +kernel
theorem dX4_undo_7 : decode cX4_undo 7 = .ok (.ifCond .ne 14, 3) := by decide +kernel
theorem dX4_undo_10 : decode cX4_undo 10 = .ok (.new 87, 3) := by decide +kernel
theorem dX4_undo_13 : decode cX4_undo 13 = .ok (.dup, 1) := by decide +kernel
theorem dX4_undo_14 : decode cX4_undo 14 = .ok (.ldc_w 303, 3) := by decide +kernel
theorem dX4_undo_17 : decode cX4_undo 17 = .ok (.invokespecial 91, 3) := by decide +kernel
theorem dX4_undo_20 : decode cX4_undo 20 = .ok (.athrow, 1) := by decide +kernel
theorem dX4_undo_21 : decode cX4_undo 21 = .ok (.aload_n 0, 1) := by decide +kernel
theorem dX4_undo_22 : decode cX4_undo 22 = .ok (.getfield 31, 3) := by decide +kernel
theorem dX4_undo_25 : decode cX4_undo 25 = .ok (.aload_n 0, 1) := by decide +kernel
theorem dX4_undo_26 : decode cX4_undo 26 = .ok (.getfield 12, 3) := by decide +kernel
theorem dX4_undo_29 : decode cX4_undo 29 = .ok (.invokevirtual 305, 3) := by decide +kernel
theorem dX4_undo_32 : decode cX4_undo 32 = .ok (.aload_n 0, 1) := by decide +kernel
theorem dX4_undo_33 : decode cX4_undo 33 = .ok (.getfield 31, 3) := by decide +kernel
theorem dX4_undo_36 : decode cX4_undo 36 = .ok (.getfield 300, 3) := by decide +kernel
theorem dX4_undo_39 : decode cX4_undo 39 = .ok (.ireturn, 1) := by decide +kernel
theorem dX4_save_0 : decode cX4_save 0 = .ok (.aload_n 0, 1) := by decide +kernel
theorem dX4_save_1 : decode cX4_save 1 = .ok (.getfield 16, 3) := by decide +kernel
theorem dX4_save_4 : decode cX4_save 4 = .ok (.aload_n 0, 1) := by decide +kernel
theorem dX4_save_5 : decode cX4_save 5 = .ok (.getfield 12, 3) := by decide +kernel
theorem dX4_save_8 : decode cX4_save 8 = .ok (.invokevirtual 308, 3) := by decide +kernel
theorem dX4_save_11 : decode cX4_save 11 = .ok (.aload_n 0, 1) := by decide +kernel
theorem dX4_save_12 : decode cX4_save 12 = .ok (.iconst 1, 1) := by decide +kernel
theorem dX4_save_13 : decode cX4_save 13 = .ok (.putfield 311, 3) := by decide +kernel
theorem dX4_save_16 : decode cX4_save 16 = .ok (.aload_n 0, 1) := by decide +kernel
theorem dX4_save_17 : decode cX4_save 17 = .ok (.getfield 12, 3) := by decide +kernel
theorem dX4_save_20 : decode cX4_save 20 = .ok (.getfield 132, 3) := by decide +kernel
theorem dX4_save_23 : decode cX4_save 23 = .ok (.ireturn, 1) := by decide +kernel
theorem dX4_restore_0 : decode cX4_restore 0 = .ok (.aload_n 0, 1) := by decide +kernel
theorem dX4_restore_1 : decode cX4_restore 1 = .ok (.getfield 311, 3) := by decide +kernel
theorem dX4_restore_4 : decode cX4_restore 4 = .ok (.ifCond .ne 14, 3) := by decide +kernel
theorem dX4_restore_7 : decode cX4_restore 7 = .ok (.new 87, 3) := by decide +kernel
theorem dX4_restore_10 : decode cX4_restore 10 = .ok (.dup, 1) := by decide +kernel
theorem dX4_restore_11 : decode cX4_restore 11 = .ok (.ldc_w 315, 3) := by decide +kernel
theorem dX4_restore_14 : decode cX4_restore 14 = .ok (.invokespecial 91, 3) := by decide +kernel
theorem dX4_restore_17 : decode cX4_restore 17 = .ok (.athrow, 1) := by decide +kernel
theorem dX4_restore_18 : decode cX4_restore 18 = .ok (.aload_n 0, 1) := by decide +kernel
theorem dX4_restore_19 : decode cX4_restore 19 = .ok (.getfield 31, 3) := by decide +kernel
theorem dX4_restore_22 : decode cX4_restore 22 = .ok (.aload_n 0, 1) := by decide +kernel
theorem dX4_restore_23 : decode cX4_restore 23 = .ok (.getfield 12, 3) := by decide +kernel
theorem dX4_restore_26 : decode cX4_restore 26 = .ok (.invokevirtual 50, 3) := by decide +kernel
theorem dX4_restore_29 : decode cX4_restore 29 = .ok (.aload_n 0, 1) := by decide +kernel
theorem dX4_restore_30 : decode cX4_restore 30 = .ok (.getfield 12, 3) := by decide +kernel
theorem dX4_restore_33 : decode cX4_restore 33 = .ok (.aload_n 0, 1) := by decide +kernel
theorem dX4_restore_34 : decode cX4_restore 34 = .ok (.getfield 16, 3) := by decide +kernel
theorem dX4_restore_37 : decode cX4_restore 37 = .ok (.invokevirtual 308, 3) := by decide +kernel
theorem dX4_restore_40 : decode cX4_restore 40 = .ok (.aload_n 0, 1) := by decide +kernel
theorem dX4_restore_41 : decode cX4_restore 41 = .ok (.getfield 12, 3) := by decide +kernel
theorem dX4_restore_44 : decode cX4_restore 44 = .ok (.getfield 132, 3) := by decide +kernel
theorem dX4_restore_47 : decode cX4_restore 47 = .ok (.ireturn, 1) := by decide +kernel
theorem dX4_requireIndex_0 : decode cX4_requireIndex 0 = .ok (.iload_n 0, 1) := by decide +kernel
theorem dX4_requireIndex_1 : decode cX4_requireIndex 1 = .ok (.ifCond .lt 8, 3) := by decide +kernel
theorem dX4_requireIndex_4 : decode cX4_requireIndex 4 = .ok (.iload_n 0, 1) := by decide +kernel
theorem dX4_requireIndex_5 : decode cX4_requireIndex 5 = .ok (.iload_n 1, 1) := by decide +kernel
theorem dX4_requireIndex_6 : decode cX4_requireIndex 6 = .ok (.if_icmp .lt 13, 3) := by decide +kernel
theorem dX4_requireIndex_9 : decode cX4_requireIndex 9 = .ok (.new 317, 3) := by decide +kernel
theorem dX4_requireIndex_12 : decode cX4_requireIndex 12 = .ok (.dup, 1) := by decide +kernel
theorem dX4_requireIndex_13 : decode cX4_requireIndex 13 = .ok (.ldc 197, 2) := by decide +kernel
theorem dX4_requireIndex_15 : decode cX4_requireIndex 15 = .ok (.invokespecial 319, 3) := by decide +kernel
theorem dX4_requireIndex_18 : decode cX4_requireIndex 18 = .ok (.athrow, 1) := by decide +kernel
theorem dX4_requireIndex_19 : decode cX4_requireIndex 19 = .ok (.return_, 1) := by decide +kernel
theorem dX4_requireRange_0 : decode cX4_requireRange 0 = .ok (.iload_n 0, 1) := by decide +kernel
theorem dX4_requireRange_1 : decode cX4_requireRange 1 = .ok (.iload_n 1, 1) := by decide +kernel
theorem dX4_requireRange_2 : decode cX4_requireRange 2 = .ok (.if_icmp .lt 8, 3) := by decide +kernel
theorem dX4_requireRange_5 : decode cX4_requireRange 5 = .ok (.iload_n 0, 1) := by decide +kernel
theorem dX4_requireRange_6 : decode cX4_requireRange 6 = .ok (.iload_n 2, 1) := by decide +kernel
theorem dX4_requireRange_7 : decode cX4_requireRange 7 = .ok (.if_icmp .le 13, 3) := by decide +kernel
theorem dX4_requireRange_10 : decode cX4_requireRange 10 = .ok (.new 77, 3) := by decide +kernel
theorem dX4_requireRange_13 : decode cX4_requireRange 13 = .ok (.dup, 1) := by decide +kernel
theorem dX4_requireRange_14 : decode cX4_requireRange 14 = .ok (.ldc 157, 2) := by decide +kernel
theorem dX4_requireRange_16 : decode cX4_requireRange 16 = .ok (.invokespecial 81, 3) := by decide +kernel
theorem dX4_requireRange_19 : decode cX4_requireRange 19 = .ok (.athrow, 1) := by decide +kernel
theorem dX4_requireRange_20 : decode cX4_requireRange 20 = .ok (.return_, 1) := by decide +kernel
theorem dX4_requireEvent_0 : decode cX4_requireEvent 0 = .ok (.aload_n 0, 1) := by decide +kernel
theorem dX4_requireEvent_1 : decode cX4_requireEvent 1 = .ok (.getfield 12, 3) := by decide +kernel
theorem dX4_requireEvent_4 : decode cX4_requireEvent 4 = .ok (.iload_n 1, 1) := by decide +kernel
theorem dX4_requireEvent_5 : decode cX4_requireEvent 5 = .ok (.invokevirtual 320, 3) := by decide +kernel
theorem dX4_requireEvent_8 : decode cX4_requireEvent 8 = .ok (.ifCond .ne 14, 3) := by decide +kernel
theorem dX4_requireEvent_11 : decode cX4_requireEvent 11 = .ok (.new 317, 3) := by decide +kernel
theorem dX4_requireEvent_14 : decode cX4_requireEvent 14 = .ok (.dup, 1) := by decide +kernel
theorem dX4_requireEvent_15 : decode cX4_requireEvent 15 = .ok (.ldc_w 323, 3) := by decide +kernel
theorem dX4_requireEvent_18 : decode cX4_requireEvent 18 = .ok (.invokespecial 319, 3) := by decide +kernel
theorem dX4_requireEvent_21 : decode cX4_requireEvent 21 = .ok (.athrow, 1) := by decide +kernel
theorem dX4_requireEvent_22 : decode cX4_requireEvent 22 = .ok (.return_, 1) := by decide +kernel
theorem dX4_requireRoomForEvent_0 : decode cX4_requireRoomForEvent 0 = .ok (.aload_n 0, 1) := by decide +kernel
theorem dX4_requireRoomForEvent_1 : decode cX4_requireRoomForEvent 1 = .ok (.getfield 12, 3) := by decide +kernel
theorem dX4_requireRoomForEvent_4 : decode cX4_requireRoomForEvent 4 = .ok (.getfield 132, 3) := by decide +kernel
theorem dX4_requireRoomForEvent_7 : decode cX4_requireRoomForEvent 7 = .ok (.bipush 14, 2) := by decide +kernel
theorem dX4_requireRoomForEvent_9 : decode cX4_requireRoomForEvent 9 = .ok (.if_icmp .lt 14, 3) := by decide +kernel
theorem dX4_requireRoomForEvent_12 : decode cX4_requireRoomForEvent 12 = .ok (.new 87, 3) := by decide +kernel
theorem dX4_requireRoomForEvent_15 : decode cX4_requireRoomForEvent 15 = .ok (.dup, 1) := by decide +kernel
theorem dX4_requireRoomForEvent_16 : decode cX4_requireRoomForEvent 16 = .ok (.ldc_w 325, 3) := by decide +kernel
theorem dX4_requireRoomForEvent_19 : decode cX4_requireRoomForEvent 19 = .ok (.invokespecial 91, 3) := by decide +kernel
theorem dX4_requireRoomForEvent_22 : decode cX4_requireRoomForEvent 22 = .ok (.athrow, 1) := by decide +kernel
theorem dX4_requireRoomForEvent_23 : decode cX4_requireRoomForEvent 23 = .ok (.return_, 1) := by decide +kernel
theorem dX4_requirePlaced_0 : decode cX4_requirePlaced 0 = .ok (.aload_n 0, 1) := by decide +kernel
theorem dX4_requirePlaced_1 : decode cX4_requirePlaced 1 = .ok (.getfield 12, 3) := by decide +kernel
theorem dX4_requirePlaced_4 : decode cX4_requirePlaced 4 = .ok (.getfield 150, 3) := by decide +kernel
theorem dX4_requirePlaced_7 : decode cX4_requirePlaced 7 = .ok (.iload_n 1, 1) := by decide +kernel
theorem dX4_requirePlaced_8 : decode cX4_requirePlaced 8 = .ok (.iaload, 1) := by decide +kernel
theorem dX4_requirePlaced_9 : decode cX4_requirePlaced 9 = .ok (.iconst (-1), 1) := by decide +kernel
theorem dX4_requirePlaced_10 : decode cX4_requirePlaced 10 = .ok (.if_icmp .ne 14, 3) := by decide +kernel
theorem dX4_requirePlaced_13 : decode cX4_requirePlaced 13 = .ok (.new 87, 3) := by decide +kernel
theorem dX4_requirePlaced_16 : decode cX4_requirePlaced 16 = .ok (.dup, 1) := by decide +kernel
theorem dX4_requirePlaced_17 : decode cX4_requirePlaced 17 = .ok (.ldc_w 327, 3) := by decide +kernel
theorem dX4_requirePlaced_20 : decode cX4_requirePlaced 20 = .ok (.invokespecial 91, 3) := by decide +kernel
theorem dX4_requirePlaced_23 : decode cX4_requirePlaced 23 = .ok (.athrow, 1) := by decide +kernel
theorem dX4_requirePlaced_24 : decode cX4_requirePlaced 24 = .ok (.return_, 1) := by decide +kernel
theorem dX4_requireFree_0 : decode cX4_requireFree 0 = .ok (.aload_n 0, 1) := by decide +kernel
theorem dX4_requireFree_1 : decode cX4_requireFree 1 = .ok (.getfield 12, 3) := by decide +kernel
theorem dX4_requireFree_4 : decode cX4_requireFree 4 = .ok (.iload_n 1, 1) := by decide +kernel
theorem dX4_requireFree_5 : decode cX4_requireFree 5 = .ok (.iload_n 2, 1) := by decide +kernel
theorem dX4_requireFree_6 : decode cX4_requireFree 6 = .ok (.invokevirtual 188, 3) := by decide +kernel
theorem dX4_requireFree_9 : decode cX4_requireFree 9 = .ok (.ifCond .eq 14, 3) := by decide +kernel
theorem dX4_requireFree_12 : decode cX4_requireFree 12 = .ok (.new 87, 3) := by decide +kernel
theorem dX4_requireFree_15 : decode cX4_requireFree 15 = .ok (.dup, 1) := by decide +kernel
theorem dX4_requireFree_16 : decode cX4_requireFree 16 = .ok (.ldc_w 329, 3) := by decide +kernel
theorem dX4_requireFree_19 : decode cX4_requireFree 19 = .ok (.invokespecial 91, 3) := by decide +kernel
theorem dX4_requireFree_22 : decode cX4_requireFree 22 = .ok (.athrow, 1) := by decide +kernel
theorem dX4_requireFree_23 : decode cX4_requireFree 23 = .ok (.return_, 1) := by decide +kernel
theorem dX4_contains_0 : decode cX4_contains 0 = .ok (.iload_n 0, 1) := by decide +kernel
theorem dX4_contains_1 : decode cX4_contains 1 = .ok (.iload_n 1, 1) := by decide +kernel
theorem dX4_contains_2 : decode cX4_contains 2 = .ok (.ishr, 1) := by decide +kernel
theorem dX4_contains_3 : decode cX4_contains 3 = .ok (.iconst 1, 1) := by decide +kernel
theorem dX4_contains_4 : decode cX4_contains 4 = .ok (.iand, 1) := by decide +kernel
theorem dX4_contains_5 : decode cX4_contains 5 = .ok (.ifCond .eq 7, 3) := by decide +kernel
theorem dX4_contains_8 : decode cX4_contains 8 = .ok (.iconst 1, 1) := by decide +kernel
theorem dX4_contains_9 : decode cX4_contains 9 = .ok (.goto 4, 3) := by decide +kernel
theorem dX4_contains_12 : decode cX4_contains 12 = .ok (.iconst 0, 1) := by decide +kernel
theorem dX4_contains_13 : decode cX4_contains 13 = .ok (.ireturn, 1) := by decide +kernel
