theorem dX0_init_0 : decode cX0_init 0 = .ok (.aload_n 0, 1) := by decide +kernel
theorem dX0_init_1 : decode cX0_init 1 = .ok (.invokespecial 1, 3) := by decide +kernel
theorem dX0_init_4 : decode cX0_init 4 = .ok (.return_, 1) := by decide +kernel
theorem dX0_fill_0 : decode cX0_fill 0 = .ok (.aload_n 0, 1) := by decide +kernel
theorem dX0_fill_1 : decode cX0_fill 1 = .ok (.lconst 0, 1) := by decide +kernel
theorem dX0_fill_2 : decode cX0_fill 2 = .ok (.putfield 7, 3) := by decide +kernel
theorem dX0_fill_5 : decode cX0_fill 5 = .ok (.aload_n 0, 1) := by decide +kernel
theorem dX0_fill_6 : decode cX0_fill 6 = .ok (.iload_n 1, 1) := by decide +kernel
theorem dX0_fill_7 : decode cX0_fill 7 = .ok (.putfield 13, 3) := by decide +kernel
theorem dX0_fill_10 : decode cX0_fill 10 = .ok (.aload_n 0, 1) := by decide +kernel
theorem dX0_fill_11 : decode cX0_fill 11 = .ok (.iload_n 2, 1) := by decide +kernel
theorem dX0_fill_12 : decode cX0_fill 12 = .ok (.putfield 17, 3) := by decide +kernel
theorem dX0_fill_15 : decode cX0_fill 15 = .ok (.aload_n 0, 1) := by decide +kernel
theorem dX0_fill_16 : decode cX0_fill 16 = .ok (.iload_n 3, 1) := by decide +kernel
theorem dX0_fill_17 : decode cX0_fill 17 = .ok (.putfield 20, 3) := by decide +kernel
theorem dX0_fill_20 : decode cX0_fill 20 = .ok (.aload_n 0, 1) := by decide +kernel
theorem dX0_fill_21 : decode cX0_fill 21 = .ok (.iload 4, 2) := by decide +kernel
theorem dX0_fill_23 : decode cX0_fill 23 = .ok (.putfield 23, 3) := by decide +kernel
theorem dX0_fill_26 : decode cX0_fill 26 = .ok (.aload_n 0, 1) := by decide +kernel
theorem dX0_fill_27 : decode cX0_fill 27 = .ok (.iload_n 3, 1) := by decide +kernel
theorem dX0_fill_28 : decode cX0_fill 28 = .ok (.iload 4, 2) := by decide +kernel
theorem dX0_fill_30 : decode cX0_fill 30 = .ok (.iadd, 1) := by decide +kernel
theorem dX0_fill_31 : decode cX0_fill 31 = .ok (.putfield 26, 3) := by decide +kernel
theorem dX0_fill_34 : decode cX0_fill 34 = .ok (.aload_n 0, 1) := by decide +kernel
theorem dX0_fill_35 : decode cX0_fill 35 = .ok (.iload 5, 2) := by decide +kernel
theorem dX0_fill_37 : decode cX0_fill 37 = .ok (.putfield 29, 3) := by decide +kernel
theorem dX0_fill_40 : decode cX0_fill 40 = .ok (.aload_n 0, 1) := by decide +kernel
theorem dX0_fill_41 : decode cX0_fill 41 = .ok (.iload 6, 2) := by decide +kernel
theorem dX0_fill_43 : decode cX0_fill 43 = .ok (.putfield 32, 3) := by decide +kernel
theorem dX0_fill_46 : decode cX0_fill 46 = .ok (.aload_n 0, 1) := by decide +kernel
theorem dX0_fill_47 : decode cX0_fill 47 = .ok (.iconst 0, 1) := by decide +kernel
theorem dX0_fill_48 : decode cX0_fill 48 = .ok (.putfield 35, 3) := by decide +kernel
theorem dX0_fill_51 : decode cX0_fill 51 = .ok (.aload_n 0, 1) := by decide +kernel
theorem dX0_fill_52 : decode cX0_fill 52 = .ok (.iconst 0, 1) := by decide +kernel
theorem dX0_fill_53 : decode cX0_fill 53 = .ok (.putfield 39, 3) := by decide +kernel
theorem dX0_fill_56 : decode cX0_fill 56 = .ok (.return_, 1) := by decide +kernel
theorem dX0_staysIn_0 : decode cX0_staysIn 0 = .ok (.iload_n 1, 1) := by decide +kernel
theorem dX0_staysIn_1 : decode cX0_staysIn 1 = .ok (.aload_n 0, 1) := by decide +kernel
theorem dX0_staysIn_2 : decode cX0_staysIn 2 = .ok (.getfield 13, 3) := by decide +kernel
theorem dX0_staysIn_5 : decode cX0_staysIn 5 = .ok (.if_icmp .lt 20, 3) := by decide +kernel
theorem dX0_staysIn_8 : decode cX0_staysIn 8 = .ok (.iload_n 1, 1) := by decide +kernel
theorem dX0_staysIn_9 : decode cX0_staysIn 9 = .ok (.aload_n 0, 1) := by decide +kernel
theorem dX0_staysIn_10 : decode cX0_staysIn 10 = .ok (.getfield 13, 3) := by decide +kernel
theorem dX0_staysIn_13 : decode cX0_staysIn 13 = .ok (.aload_n 0, 1) := by decide +kernel
theorem dX0_staysIn_14 : decode cX0_staysIn 14 = .ok (.getfield 17, 3) := by decide +kernel
theorem dX0_staysIn_17 : decode cX0_staysIn 17 = .ok (.iadd, 1) := by decide +kernel
theorem dX0_staysIn_18 : decode cX0_staysIn 18 = .ok (.if_icmp .ge 7, 3) := by decide +kernel
theorem dX0_staysIn_21 : decode cX0_staysIn 21 = .ok (.iconst 1, 1) := by decide +kernel
theorem dX0_staysIn_22 : decode cX0_staysIn 22 = .ok (.goto 4, 3) := by decide +kernel
theorem dX0_staysIn_25 : decode cX0_staysIn 25 = .ok (.iconst 0, 1) := by decide +kernel
theorem dX0_staysIn_26 : decode cX0_staysIn 26 = .ok (.ireturn, 1) := by decide +kernel
theorem dX0_nightBits_0 : decode cX0_nightBits 0 = .ok (.iconst 1, 1) := by decide +kernel
theorem dX0_nightBits_1 : decode cX0_nightBits 1 = .ok (.aload_n 0, 1) := by decide +kernel
theorem dX0_nightBits_2 : decode cX0_nightBits 2 = .ok (.getfield 17, 3) := by decide +kernel
theorem dX0_nightBits_5 : decode cX0_nightBits 5 = .ok (.ishl, 1) := by decide +kernel
theorem dX0_nightBits_6 : decode cX0_nightBits 6 = .ok (.iconst 1, 1) := by decide +kernel
theorem dX0_nightBits_7 : decode cX0_nightBits 7 = .ok (.isub, 1) := by decide +kernel
theorem dX0_nightBits_8 : decode cX0_nightBits 8 = .ok (.aload_n 0, 1) := by decide +kernel
theorem dX0_nightBits_9 : decode cX0_nightBits 9 = .ok (.getfield 13, 3) := by decide +kernel
theorem dX0_nightBits_12 : decode cX0_nightBits 12 = .ok (.ishl, 1) := by decide +kernel
theorem dX0_nightBits_13 : decode cX0_nightBits 13 = .ok (.ireturn, 1) := by decide +kernel
theorem dX1_init_0 : decode cX1_init 0 = .ok (.aload_n 0, 1) := by decide +kernel
theorem dX1_init_1 : decode cX1_init 1 = .ok (.invokespecial 3, 3) := by decide +kernel
theorem dX1_init_4 : decode cX1_init 4 = .ok (.aload_n 0, 1) := by decide +kernel
theorem dX1_init_5 : decode cX1_init 5 = .ok (.bipush 8, 2) := by decide +kernel
theorem dX1_init_7 : decode cX1_init 7 = .ok (.anewarray 9, 3) := by decide +kernel
theorem dX1_init_10 : decode cX1_init 10 = .ok (.putfield 11, 3) := by decide +kernel
theorem dX1_init_13 : decode cX1_init 13 = .ok (.aload_n 0, 1) := by decide +kernel
theorem dX1_init_14 : decode cX1_init 14 = .ok (.bipush 17, 2) := by decide +kernel
theorem dX1_init_16 : decode cX1_init 16 = .ok (.anewarray 17, 3) := by decide +kernel
theorem dX1_init_19 : decode cX1_init 19 = .ok (.putfield 19, 3) := by decide +kernel
theorem dX1_init_22 : decode cX1_init 22 = .ok (.aload_n 0, 1) := by decide +kernel
theorem dX1_init_23 : decode cX1_init 23 = .ok (.bipush 17, 2) := by decide +kernel
theorem dX1_init_25 : decode cX1_init 25 = .ok (.newarray .int, 2) := by decide +kernel
theorem dX1_init_27 : decode cX1_init 27 = .ok (.putfield 23, 3) := by decide +kernel
theorem dX1_init_30 : decode cX1_init 30 = .ok (.aload_n 0, 1) := by decide +kernel
theorem dX1_init_31 : decode cX1_init 31 = .ok (.bipush 30, 2) := by decide +kernel
theorem dX1_init_33 : decode cX1_init 33 = .ok (.newarray .int, 2) := by decide +kernel
theorem dX1_init_35 : decode cX1_init 35 = .ok (.putfield 27, 3) := by decide +kernel
theorem dX1_init_38 : decode cX1_init 38 = .ok (.iconst 0, 1) := by decide +kernel
theorem dX1_init_39 : decode cX1_init 39 = .ok (.istore_n 1, 1) := by decide +kernel
theorem dX1_init_40 : decode cX1_init 40 = .ok (.iload_n 1, 1) := by decide +kernel
theorem dX1_init_41 : decode cX1_init 41 = .ok (.aload_n 0, 1) := by decide +kernel
theorem dX1_init_42 : decode cX1_init 42 = .ok (.getfield 11, 3) := by decide +kernel
theorem dX1_init_45 : decode cX1_init 45 = .ok (.arraylength, 1) := by decide +kernel
theorem dX1_init_46 : decode cX1_init 46 = .ok (.if_icmp .ge 22, 3) := by decide +kernel
theorem dX1_init_49 : decode cX1_init 49 = .ok (.aload_n 0, 1) := by decide +kernel
theorem dX1_init_50 : decode cX1_init 50 = .ok (.getfield 11, 3) := by decide +kernel
theorem dX1_init_53 : decode cX1_init 53 = .ok (.iload_n 1, 1) := by decide +kernel
theorem dX1_init_54 : decode cX1_init 54 = .ok (.new 9, 3) := by decide +kernel
theorem dX1_init_57 : decode cX1_init 57 = .ok (.dup, 1) := by decide +kernel
theorem dX1_init_58 : decode cX1_init 58 = .ok (.invokespecial 30, 3) := by decide +kernel
theorem dX1_init_61 : decode cX1_init 61 = .ok (.aastore, 1) := by decide +kernel
theorem dX1_init_62 : decode cX1_init 62 = .ok (.iinc 1 1, 3) := by decide +kernel
theorem dX1_init_65 : decode cX1_init 65 = .ok (.goto (-25), 3) := by decide +kernel
theorem dX1_init_68 : decode cX1_init 68 = .ok (.iconst 0, 1) := by decide +kernel
theorem dX1_init_69 : decode cX1_init 69 = .ok (.istore_n 1, 1) := by decide +kernel
theorem dX1_init_70 : decode cX1_init 70 = .ok (.iload_n 1, 1) := by decide +kernel
theorem dX1_init_71 : decode cX1_init 71 = .ok (.aload_n 0, 1) := by decide +kernel
theorem dX1_init_72 : decode cX1_init 72 = .ok (.getfield 19, 3) := by decide +kernel
theorem dX1_init_75 : decode cX1_init 75 = .ok (.arraylength, 1) := by decide +kernel
theorem dX1_init_76 : decode cX1_init 76 = .ok (.if_icmp .ge 22, 3) := by decide +kernel
theorem dX1_init_79 : decode cX1_init 79 = .ok (.aload_n 0, 1) := by decide +kernel
theorem dX1_init_80 : decode cX1_init 80 = .ok (.getfield 19, 3) := by decide +kernel
theorem dX1_init_83 : decode cX1_init 83 = .ok (.iload_n 1, 1) := by decide +kernel
theorem dX1_init_84 : decode cX1_init 84 = .ok (.new 17, 3) := by decide +kernel
theorem dX1_init_87 : decode cX1_init 87 = .ok (.dup, 1) := by decide +kernel
theorem dX1_init_88 : decode cX1_init 88 = .ok (.invokespecial 31, 3) := by decide +kernel
theorem dX1_init_91 : decode cX1_init 91 = .ok (.aastore, 1) := by decide +kernel
theorem dX1_init_92 : decode cX1_init 92 = .ok (.iinc 1 1, 3) := by decide +kernel
theorem dX1_init_95 : decode cX1_init 95 = .ok (.goto (-25), 3) := by decide +kernel
theorem dX1_init_98 : decode cX1_init 98 = .ok (.aload_n 0, 1) := by decide +kernel
theorem dX1_init_99 : decode cX1_init 99 = .ok (.invokevirtual 32, 3) := by decide +kernel
theorem dX1_init_102 : decode cX1_init 102 = .ok (.return_, 1) := by decide +kernel
theorem dX1_clear_0 : decode cX1_clear 0 = .ok (.aload_n 0, 1) := by decide +kernel
theorem dX1_clear_1 : decode cX1_clear 1 = .ok (.iconst 0, 1) := by decide +kernel
theorem dX1_clear_2 : decode cX1_clear 2 = .ok (.putfield 35, 3) := by decide +kernel
theorem dX1_clear_5 : decode cX1_clear 5 = .ok (.aload_n 0, 1) := by decide +kernel
theorem dX1_clear_6 : decode cX1_clear 6 = .ok (.iconst 0, 1) := by decide +kernel
theorem dX1_clear_7 : decode cX1_clear 7 = .ok (.putfield 39, 3) := by decide +kernel
theorem dX1_clear_10 : decode cX1_clear 10 = .ok (.aload_n 0, 1) := by decide +kernel
theorem dX1_clear_11 : decode cX1_clear 11 = .ok (.iconst 0, 1) := by decide +kernel
theorem dX1_clear_12 : decode cX1_clear 12 = .ok (.putfield 42, 3) := by decide +kernel
theorem dX1_clear_15 : decode cX1_clear 15 = .ok (.aload_n 0, 1) := by decide +kernel
theorem dX1_clear_16 : decode cX1_clear 16 = .ok (.invokevirtual 45, 3) := by decide +kernel
theorem dX1_clear_19 : decode cX1_clear 19 = .ok (.aload_n 0, 1) := by decide +kernel
theorem dX1_clear_20 : decode cX1_clear 20 = .ok (.iconst 0, 1) := by decide +kernel
theorem dX1_clear_21 : decode cX1_clear 21 = .ok (.putfield 48, 3) := by decide +kernel
theorem dX1_clear_24 : decode cX1_clear 24 = .ok (.aload_n 0, 1) := by decide +kernel
theorem dX1_clear_25 : decode cX1_clear 25 = .ok (.bipush 60, 2) := by decide +kernel
theorem dX1_clear_27 : decode cX1_clear 27 = .ok (.putfield 51, 3) := by decide +kernel
theorem dX1_clear_30 : decode cX1_clear 30 = .ok (.aload_n 0, 1) := by decide +kernel
theorem dX1_clear_31 : decode cX1_clear 31 = .ok (.bipush 7, 2) := by decide +kernel
theorem dX1_clear_33 : decode cX1_clear 33 = .ok (.putfield 54, 3) := by decide +kernel
theorem dX1_clear_36 : decode cX1_clear 36 = .ok (.aload_n 0, 1) := by decide +kernel
theorem dX1_clear_37 : decode cX1_clear 37 = .ok (.bipush 10, 2) := by decide +kernel
theorem dX1_clear_39 : decode cX1_clear 39 = .ok (.putfield 57, 3) := by decide +kernel
theorem dX1_clear_42 : decode cX1_clear 42 = .ok (.return_, 1) := by decide +kernel
theorem dX1_forgetStates_0 : decode cX1_forgetStates 0 = .ok (.aload_n 0, 1) := by decide +kernel
theorem dX1_forgetStates_1 : decode cX1_forgetStates 1 = .ok (.iconst 0, 1) := by decide +kernel
theorem dX1_forgetStates_2 : decode cX1_forgetStates 2 = .ok (.putfield 60, 3) := by decide +kernel
theorem dX1_forgetStates_5 : decode cX1_forgetStates 5 = .ok (.iconst 0, 1) := by decide +kernel
theorem dX1_forgetStates_6 : decode cX1_forgetStates 6 = .ok (.istore_n 1, 1) := by decide +kernel
theorem dX1_forgetStates_7 : decode cX1_forgetStates 7 = .ok (.iload_n 1, 1) := by decide +kernel
theorem dX1_forgetStates_8 : decode cX1_forgetStates 8 = .ok (.aload_n 0, 1) := by decide +kernel
theorem dX1_forgetStates_9 : decode cX1_forgetStates 9 = .ok (.getfield 27, 3) := by decide +kernel
theorem dX1_forgetStates_12 : decode cX1_forgetStates 12 = .ok (.arraylength, 1) := by decide +kernel
theorem dX1_forgetStates_13 : decode cX1_forgetStates 13 = .ok (.if_icmp .ge 16, 3) := by decide +kernel
theorem dX1_forgetStates_16 : decode cX1_forgetStates 16 = .ok (.aload_n 0, 1) := by decide +kernel
theorem dX1_forgetStates_17 : decode cX1_forgetStates 17 = .ok (.getfield 27, 3) := by decide +kernel
theorem dX1_forgetStates_20 : decode cX1_forgetStates 20 = .ok (.iload_n 1, 1) := by decide +kernel
theorem dX1_forgetStates_21 : decode cX1_forgetStates 21 = .ok (.iconst 0, 1) := by decide +kernel
theorem dX1_forgetStates_22 : decode cX1_forgetStates 22 = .ok (.iastore, 1) := by decide +kernel
theorem dX1_forgetStates_23 : decode cX1_forgetStates 23 = .ok (.iinc 1 1, 3) := by decide +kernel
theorem dX1_forgetStates_26 : decode cX1_forgetStates 26 = .ok (.goto (-19), 3) := by decide +kernel
theorem dX1_forgetStates_29 : decode cX1_forgetStates 29 = .ok (.return_, 1) := by decide +kernel
theorem dX1_roomNamed_0 : decode cX1_roomNamed 0 = .ok (.iconst 0, 1) := by decide +kernel
theorem dX1_roomNamed_1 : decode cX1_roomNamed 1 = .ok (.istore_n 3, 1) := by decide +kernel
theorem dX1_roomNamed_2 : decode cX1_roomNamed 2 = .ok (.iload_n 3, 1) := by decide +kernel
theorem dX1_roomNamed_3 : decode cX1_roomNamed 3 = .ok (.aload_n 0, 1) := by decide +kernel
theorem dX1_roomNamed_4 : decode cX1_roomNamed 4 = .ok (.getfield 35, 3) := by decide +kernel
theorem dX1_roomNamed_7 : decode cX1_roomNamed 7 = .ok (.if_icmp .ge 25, 3) := by decide +kernel
theorem dX1_roomNamed_10 : decode cX1_roomNamed 10 = .ok (.aload_n 0, 1) := by decide +kernel
theorem dX1_roomNamed_11 : decode cX1_roomNamed 11 = .ok (.getfield 11, 3) := by decide +kernel
theorem dX1_roomNamed_14 : decode cX1_roomNamed 14 = .ok (.iload_n 3, 1) := by decide +kernel
theorem dX1_roomNamed_15 : decode cX1_roomNamed 15 = .ok (.aaload, 1) := by decide +kernel
theorem dX1_roomNamed_16 : decode cX1_roomNamed 16 = .ok (.getfield 76, 3) := by decide +kernel
theorem dX1_roomNamed_19 : decode cX1_roomNamed 19 = .ok (.lload_n 1, 1) := by decide +kernel
theorem dX1_roomNamed_20 : decode cX1_roomNamed 20 = .ok (.lcmp, 1) := by decide +kernel
theorem dX1_roomNamed_21 : decode cX1_roomNamed 21 = .ok (.ifCond .ne 5, 3) := by decide +kernel
theorem dX1_roomNamed_24 : decode cX1_roomNamed 24 = .ok (.iload_n 3, 1) := by decide +kernel
theorem dX1_roomNamed_25 : decode cX1_roomNamed 25 = .ok (.ireturn, 1) := by decide +kernel
theorem dX1_roomNamed_26 : decode cX1_roomNamed 26 = .ok (.iinc 3 1, 3) := by decide +kernel
theorem dX1_roomNamed_29 : decode cX1_roomNamed 29 = .ok (.goto (-27), 3) := by decide +kernel
theorem dX1_roomNamed_32 : decode cX1_roomNamed 32 = .ok (.iconst (-1), 1) := by decide +kernel
theorem dX1_roomNamed_33 : decode cX1_roomNamed 33 = .ok (.ireturn, 1) := by decide +kernel
theorem dX1_bookingNamed_0 : decode cX1_bookingNamed 0 = .ok (.iconst 0, 1) := by decide +kernel
theorem dX1_bookingNamed_1 : decode cX1_bookingNamed 1 = .ok (.istore_n 3, 1) := by decide +kernel
theorem dX1_bookingNamed_2 : decode cX1_bookingNamed 2 = .ok (.iload_n 3, 1) := by decide +kernel
theorem dX1_bookingNamed_3 : decode cX1_bookingNamed 3 = .ok (.aload_n 0, 1) := by decide +kernel
theorem dX1_bookingNamed_4 : decode cX1_bookingNamed 4 = .ok (.getfield 42, 3) := by decide +kernel
theorem dX1_bookingNamed_7 : decode cX1_bookingNamed 7 = .ok (.if_icmp .ge 31, 3) := by decide +kernel
theorem dX1_bookingNamed_10 : decode cX1_bookingNamed 10 = .ok (.lload_n 1, 1) := by decide +kernel
theorem dX1_bookingNamed_11 : decode cX1_bookingNamed 11 = .ok (.lconst 0, 1) := by decide +kernel
theorem dX1_bookingNamed_12 : decode cX1_bookingNamed 12 = .ok (.lcmp, 1) := by decide +kernel
theorem dX1_bookingNamed_13 : decode cX1_bookingNamed 13 = .ok (.ifCond .eq 19, 3) := by decide +kernel
theorem dX1_bookingNamed_16 : decode cX1_bookingNamed 16 = .ok (.aload_n 0, 1) := by decide +kernel
theorem dX1_bookingNamed_17 : decode cX1_bookingNamed 17 = .ok (.getfield 19, 3) := by decide +kernel
theorem dX1_bookingNamed_20 : decode cX1_bookingNamed 20 = .ok (.iload_n 3, 1) := by decide +kernel
theorem dX1_bookingNamed_21 : decode cX1_bookingNamed 21 = .ok (.aaload, 1) := by decide +kernel
theorem dX1_bookingNamed_22 : decode cX1_bookingNamed 22 = .ok (.getfield 80, 3) := by decide +kernel
theorem dX1_bookingNamed_25 : decode cX1_bookingNamed 25 = .ok (.lload_n 1, 1) := by decide +kernel
theorem dX1_bookingNamed_26 : decode cX1_bookingNamed 26 = .ok (.lcmp, 1) := by decide +kernel
theorem dX1_bookingNamed_27 : decode cX1_bookingNamed 27 = .ok (.ifCond .ne 5, 3) := by decide +kernel
theorem dX1_bookingNamed_30 : decode cX1_bookingNamed 30 = .ok (.iload_n 3, 1) := by decide +kernel
theorem dX1_bookingNamed_31 : decode cX1_bookingNamed 31 = .ok (.ireturn, 1) := by decide +kernel
theorem dX1_bookingNamed_32 : decode cX1_bookingNamed 32 = .ok (.iinc 3 1, 3) := by decide +kernel
theorem dX1_bookingNamed_35 : decode cX1_bookingNamed 35 = .ok (.goto (-33), 3) := by decide +kernel
theorem dX1_bookingNamed_38 : decode cX1_bookingNamed 38 = .ok (.iconst (-1), 1) := by decide +kernel
theorem dX1_bookingNamed_39 : decode cX1_bookingNamed 39 = .ok (.ireturn, 1) := by decide +kernel
theorem dX1_countState_0 : decode cX1_countState 0 = .ok (.iconst 0, 1) := by decide +kernel
theorem dX1_countState_1 : decode cX1_countState 1 = .ok (.istore_n 2, 1) := by decide +kernel
theorem dX1_countState_2 : decode cX1_countState 2 = .ok (.iconst 0, 1) := by decide +kernel
theorem dX1_countState_3 : decode cX1_countState 3 = .ok (.istore_n 3, 1) := by decide +kernel
theorem dX1_countState_4 : decode cX1_countState 4 = .ok (.iload_n 3, 1) := by decide +kernel
theorem dX1_countState_5 : decode cX1_countState 5 = .ok (.aload_n 0, 1) := by decide +kernel
theorem dX1_countState_6 : decode cX1_countState 6 = .ok (.getfield 42, 3) := by decide +kernel
theorem dX1_countState_9 : decode cX1_countState 9 = .ok (.if_icmp .ge 25, 3) := by decide +kernel
theorem dX1_countState_12 : decode cX1_countState 12 = .ok (.aload_n 0, 1) := by decide +kernel
theorem dX1_countState_13 : decode cX1_countState 13 = .ok (.getfield 19, 3) := by decide +kernel
theorem dX1_countState_16 : decode cX1_countState 16 = .ok (.iload_n 3, 1) := by decide +kernel
theorem dX1_countState_17 : decode cX1_countState 17 = .ok (.aaload, 1) := by decide +kernel
theorem dX1_countState_18 : decode cX1_countState 18 = .ok (.getfield 81, 3) := by decide +kernel
theorem dX1_countState_21 : decode cX1_countState 21 = .ok (.iload_n 1, 1) := by decide +kernel
theorem dX1_countState_22 : decode cX1_countState 22 = .ok (.if_icmp .ne 6, 3) := by decide +kernel
theorem dX1_countState_25 : decode cX1_countState 25 = .ok (.iinc 2 1, 3) := by decide +kernel
theorem dX1_countState_28 : decode cX1_countState 28 = .ok (.iinc 3 1, 3) := by decide +kernel
theorem dX1_countState_31 : decode cX1_countState 31 = .ok (.goto (-27), 3) := by decide +kernel
theorem dX1_countState_34 : decode cX1_countState 34 = .ok (.iload_n 2, 1) := by decide +kernel
theorem dX1_countState_35 : decode cX1_countState 35 = .ok (.ireturn, 1) := by decide +kernel
theorem dX1_canAccept_0 : decode cX1_canAccept 0 = .ok (.aload_n 0, 1) := by decide +kernel
theorem dX1_canAccept_1 : decode cX1_canAccept 1 = .ok (.getfield 39, 3) := by decide +kernel
theorem dX1_canAccept_4 : decode cX1_canAccept 4 = .ok (.bipush 100, 2) := by decide +kernel
theorem dX1_canAccept_6 : decode cX1_canAccept 6 = .ok (.aload_n 0, 1) := by decide +kernel
theorem dX1_canAccept_7 : decode cX1_canAccept 7 = .ok (.getfield 48, 3) := by decide +kernel
theorem dX1_canAccept_10 : decode cX1_canAccept 10 = .ok (.iadd, 1) := by decide +kernel
theorem dX1_canAccept_11 : decode cX1_canAccept 11 = .ok (.imul, 1) := by decide +kernel
theorem dX1_canAccept_12 : decode cX1_canAccept 12 = .ok (.bipush 100, 2) := by decide +kernel
theorem dX1_canAccept_14 : decode cX1_canAccept 14 = .ok (.idiv, 1) := by decide +kernel
theorem dX1_canAccept_15 : decode cX1_canAccept 15 = .ok (.istore_n 2, 1) := by decide +kernel
theorem dX1_canAccept_16 : decode cX1_canAccept 16 = .ok (.iconst 0, 1) := by decide +kernel
theorem dX1_canAccept_17 : decode cX1_canAccept 17 = .ok (.istore_n 3, 1) := by decide +kernel
theorem dX1_canAccept_18 : decode cX1_canAccept 18 = .ok (.iload_n 3, 1) := by decide +kernel
theorem dX1_canAccept_19 : decode cX1_canAccept 19 = .ok (.aload_n 0, 1) := by decide +kernel
theorem dX1_canAccept_20 : decode cX1_canAccept 20 = .ok (.getfield 27, 3) := by decide +kernel
theorem dX1_canAccept_23 : decode cX1_canAccept 23 = .ok (.arraylength, 1) := by decide +kernel
theorem dX1_canAccept_24 : decode cX1_canAccept 24 = .ok (.if_icmp .ge 34, 3) := by decide +kernel
theorem dX1_canAccept_27 : decode cX1_canAccept 27 = .ok (.aload_n 1, 1) := by decide +kernel
theorem dX1_canAccept_28 : decode cX1_canAccept 28 = .ok (.iload_n 3, 1) := by decide +kernel
theorem dX1_canAccept_29 : decode cX1_canAccept 29 = .ok (.invokevirtual 84, 3) := by decide +kernel
theorem dX1_canAccept_32 : decode cX1_canAccept 32 = .ok (.ifCond .eq 20, 3) := by decide +kernel
theorem dX1_canAccept_35 : decode cX1_canAccept 35 = .ok (.aload_n 0, 1) := by decide +kernel
theorem dX1_canAccept_36 : decode cX1_canAccept 36 = .ok (.getfield 27, 3) := by decide +kernel
theorem dX1_canAccept_39 : decode cX1_canAccept 39 = .ok (.iload_n 3, 1) := by decide +kernel
theorem dX1_canAccept_40 : decode cX1_canAccept 40 = .ok (.iaload, 1) := by decide +kernel
theorem dX1_canAccept_41 : decode cX1_canAccept 41 = .ok (.aload_n 1, 1) := by decide +kernel
theorem dX1_canAccept_42 : decode cX1_canAccept 42 = .ok (.getfield 88, 3) := by decide +kernel
theorem dX1_canAccept_45 : decode cX1_canAccept 45 = .ok (.iadd, 1) := by decide +kernel
theorem dX1_canAccept_46 : decode cX1_canAccept 46 = .ok (.iload_n 2, 1) := by decide +kernel
theorem dX1_canAccept_47 : decode cX1_canAccept 47 = .ok (.if_icmp .le 5, 3) := by decide +kernel
theorem dX1_canAccept_50 : decode cX1_canAccept 50 = .ok (.iconst 0, 1) := by decide +kernel
theorem dX1_canAccept_51 : decode cX1_canAccept 51 = .ok (.ireturn, 1) := by decide +kernel
theorem dX1_canAccept_52 : decode cX1_canAccept 52 = .ok (.iinc 3 1, 3) := by decide +kernel
theorem dX1_canAccept_55 : decode cX1_canAccept 55 = .ok (.goto (-37), 3) := by decide +kernel
theorem dX1_canAccept_58 : decode cX1_canAccept 58 = .ok (.iconst 1, 1) := by decide +kernel
theorem dX1_canAccept_59 : decode cX1_canAccept 59 = .ok (.ireturn, 1) := by decide +kernel
theorem dX1_accept_0 : decode cX1_accept 0 = .ok (.aload_n 1, 1) := by decide +kernel
theorem dX1_accept_1 : decode cX1_accept 1 = .ok (.iconst 1, 1) := by decide +kernel
theorem dX1_accept_2 : decode cX1_accept 2 = .ok (.putfield 81, 3) := by decide +kernel
theorem dX1_accept_5 : decode cX1_accept 5 = .ok (.aload_n 0, 1) := by decide +kernel
theorem dX1_accept_6 : decode cX1_accept 6 = .ok (.aload_n 1, 1) := by decide +kernel
theorem dX1_accept_7 : decode cX1_accept 7 = .ok (.aload_n 1, 1) := by decide +kernel
theorem dX1_accept_8 : decode cX1_accept 8 = .ok (.getfield 88, 3) := by decide +kernel
theorem dX1_accept_11 : decode cX1_accept 11 = .ok (.invokevirtual 91, 3) := by decide +kernel
theorem dX1_accept_14 : decode cX1_accept 14 = .ok (.return_, 1) := by decide +kernel
theorem dX1_addToCrowd_0 : decode cX1_addToCrowd 0 = .ok (.aload_n 1, 1) := by decide +kernel
theorem dX1_addToCrowd_1 : decode cX1_addToCrowd 1 = .ok (.getfield 95, 3) := by decide +kernel
theorem dX1_addToCrowd_4 : decode cX1_addToCrowd 4 = .ok (.aload_n 1, 1) := by decide +kernel
theorem dX1_addToCrowd_5 : decode cX1_addToCrowd 5 = .ok (.getfield 98, 3) := by decide +kernel
theorem dX1_addToCrowd_8 : decode cX1_addToCrowd 8 = .ok (.iadd, 1) := by decide +kernel
theorem dX1_addToCrowd_9 : decode cX1_addToCrowd 9 = .ok (.aload_n 0, 1) := by decide +kernel
theorem dX1_addToCrowd_10 : decode cX1_addToCrowd 10 = .ok (.getfield 27, 3) := by decide +kernel
theorem dX1_addToCrowd_13 : decode cX1_addToCrowd 13 = .ok (.arraylength, 1) := by decide +kernel
theorem dX1_addToCrowd_14 : decode cX1_addToCrowd 14 = .ok (.invokestatic 101, 3) := by decide +kernel
theorem dX1_addToCrowd_17 : decode cX1_addToCrowd 17 = .ok (.istore_n 3, 1) := by decide +kernel
theorem dX1_addToCrowd_18 : decode cX1_addToCrowd 18 = .ok (.aload_n 1, 1) := by decide +kernel
theorem dX1_addToCrowd_19 : decode cX1_addToCrowd 19 = .ok (.getfield 95, 3) := by decide +kernel
theorem dX1_addToCrowd_22 : decode cX1_addToCrowd 22 = .ok (.istore 4, 2) := by decide +kernel
theorem dX1_addToCrowd_24 : decode cX1_addToCrowd 24 = .ok (.iload 4, 2) := by decide +kernel
theorem dX1_addToCrowd_26 : decode cX1_addToCrowd 26 = .ok (.iload_n 3, 1) := by decide +kernel
theorem dX1_addToCrowd_27 : decode cX1_addToCrowd 27 = .ok (.if_icmp .ge 20, 3) := by decide +kernel
theorem dX1_addToCrowd_30 : decode cX1_addToCrowd 30 = .ok (.aload_n 0, 1) := by decide +kernel
theorem dX1_addToCrowd_31 : decode cX1_addToCrowd 31 = .ok (.getfield 27, 3) := by decide +kernel
theorem dX1_addToCrowd_34 : decode cX1_addToCrowd 34 = .ok (.iload 4, 2) := by decide +kernel
theorem dX1_addToCrowd_36 : decode cX1_addToCrowd 36 = .ok (.dup2, 1) := by decide +kernel
theorem dX1_addToCrowd_37 : decode cX1_addToCrowd 37 = .ok (.iaload, 1) := by decide +kernel
theorem dX1_addToCrowd_38 : decode cX1_addToCrowd 38 = .ok (.iload_n 2, 1) := by decide +kernel
theorem dX1_addToCrowd_39 : decode cX1_addToCrowd 39 = .ok (.iadd, 1) := by decide +kernel
theorem dX1_addToCrowd_40 : decode cX1_addToCrowd 40 = .ok (.iastore, 1) := by decide +kernel
theorem dX1_addToCrowd_41 : decode cX1_addToCrowd 41 = .ok (.iinc 4 1, 3) := by decide +kernel
theorem dX1_addToCrowd_44 : decode cX1_addToCrowd 44 = .ok (.goto (-20), 3) := by decide +kernel
theorem dX1_addToCrowd_47 : decode cX1_addToCrowd 47 = .ok (.return_, 1) := by decide +kernel
theorem dX1_tellNext_0 : decode cX1_tellNext 0 = .ok (.aload_n 0, 1) := by decide +kernel
theorem dX1_tellNext_1 : decode cX1_tellNext 1 = .ok (.aload_n 0, 1) := by decide +kernel
theorem dX1_tellNext_2 : decode cX1_tellNext 2 = .ok (.getfield 42, 3) := by decide +kernel
theorem dX1_tellNext_5 : decode cX1_tellNext 5 = .ok (.invokevirtual 107, 3) := by decide +kernel
theorem dX1_tellNext_8 : decode cX1_tellNext 8 = .ok (.aload_n 0, 1) := by decide +kernel
theorem dX1_tellNext_9 : decode cX1_tellNext 9 = .ok (.dup, 1) := by decide +kernel
theorem dX1_tellNext_10 : decode cX1_tellNext 10 = .ok (.getfield 42, 3) := by decide +kernel
theorem dX1_tellNext_13 : decode cX1_tellNext 13 = .ok (.iconst 1, 1) := by decide +kernel
theorem dX1_tellNext_14 : decode cX1_tellNext 14 = .ok (.iadd, 1) := by decide +kernel
theorem dX1_tellNext_15 : decode cX1_tellNext 15 = .ok (.putfield 42, 3) := by decide +kernel
theorem dX1_tellNext_18 : decode cX1_tellNext 18 = .ok (.return_, 1) := by decide +kernel
theorem dX1_tell_0 : decode cX1_tell 0 = .ok (.aload_n 0, 1) := by decide +kernel
theorem dX1_tell_1 : decode cX1_tell 1 = .ok (.aload_n 0, 1) := by decide +kernel
theorem dX1_tell_2 : decode cX1_tell 2 = .ok (.getfield 19, 3) := by decide +kernel
theorem dX1_tell_5 : decode cX1_tell 5 = .ok (.iload_n 1, 1) := by decide +kernel
theorem dX1_tell_6 : decode cX1_tell 6 = .ok (.aaload, 1) := by decide +kernel
theorem dX1_tell_7 : decode cX1_tell 7 = .ok (.invokevirtual 111, 3) := by decide +kernel
theorem dX1_tell_10 : decode cX1_tell 10 = .ok (.ifCond .eq 16, 3) := by decide +kernel
theorem dX1_tell_13 : decode cX1_tell 13 = .ok (.aload_n 0, 1) := by decide +kernel
theorem dX1_tell_14 : decode cX1_tell 14 = .ok (.aload_n 0, 1) := by decide +kernel
theorem dX1_tell_15 : decode cX1_tell 15 = .ok (.getfield 19, 3) := by decide +kernel
theorem dX1_tell_18 : decode cX1_tell 18 = .ok (.iload_n 1, 1) := by decide +kernel
theorem dX1_tell_19 : decode cX1_tell 19 = .ok (.aaload, 1) := by decide +kernel
theorem dX1_tell_20 : decode cX1_tell 20 = .ok (.invokevirtual 115, 3) := by decide +kernel
theorem dX1_tell_23 : decode cX1_tell 23 = .ok (.goto 45, 3) := by decide +kernel
theorem dX1_tell_26 : decode cX1_tell 26 = .ok (.aload_n 0, 1) := by decide +kernel
theorem dX1_tell_27 : decode cX1_tell 27 = .ok (.getfield 60, 3) := by decide +kernel
theorem dX1_tell_30 : decode cX1_tell 30 = .ok (.aload_n 0, 1) := by decide +kernel
theorem dX1_tell_31 : decode cX1_tell 31 = .ok (.getfield 23, 3) := by decide +kernel
theorem dX1_tell_34 : decode cX1_tell 34 = .ok (.arraylength, 1) := by decide +kernel
theorem dX1_tell_35 : decode cX1_tell 35 = .ok (.if_icmp .ge 33, 3) := by decide +kernel
theorem dX1_tell_38 : decode cX1_tell 38 = .ok (.aload_n 0, 1) := by decide +kernel
theorem dX1_tell_39 : decode cX1_tell 39 = .ok (.getfield 19, 3) := by decide +kernel
theorem dX1_tell_42 : decode cX1_tell 42 = .ok (.iload_n 1, 1) := by decide +kernel
theorem dX1_tell_43 : decode cX1_tell 43 = .ok (.aaload, 1) := by decide +kernel
theorem dX1_tell_44 : decode cX1_tell 44 = .ok (.iconst 0, 1) := by decide +kernel
theorem dX1_tell_45 : decode cX1_tell 45 = .ok (.putfield 81, 3) := by decide +kernel
theorem dX1_tell_48 : decode cX1_tell 48 = .ok (.aload_n 0, 1) := by decide +kernel
theorem dX1_tell_49 : decode cX1_tell 49 = .ok (.getfield 23, 3) := by decide +kernel
theorem dX1_tell_52 : decode cX1_tell 52 = .ok (.aload_n 0, 1) := by decide +kernel
theorem dX1_tell_53 : decode cX1_tell 53 = .ok (.getfield 60, 3) := by decide +kernel
theorem dX1_tell_56 : decode cX1_tell 56 = .ok (.iload_n 1, 1) := by decide +kernel
theorem dX1_tell_57 : decode cX1_tell 57 = .ok (.iastore, 1) := by decide +kernel
theorem dX1_tell_58 : decode cX1_tell 58 = .ok (.aload_n 0, 1) := by decide +kernel
theorem dX1_tell_59 : decode cX1_tell 59 = .ok (.dup, 1) := by decide +kernel
theorem dX1_tell_60 : decode cX1_tell 60 = .ok (.getfield 60, 3) := by decide +kernel
theorem dX1_tell_63 : decode cX1_tell 63 = .ok (.iconst 1, 1) := by decide +kernel
theorem dX1_tell_64 : decode cX1_tell 64 = .ok (.iadd, 1) := by decide +kernel
theorem dX1_tell_65 : decode cX1_tell 65 = .ok (.putfield 60, 3) := by decide +kernel
theorem dX1_tell_68 : decode cX1_tell 68 = .ok (.return_, 1) := by decide +kernel
theorem dX1_drop_0 : decode cX1_drop 0 = .ok (.aload_n 0, 1) := by decide +kernel
theorem dX1_drop_1 : decode cX1_drop 1 = .ok (.getfield 19, 3) := by decide +kernel
theorem dX1_drop_4 : decode cX1_drop 4 = .ok (.iload_n 1, 1) := by decide +kernel
theorem dX1_drop_5 : decode cX1_drop 5 = .ok (.aaload, 1) := by decide +kernel
theorem dX1_drop_6 : decode cX1_drop 6 = .ok (.getfield 81, 3) := by decide +kernel
theorem dX1_drop_9 : decode cX1_drop 9 = .ok (.iconst 1, 1) := by decide +kernel
theorem dX1_drop_10 : decode cX1_drop 10 = .ok (.if_icmp .ne 23, 3) := by decide +kernel
theorem dX1_drop_13 : decode cX1_drop 13 = .ok (.aload_n 0, 1) := by decide +kernel
theorem dX1_drop_14 : decode cX1_drop 14 = .ok (.aload_n 0, 1) := by decide +kernel
theorem dX1_drop_15 : decode cX1_drop 15 = .ok (.getfield 19, 3) := by decide +kernel
theorem dX1_drop_18 : decode cX1_drop 18 = .ok (.iload_n 1, 1) := by decide +kernel
theorem dX1_drop_19 : decode cX1_drop 19 = .ok (.aaload, 1) := by decide +kernel
theorem dX1_drop_20 : decode cX1_drop 20 = .ok (.aload_n 0, 1) := by decide +kernel
theorem dX1_drop_21 : decode cX1_drop 21 = .ok (.getfield 19, 3) := by decide +kernel
theorem dX1_drop_24 : decode cX1_drop 24 = .ok (.iload_n 1, 1) := by decide +kernel
theorem dX1_drop_25 : decode cX1_drop 25 = .ok (.aaload, 1) := by decide +kernel
theorem dX1_drop_26 : decode cX1_drop 26 = .ok (.getfield 88, 3) := by decide +kernel
theorem dX1_drop_29 : decode cX1_drop 29 = .ok (.ineg, 1) := by decide +kernel
theorem dX1_drop_30 : decode cX1_drop 30 = .ok (.invokevirtual 91, 3) := by decide +kernel
theorem dX1_drop_33 : decode cX1_drop 33 = .ok (.aload_n 0, 1) := by decide +kernel
theorem dX1_drop_34 : decode cX1_drop 34 = .ok (.getfield 19, 3) := by decide +kernel
theorem dX1_drop_37 : decode cX1_drop 37 = .ok (.iload_n 1, 1) := by decide +kernel
theorem dX1_drop_38 : decode cX1_drop 38 = .ok (.aaload, 1) := by decide +kernel
theorem dX1_drop_39 : decode cX1_drop 39 = .ok (.iconst 2, 1) := by decide +kernel
theorem dX1_drop_40 : decode cX1_drop 40 = .ok (.putfield 81, 3) := by decide +kernel
theorem dX1_drop_43 : decode cX1_drop 43 = .ok (.iconst 0, 1) := by decide +kernel
theorem dX1_drop_44 : decode cX1_drop 44 = .ok (.istore_n 2, 1) := by decide +kernel
theorem dX1_drop_45 : decode cX1_drop 45 = .ok (.iconst 0, 1) := by decide +kernel
theorem dX1_drop_46 : decode cX1_drop 46 = .ok (.istore_n 3, 1) := by decide +kernel
theorem dX1_drop_47 : decode cX1_drop 47 = .ok (.iload_n 3, 1) := by decide +kernel
theorem dX1_drop_48 : decode cX1_drop 48 = .ok (.aload_n 0, 1) := by decide +kernel
theorem dX1_drop_49 : decode cX1_drop 49 = .ok (.getfield 60, 3) := by decide +kernel
theorem dX1_drop_52 : decode cX1_drop 52 = .ok (.if_icmp .ge 34, 3) := by decide +kernel
theorem dX1_drop_55 : decode cX1_drop 55 = .ok (.aload_n 0, 1) := by decide +kernel
theorem dX1_drop_56 : decode cX1_drop 56 = .ok (.getfield 23, 3) := by decide +kernel
theorem dX1_drop_59 : decode cX1_drop 59 = .ok (.iload_n 3, 1) := by decide +kernel
theorem dX1_drop_60 : decode cX1_drop 60 = .ok (.iaload, 1) := by decide +kernel
theorem dX1_drop_61 : decode cX1_drop 61 = .ok (.iload_n 1, 1) := by decide +kernel
theorem dX1_drop_62 : decode cX1_drop 62 = .ok (.if_icmp .eq 18, 3) := by decide +kernel
theorem dX1_drop_65 : decode cX1_drop 65 = .ok (.aload_n 0, 1) := by decide +kernel
theorem dX1_drop_66 : decode cX1_drop 66 = .ok (.getfield 23, 3) := by decide +kernel
theorem dX1_drop_69 : decode cX1_drop 69 = .ok (.iload_n 2, 1) := by decide +kernel
theorem dX1_drop_70 : decode cX1_drop 70 = .ok (.aload_n 0, 1) := by decide +kernel
theorem dX1_drop_71 : decode cX1_drop 71 = .ok (.getfield 23, 3) := by decide +kernel
theorem dX1_drop_74 : decode cX1_drop 74 = .ok (.iload_n 3, 1) := by decide +kernel
theorem dX1_drop_75 : decode cX1_drop 75 = .ok (.iaload, 1) := by decide +kernel
theorem dX1_drop_76 : decode cX1_drop 76 = .ok (.iastore, 1) := by decide +kernel
theorem dX1_drop_77 : decode cX1_drop 77 = .ok (.iinc 2 1, 3) := by decide +kernel
theorem dX1_drop_80 : decode cX1_drop 80 = .ok (.iinc 3 1, 3) := by decide +kernel
theorem dX1_drop_83 : decode cX1_drop 83 = .ok (.goto (-36), 3) := by decide +kernel
theorem dX1_drop_86 : decode cX1_drop 86 = .ok (.aload_n 0, 1) := by decide +kernel
theorem dX1_drop_87 : decode cX1_drop 87 = .ok (.iload_n 2, 1) := by decide +kernel
theorem dX1_drop_88 : decode cX1_drop 88 = .ok (.putfield 60, 3) := by decide +kernel
theorem dX1_drop_91 : decode cX1_drop 91 = .ok (.return_, 1) := by decide +kernel
theorem dX1_acceptWaiting_0 : decode cX1_acceptWaiting 0 = .ok (.iconst 0, 1) := by decide +kernel
theorem dX1_acceptWaiting_1 : decode cX1_acceptWaiting 1 = .ok (.istore_n 1, 1) := by decide +kernel
theorem dX1_acceptWaiting_2 : decode cX1_acceptWaiting 2 = .ok (.iconst 0, 1) := by decide +kernel
theorem dX1_acceptWaiting_3 : decode cX1_acceptWaiting 3 = .ok (.istore_n 2, 1) := by decide +kernel
theorem dX1_acceptWaiting_4 : decode cX1_acceptWaiting 4 = .ok (.iload_n 2, 1) := by decide +kernel
theorem dX1_acceptWaiting_5 : decode cX1_acceptWaiting 5 = .ok (.aload_n 0, 1) := by decide +kernel
theorem dX1_acceptWaiting_6 : decode cX1_acceptWaiting 6 = .ok (.getfield 60, 3) := by decide +kernel
theorem dX1_acceptWaiting_9 : decode cX1_acceptWaiting 9 = .ok (.if_icmp .ge 52, 3) := by decide +kernel
theorem dX1_acceptWaiting_12 : decode cX1_acceptWaiting 12 = .ok (.aload_n 0, 1) := by decide +kernel
theorem dX1_acceptWaiting_13 : decode cX1_acceptWaiting 13 = .ok (.getfield 19, 3) := by decide +kernel
theorem dX1_acceptWaiting_16 : decode cX1_acceptWaiting 16 = .ok (.aload_n 0, 1) := by decide +kernel
theorem dX1_acceptWaiting_17 : decode cX1_acceptWaiting 17 = .ok (.getfield 23, 3) := by decide +kernel
theorem dX1_acceptWaiting_20 : decode cX1_acceptWaiting 20 = .ok (.iload_n 2, 1) := by decide +kernel
theorem dX1_acceptWaiting_21 : decode cX1_acceptWaiting 21 = .ok (.iaload, 1) := by decide +kernel
theorem dX1_acceptWaiting_22 : decode cX1_acceptWaiting 22 = .ok (.aaload, 1) := by decide +kernel
theorem dX1_acceptWaiting_23 : decode cX1_acceptWaiting 23 = .ok (.astore_n 3, 1) := by decide +kernel
theorem dX1_acceptWaiting_24 : decode cX1_acceptWaiting 24 = .ok (.aload_n 0, 1) := by decide +kernel
theorem dX1_acceptWaiting_25 : decode cX1_acceptWaiting 25 = .ok (.aload_n 3, 1) := by decide +kernel
theorem dX1_acceptWaiting_26 : decode cX1_acceptWaiting 26 = .ok (.invokevirtual 111, 3) := by decide +kernel
theorem dX1_acceptWaiting_29 : decode cX1_acceptWaiting 29 = .ok (.ifCond .eq 11, 3) := by decide +kernel
theorem dX1_acceptWaiting_32 : decode cX1_acceptWaiting 32 = .ok (.aload_n 0, 1) := by decide +kernel
theorem dX1_acceptWaiting_33 : decode cX1_acceptWaiting 33 = .ok (.aload_n 3, 1) := by decide +kernel
theorem dX1_acceptWaiting_34 : decode cX1_acceptWaiting 34 = .ok (.invokevirtual 115, 3) := by decide +kernel
theorem dX1_acceptWaiting_37 : decode cX1_acceptWaiting 37 = .ok (.goto 18, 3) := by decide +kernel
theorem dX1_acceptWaiting_40 : decode cX1_acceptWaiting 40 = .ok (.aload_n 0, 1) := by decide +kernel
theorem dX1_acceptWaiting_41 : decode cX1_acceptWaiting 41 = .ok (.getfield 23, 3) := by decide +kernel
theorem dX1_acceptWaiting_44 : decode cX1_acceptWaiting 44 = .ok (.iload_n 1, 1) := by decide +kernel
theorem dX1_acceptWaiting_45 : decode cX1_acceptWaiting 45 = .ok (.aload_n 0, 1) := by decide +kernel
theorem dX1_acceptWaiting_46 : decode cX1_acceptWaiting 46 = .ok (.getfield 23, 3) := by decide +kernel
theorem dX1_acceptWaiting_49 : decode cX1_acceptWaiting 49 = .ok (.iload_n 2, 1) := by decide +kernel
theorem dX1_acceptWaiting_50 : decode cX1_acceptWaiting 50 = .ok (.iaload, 1) := by decide +kernel
theorem dX1_acceptWaiting_51 : decode cX1_acceptWaiting 51 = .ok (.iastore, 1) := by decide +kernel
theorem dX1_acceptWaiting_52 : decode cX1_acceptWaiting 52 = .ok (.iinc 1 1, 3) := by decide +kernel
theorem dX1_acceptWaiting_55 : decode cX1_acceptWaiting 55 = .ok (.iinc 2 1, 3) := by decide +kernel
theorem dX1_acceptWaiting_58 : decode cX1_acceptWaiting 58 = .ok (.goto (-54), 3) := by decide +kernel
theorem dX1_acceptWaiting_61 : decode cX1_acceptWaiting 61 = .ok (.aload_n 0, 1) := by decide +kernel
theorem dX1_acceptWaiting_62 : decode cX1_acceptWaiting 62 = .ok (.getfield 60, 3) := by decide +kernel
theorem dX1_acceptWaiting_65 : decode cX1_acceptWaiting 65 = .ok (.iload_n 1, 1) := by decide +kernel
theorem dX1_acceptWaiting_66 : decode cX1_acceptWaiting 66 = .ok (.isub, 1) := by decide +kernel
theorem dX1_acceptWaiting_67 : decode cX1_acceptWaiting 67 = .ok (.istore_n 2, 1) := by decide +kernel
theorem dX1_acceptWaiting_68 : decode cX1_acceptWaiting 68 = .ok (.aload_n 0, 1) := by decide +kernel
theorem dX1_acceptWaiting_69 : decode cX1_acceptWaiting 69 = .ok (.iload_n 1, 1) := by decide +kernel
theorem dX1_acceptWaiting_70 : decode cX1_acceptWaiting 70 = .ok (.putfield 60, 3) := by decide +kernel
theorem dX1_acceptWaiting_73 : decode cX1_acceptWaiting 73 = .ok (.iload_n 2, 1) := by decide +kernel
theorem dX1_acceptWaiting_74 : decode cX1_acceptWaiting 74 = .ok (.ireturn, 1) := by decide +kernel
theorem dX2_init_0 : decode cX2_init 0 = .ok (.aload_n 0, 1) := by decide +kernel
theorem dX2_init_1 : decode cX2_init 1 = .ok (.invokespecial 3, 3) := by decide +kernel
theorem dX2_init_4 : decode cX2_init 4 = .ok (.aload_n 0, 1) := by decide +kernel
theorem dX2_init_5 : decode cX2_init 5 = .ok (.sipush 700, 3) := by decide +kernel
theorem dX2_init_8 : decode cX2_init 8 = .ok (.newarray .byte, 2) := by decide +kernel
theorem dX2_init_10 : decode cX2_init 10 = .ok (.putfield 9, 3) := by decide +kernel
theorem dX2_init_13 : decode cX2_init 13 = .ok (.return_, 1) := by decide +kernel
theorem dX2_put_0 : decode cX2_put 0 = .ok (.bipush 24, 2) := by decide +kernel
theorem dX2_put_2 : decode cX2_put 2 = .ok (.istore_n 2, 1) := by decide +kernel
theorem dX2_put_3 : decode cX2_put 3 = .ok (.iload_n 2, 1) := by decide +kernel
theorem dX2_put_4 : decode cX2_put 4 = .ok (.ifCond .lt 44, 3) := by decide +kernel
theorem dX2_put_7 : decode cX2_put 7 = .ok (.aload_n 0, 1) := by decide +kernel
theorem dX2_put_8 : decode cX2_put 8 = .ok (.getfield 15, 3) := by decide +kernel
theorem dX2_put_11 : decode cX2_put 11 = .ok (.aload_n 0, 1) := by decide +kernel
theorem dX2_put_12 : decode cX2_put 12 = .ok (.getfield 9, 3) := by decide +kernel
theorem dX2_put_15 : decode cX2_put 15 = .ok (.arraylength, 1) := by decide +kernel
theorem dX2_put_16 : decode cX2_put 16 = .ok (.if_icmp .ge 26, 3) := by decide +kernel
theorem dX2_put_19 : decode cX2_put 19 = .ok (.aload_n 0, 1) := by decide +kernel
theorem dX2_put_20 : decode cX2_put 20 = .ok (.getfield 9, 3) := by decide +kernel
theorem dX2_put_23 : decode cX2_put 23 = .ok (.aload_n 0, 1) := by decide +kernel
theorem dX2_put_24 : decode cX2_put 24 = .ok (.getfield 15, 3) := by decide +kernel
theorem dX2_put_27 : decode cX2_put 27 = .ok (.iload_n 1, 1) := by decide +kernel
theorem dX2_put_28 : decode cX2_put 28 = .ok (.iload_n 2, 1) := by decide +kernel
theorem dX2_put_29 : decode cX2_put 29 = .ok (.iushr, 1) := by decide +kernel
theorem dX2_put_30 : decode cX2_put 30 = .ok (.i2b, 1) := by decide +kernel
theorem dX2_put_31 : decode cX2_put 31 = .ok (.bastore, 1) := by decide +kernel
theorem dX2_put_32 : decode cX2_put 32 = .ok (.aload_n 0, 1) := by decide +kernel
theorem dX2_put_33 : decode cX2_put 33 = .ok (.dup, 1) := by decide +kernel
theorem dX2_put_34 : decode cX2_put 34 = .ok (.getfield 15, 3) := by decide +kernel
theorem dX2_put_37 : decode cX2_put 37 = .ok (.iconst 1, 1) := by decide +kernel
theorem dX2_put_38 : decode cX2_put 38 = .ok (.iadd, 1) := by decide +kernel
theorem dX2_put_39 : decode cX2_put 39 = .ok (.putfield 15, 3) := by decide +kernel
theorem dX2_put_42 : decode cX2_put 42 = .ok (.iinc 2 (-8), 3) := by decide +kernel
theorem dX2_put_45 : decode cX2_put 45 = .ok (.goto (-42), 3) := by decide +kernel
theorem dX2_put_48 : decode cX2_put 48 = .ok (.return_, 1) := by decide +kernel
theorem dX2_read_0 : decode cX2_read 0 = .ok (.aload_n 1, 1) := by decide +kernel
theorem dX2_read_1 : decode cX2_read 1 = .ok (.invokevirtual 19, 3) := by decide +kernel
theorem dX2_read_4 : decode cX2_read 4 = .ok (.aload_n 0, 1) := by decide +kernel
theorem dX2_read_5 : decode cX2_read 5 = .ok (.iconst 0, 1) := by decide +kernel
theorem dX2_read_6 : decode cX2_read 6 = .ok (.putfield 24, 3) := by decide +kernel
theorem dX2_read_9 : decode cX2_read 9 = .ok (.aload_n 0, 1) := by decide +kernel
theorem dX2_read_10 : decode cX2_read 10 = .ok (.invokevirtual 27, 3) := by decide +kernel
theorem dX2_read_13 : decode cX2_read 13 = .ok (.iconst 0, 1) := by decide +kernel
theorem dX2_read_14 : decode cX2_read 14 = .ok (.istore_n 2, 1) := by decide +kernel
theorem dX2_read_15 : decode cX2_read 15 = .ok (.iload_n 2, 1) := by decide +kernel
theorem dX2_read_16 : decode cX2_read 16 = .ok (.sipush 700, 3) := by decide +kernel
theorem dX2_read_19 : decode cX2_read 19 = .ok (.if_icmp .ge 160, 3) := by decide +kernel
theorem dX2_read_22 : decode cX2_read 22 = .ok (.aload_n 0, 1) := by decide +kernel
theorem dX2_read_23 : decode cX2_read 23 = .ok (.getfield 30, 3) := by decide +kernel
theorem dX2_read_26 : decode cX2_read 26 = .ok (.ifCond .eq 153, 3) := by decide +kernel
theorem dX2_read_29 : decode cX2_read 29 = .ok (.aload_n 0, 1) := by decide +kernel
theorem dX2_read_30 : decode cX2_read 30 = .ok (.ldc 33, 2) := by decide +kernel
theorem dX2_read_32 : decode cX2_read 32 = .ok (.invokevirtual 35, 3) := by decide +kernel
theorem dX2_read_35 : decode cX2_read 35 = .ok (.ifCond .eq 12, 3) := by decide +kernel
theorem dX2_read_38 : decode cX2_read 38 = .ok (.aload_n 0, 1) := by decide +kernel
theorem dX2_read_39 : decode cX2_read 39 = .ok (.aload_n 1, 1) := by decide +kernel
theorem dX2_read_40 : decode cX2_read 40 = .ok (.invokevirtual 39, 3) := by decide +kernel
theorem dX2_read_43 : decode cX2_read 43 = .ok (.istore_n 3, 1) := by decide +kernel
theorem dX2_read_44 : decode cX2_read 44 = .ok (.goto 116, 3) := by decide +kernel
theorem dX2_read_47 : decode cX2_read 47 = .ok (.aload_n 0, 1) := by decide +kernel
theorem dX2_read_48 : decode cX2_read 48 = .ok (.ldc 43, 2) := by decide +kernel
theorem dX2_read_50 : decode cX2_read 50 = .ok (.invokevirtual 35, 3) := by decide +kernel
theorem dX2_read_53 : decode cX2_read 53 = .ok (.ifCond .eq 12, 3) := by decide +kernel
theorem dX2_read_56 : decode cX2_read 56 = .ok (.aload_n 0, 1) := by decide +kernel
theorem dX2_read_57 : decode cX2_read 57 = .ok (.aload_n 1, 1) := by decide +kernel
theorem dX2_read_58 : decode cX2_read 58 = .ok (.invokevirtual 45, 3) := by decide +kernel
theorem dX2_read_61 : decode cX2_read 61 = .ok (.istore_n 3, 1) := by decide +kernel
theorem dX2_read_62 : decode cX2_read 62 = .ok (.goto 98, 3) := by decide +kernel
theorem dX2_read_65 : decode cX2_read 65 = .ok (.aload_n 0, 1) := by decide +kernel
theorem dX2_read_66 : decode cX2_read 66 = .ok (.ldc 48, 2) := by decide +kernel
theorem dX2_read_68 : decode cX2_read 68 = .ok (.invokevirtual 35, 3) := by decide +kernel
theorem dX2_read_71 : decode cX2_read 71 = .ok (.ifCond .eq 12, 3) := by decide +kernel
theorem dX2_read_74 : decode cX2_read 74 = .ok (.aload_n 0, 1) := by decide +kernel
theorem dX2_read_75 : decode cX2_read 75 = .ok (.aload_n 1, 1) := by decide +kernel
theorem dX2_read_76 : decode cX2_read 76 = .ok (.invokevirtual 50, 3) := by decide +kernel
theorem dX2_read_79 : decode cX2_read 79 = .ok (.istore_n 3, 1) := by decide +kernel
theorem dX2_read_80 : decode cX2_read 80 = .ok (.goto 80, 3) := by decide +kernel
theorem dX2_read_83 : decode cX2_read 83 = .ok (.aload_n 0, 1) := by decide +kernel
theorem dX2_read_84 : decode cX2_read 84 = .ok (.ldc 53, 2) := by decide +kernel
theorem dX2_read_86 : decode cX2_read 86 = .ok (.invokevirtual 35, 3) := by decide +kernel
theorem dX2_read_89 : decode cX2_read 89 = .ok (.ifCond .eq 12, 3) := by decide +kernel
theorem dX2_read_92 : decode cX2_read 92 = .ok (.aload_n 0, 1) := by decide +kernel
theorem dX2_read_93 : decode cX2_read 93 = .ok (.aload_n 1, 1) := by decide +kernel
theorem dX2_read_94 : decode cX2_read 94 = .ok (.invokevirtual 55, 3) := by decide +kernel
theorem dX2_read_97 : decode cX2_read 97 = .ok (.istore_n 3, 1) := by decide +kernel
theorem dX2_read_98 : decode cX2_read 98 = .ok (.goto 62, 3) := by decide +kernel
theorem dX2_read_101 : decode cX2_read 101 = .ok (.aload_n 0, 1) := by decide +kernel
theorem dX2_read_102 : decode cX2_read 102 = .ok (.ldc 58, 2) := by decide +kernel
theorem dX2_read_104 : decode cX2_read 104 = .ok (.invokevirtual 35, 3) := by decide +kernel
theorem dX2_read_107 : decode cX2_read 107 = .ok (.ifCond .eq 12, 3) := by decide +kernel
theorem dX2_read_110 : decode cX2_read 110 = .ok (.aload_n 0, 1) := by decide +kernel
theorem dX2_read_111 : decode cX2_read 111 = .ok (.aload_n 1, 1) := by decide +kernel
theorem dX2_read_112 : decode cX2_read 112 = .ok (.invokevirtual 60, 3) := by decide +kernel
theorem dX2_read_115 : decode cX2_read 115 = .ok (.istore_n 3, 1) := by decide +kernel
theorem dX2_read_116 : decode cX2_read 116 = .ok (.goto 44, 3) := by decide +kernel
theorem dX2_read_119 : decode cX2_read 119 = .ok (.aload_n 0, 1) := by decide +kernel
theorem dX2_read_120 : decode cX2_read 120 = .ok (.ldc 63, 2) := by decide +kernel
theorem dX2_read_122 : decode cX2_read 122 = .ok (.invokevirtual 35, 3) := by decide +kernel
theorem dX2_read_125 : decode cX2_read 125 = .ok (.ifCond .eq 12, 3) := by decide +kernel
theorem dX2_read_128 : decode cX2_read 128 = .ok (.aload_n 0, 1) := by decide +kernel
theorem dX2_read_129 : decode cX2_read 129 = .ok (.aload_n 1, 1) := by decide +kernel
theorem dX2_read_130 : decode cX2_read 130 = .ok (.invokevirtual 65, 3) := by decide +kernel
theorem dX2_read_133 : decode cX2_read 133 = .ok (.istore_n 3, 1) := by decide +kernel
theorem dX2_read_134 : decode cX2_read 134 = .ok (.goto 26, 3) := by decide +kernel
theorem dX2_read_137 : decode cX2_read 137 = .ok (.aload_n 0, 1) := by decide +kernel
theorem dX2_read_138 : decode cX2_read 138 = .ok (.ldc 68, 2) := by decide +kernel
theorem dX2_read_140 : decode cX2_read 140 = .ok (.invokevirtual 35, 3) := by decide +kernel
theorem dX2_read_143 : decode cX2_read 143 = .ok (.ifCond .eq 15, 3) := by decide +kernel
theorem dX2_read_146 : decode cX2_read 146 = .ok (.aload_n 0, 1) := by decide +kernel
theorem dX2_read_147 : decode cX2_read 147 = .ok (.aload_n 1, 1) := by decide +kernel
theorem dX2_read_148 : decode cX2_read 148 = .ok (.invokevirtual 70, 3) := by decide +kernel
theorem dX2_read_151 : decode cX2_read 151 = .ok (.ifCond .eq 7, 3) := by decide +kernel
theorem dX2_read_154 : decode cX2_read 154 = .ok (.iconst 1, 1) := by decide +kernel
theorem dX2_read_155 : decode cX2_read 155 = .ok (.goto 4, 3) := by decide +kernel
theorem dX2_read_158 : decode cX2_read 158 = .ok (.iconst 0, 1) := by decide +kernel
theorem dX2_read_159 : decode cX2_read 159 = .ok (.istore_n 3, 1) := by decide +kernel
theorem dX2_read_160 : decode cX2_read 160 = .ok (.iload_n 3, 1) := by decide +kernel
theorem dX2_read_161 : decode cX2_read 161 = .ok (.ifCond .ne 8, 3) := by decide +kernel
theorem dX2_read_164 : decode cX2_read 164 = .ok (.aload_n 0, 1) := by decide +kernel
theorem dX2_read_165 : decode cX2_read 165 = .ok (.getfield 73, 3) := by decide +kernel
theorem dX2_read_168 : decode cX2_read 168 = .ok (.ireturn, 1) := by decide +kernel
theorem dX2_read_169 : decode cX2_read 169 = .ok (.aload_n 0, 1) := by decide +kernel
theorem dX2_read_170 : decode cX2_read 170 = .ok (.invokevirtual 27, 3) := by decide +kernel
theorem dX2_read_173 : decode cX2_read 173 = .ok (.iinc 2 1, 3) := by decide +kernel
theorem dX2_read_176 : decode cX2_read 176 = .ok (.goto (-161), 3) := by decide +kernel
theorem dX2_read_179 : decode cX2_read 179 = .ok (.iconst (-1), 1) := by decide +kernel
theorem dX2_read_180 : decode cX2_read 180 = .ok (.ireturn, 1) := by decide +kernel
theorem dX2_advance_0 : decode cX2_advance 0 = .ok (.aload_n 0, 1) := by decide +kernel
theorem dX2_advance_1 : decode cX2_advance 1 = .ok (.getfield 24, 3) := by decide +kernel
theorem dX2_advance_4 : decode cX2_advance 4 = .ok (.aload_n 0, 1) := by decide +kernel
theorem dX2_advance_5 : decode cX2_advance 5 = .ok (.getfield 15, 3) := by decide +kernel
theorem dX2_advance_8 : decode cX2_advance 8 = .ok (.if_icmp .ge 44, 3) := by decide +kernel
theorem dX2_advance_11 : decode cX2_advance 11 = .ok (.aload_n 0, 1) := by decide +kernel
theorem dX2_advance_12 : decode cX2_advance 12 = .ok (.getfield 9, 3) := by decide +kernel
theorem dX2_advance_15 : decode cX2_advance 15 = .ok (.aload_n 0, 1) := by decide +kernel
theorem dX2_advance_16 : decode cX2_advance 16 = .ok (.getfield 24, 3) := by decide +kernel
theorem dX2_advance_19 : decode cX2_advance 19 = .ok (.baload, 1) := by decide +kernel
theorem dX2_advance_20 : decode cX2_advance 20 = .ok (.bipush 32, 2) := by decide +kernel
theorem dX2_advance_22 : decode cX2_advance 22 = .ok (.if_icmp .eq 17, 3) := by decide +kernel
theorem dX2_advance_25 : decode cX2_advance 25 = .ok (.aload_n 0, 1) := by decide +kernel
theorem dX2_advance_26 : decode cX2_advance 26 = .ok (.getfield 9, 3) := by decide +kernel
theorem dX2_advance_29 : decode cX2_advance 29 = .ok (.aload_n 0, 1) := by decide +kernel
theorem dX2_advance_30 : decode cX2_advance 30 = .ok (.getfield 24, 3) := by decide +kernel
theorem dX2_advance_33 : decode cX2_advance 33 = .ok (.baload, 1) := by decide +kernel
theorem dX2_advance_34 : decode cX2_advance 34 = .ok (.bipush 10, 2) := by decide +kernel
theorem dX2_advance_36 : decode cX2_advance 36 = .ok (.if_icmp .ne 16, 3) := by decide +kernel
theorem dX2_advance_39 : decode cX2_advance 39 = .ok (.aload_n 0, 1) := by decide +kernel
theorem dX2_advance_40 : decode cX2_advance 40 = .ok (.dup, 1) := by decide +kernel
theorem dX2_advance_41 : decode cX2_advance 41 = .ok (.getfield 24, 3) := by decide +kernel
theorem dX2_advance_44 : decode cX2_advance 44 = .ok (.iconst 1, 1) := by decide +kernel
theorem dX2_advance_45 : decode cX2_advance 45 = .ok (.iadd, 1) := by decide +kernel
theorem dX2_advance_46 : decode cX2_advance 46 = .ok (.putfield 24, 3) := by decide +kernel
theorem dX2_advance_49 : decode cX2_advance 49 = .ok (.goto (-49), 3) := by decide +kernel
theorem dX2_advance_52 : decode cX2_advance 52 = .ok (.aload_n 0, 1) := by decide +kernel
theorem dX2_advance_53 : decode cX2_advance 53 = .ok (.aload_n 0, 1) := by decide +kernel
theorem dX2_advance_54 : decode cX2_advance 54 = .ok (.getfield 24, 3) := by decide +kernel
theorem dX2_advance_57 : decode cX2_advance 57 = .ok (.putfield 73, 3) := by decide +kernel
theorem dX2_advance_60 : decode cX2_advance 60 = .ok (.aload_n 0, 1) := by decide +kernel
theorem dX2_advance_61 : decode cX2_advance 61 = .ok (.getfield 24, 3) := by decide +kernel
theorem dX2_advance_64 : decode cX2_advance 64 = .ok (.aload_n 0, 1) := by decide +kernel
theorem dX2_advance_65 : decode cX2_advance 65 = .ok (.getfield 15, 3) := by decide +kernel
theorem dX2_advance_68 : decode cX2_advance 68 = .ok (.if_icmp .lt 11, 3) := by decide +kernel
theorem dX2_advance_71 : decode cX2_advance 71 = .ok (.aload_n 0, 1) := by decide +kernel
theorem dX2_advance_72 : decode cX2_advance 72 = .ok (.iconst 0, 1) := by decide +kernel
theorem dX2_advance_73 : decode cX2_advance 73 = .ok (.putfield 30, 3) := by decide +kernel
theorem dX2_advance_76 : decode cX2_advance 76 = .ok (.goto 106, 3) := by decide +kernel
theorem dX2_advance_79 : decode cX2_advance 79 = .ok (.aload_n 0, 1) := by decide +kernel
theorem dX2_advance_80 : decode cX2_advance 80 = .ok (.getfield 9, 3) := by decide +kernel
theorem dX2_advance_83 : decode cX2_advance 83 = .ok (.aload_n 0, 1) := by decide +kernel
theorem dX2_advance_84 : decode cX2_advance 84 = .ok (.getfield 24, 3) := by decide +kernel
theorem dX2_advance_87 : decode cX2_advance 87 = .ok (.baload, 1) := by decide +kernel
theorem dX2_advance_88 : decode cX2_advance 88 = .ok (.bipush 97, 2) := by decide +kernel
theorem dX2_advance_90 : decode cX2_advance 90 = .ok (.if_icmp .lt 24, 3) := by decide +kernel
theorem dX2_advance_93 : decode cX2_advance 93 = .ok (.aload_n 0, 1) := by decide +kernel
theorem dX2_advance_94 : decode cX2_advance 94 = .ok (.getfield 9, 3) := by decide +kernel
theorem dX2_advance_97 : decode cX2_advance 97 = .ok (.aload_n 0, 1) := by decide +kernel
theorem dX2_advance_98 : decode cX2_advance 98 = .ok (.getfield 24, 3) := by decide +kernel
theorem dX2_advance_101 : decode cX2_advance 101 = .ok (.baload, 1) := by decide +kernel
theorem dX2_advance_102 : decode cX2_advance 102 = .ok (.bipush 122, 2) := by decide +kernel
theorem dX2_advance_104 : decode cX2_advance 104 = .ok (.if_icmp .gt 10, 3) := by decide +kernel
theorem dX2_advance_107 : decode cX2_advance 107 = .ok (.aload_n 0, 1) := by decide +kernel
theorem dX2_advance_108 : decode cX2_advance 108 = .ok (.invokevirtual 80, 3) := by decide +kernel
theorem dX2_advance_111 : decode cX2_advance 111 = .ok (.goto 71, 3) := by decide +kernel
theorem dX2_advance_114 : decode cX2_advance 114 = .ok (.aload_n 0, 1) := by decide +kernel
theorem dX2_advance_115 : decode cX2_advance 115 = .ok (.getfield 9, 3) := by decide +kernel
theorem dX2_advance_118 : decode cX2_advance 118 = .ok (.aload_n 0, 1) := by decide +kernel
theorem dX2_advance_119 : decode cX2_advance 119 = .ok (.getfield 24, 3) := by decide +kernel
theorem dX2_advance_122 : decode cX2_advance 122 = .ok (.baload, 1) := by decide +kernel
theorem dX2_advance_123 : decode cX2_advance 123 = .ok (.bipush 48, 2) := by decide +kernel
theorem dX2_advance_125 : decode cX2_advance 125 = .ok (.if_icmp .lt 24, 3) := by decide +kernel
theorem dX2_advance_128 : decode cX2_advance 128 = .ok (.aload_n 0, 1) := by decide +kernel
theorem dX2_advance_129 : decode cX2_advance 129 = .ok (.getfield 9, 3) := by decide +kernel
theorem dX2_advance_132 : decode cX2_advance 132 = .ok (.aload_n 0, 1) := by decide +kernel
theorem dX2_advance_133 : decode cX2_advance 133 = .ok (.getfield 24, 3) := by decide +kernel
theorem dX2_advance_136 : decode cX2_advance 136 = .ok (.baload, 1) := by decide +kernel
theorem dX2_advance_137 : decode cX2_advance 137 = .ok (.bipush 57, 2) := by decide +kernel
theorem dX2_advance_139 : decode cX2_advance 139 = .ok (.if_icmp .gt 10, 3) := by decide +kernel
theorem dX2_advance_142 : decode cX2_advance 142 = .ok (.aload_n 0, 1) := by decide +kernel
theorem dX2_advance_143 : decode cX2_advance 143 = .ok (.invokevirtual 83, 3) := by decide +kernel
theorem dX2_advance_146 : decode cX2_advance 146 = .ok (.goto 36, 3) := by decide +kernel
theorem dX2_advance_149 : decode cX2_advance 149 = .ok (.aload_n 0, 1) := by decide +kernel
theorem dX2_advance_150 : decode cX2_advance 150 = .ok (.aload_n 0, 1) := by decide +kernel
theorem dX2_advance_151 : decode cX2_advance 151 = .ok (.getfield 9, 3) := by decide +kernel
theorem dX2_advance_154 : decode cX2_advance 154 = .ok (.aload_n 0, 1) := by decide +kernel
theorem dX2_advance_155 : decode cX2_advance 155 = .ok (.getfield 24, 3) := by decide +kernel
theorem dX2_advance_158 : decode cX2_advance 158 = .ok (.baload, 1) := by decide +kernel
theorem dX2_advance_159 : decode cX2_advance 159 = .ok (.bipush 59, 2) := by decide +kernel
theorem dX2_advance_161 : decode cX2_advance 161 = .ok (.if_icmp .ne 7, 3) := by decide +kernel
theorem dX2_advance_164 : decode cX2_advance 164 = .ok (.iconst 3, 1) := by decide +kernel
theorem dX2_advance_165 : decode cX2_advance 165 = .ok (.goto 4, 3) := by decide +kernel
theorem dX2_advance_168 : decode cX2_advance 168 = .ok (.iconst 4, 1) := by decide +kernel
theorem dX2_advance_169 : decode cX2_advance 169 = .ok (.putfield 30, 3) := by decide +kernel
theorem dX2_advance_172 : decode cX2_advance 172 = .ok (.aload_n 0, 1) := by decide +kernel
theorem dX2_advance_173 : decode cX2_advance 173 = .ok (.dup, 1) := by decide +kernel
theorem dX2_advance_174 : decode cX2_advance 174 = .ok (.getfield 24, 3) := by decide +kernel
theorem dX2_advance_177 : decode cX2_advance 177 = .ok (.iconst 1, 1) := by decide +kernel
theorem dX2_advance_178 : decode cX2_advance 178 = .ok (.iadd, 1) := by decide +kernel
theorem dX2_advance_179 : decode cX2_advance 179 = .ok (.putfield 24, 3) := by decide +kernel
theorem dX2_advance_182 : decode cX2_advance 182 = .ok (.return_, 1) := by decide +kernel
theorem dX2_takeWord_0 : decode cX2_takeWord 0 = .ok (.aload_n 0, 1) := by decide +kernel
theorem dX2_takeWord_1 : decode cX2_takeWord 1 = .ok (.lconst 0, 1) := by decide +kernel
theorem dX2_takeWord_2 : decode cX2_takeWord 2 = .ok (.putfield 76, 3) := by decide +kernel
theorem dX2_takeWord_5 : decode cX2_takeWord 5 = .ok (.aload_n 0, 1) := by decide +kernel
theorem dX2_takeWord_6 : decode cX2_takeWord 6 = .ok (.getfield 24, 3) := by decide +kernel
theorem dX2_takeWord_9 : decode cX2_takeWord 9 = .ok (.aload_n 0, 1) := by decide +kernel
theorem dX2_takeWord_10 : decode cX2_takeWord 10 = .ok (.getfield 15, 3) := by decide +kernel
theorem dX2_takeWord_13 : decode cX2_takeWord 13 = .ok (.if_icmp .ge 66, 3) := by decide +kernel
theorem dX2_takeWord_16 : decode cX2_takeWord 16 = .ok (.aload_n 0, 1) := by decide +kernel
theorem dX2_takeWord_17 : decode cX2_takeWord 17 = .ok (.getfield 9, 3) := by decide +kernel
theorem dX2_takeWord_20 : decode cX2_takeWord 20 = .ok (.aload_n 0, 1) := by decide +kernel
theorem dX2_takeWord_21 : decode cX2_takeWord 21 = .ok (.getfield 24, 3) := by decide +kernel
theorem dX2_takeWord_24 : decode cX2_takeWord 24 = .ok (.baload, 1) := by decide +kernel
theorem dX2_takeWord_25 : decode cX2_takeWord 25 = .ok (.bipush 97, 2) := by decide +kernel
theorem dX2_takeWord_27 : decode cX2_takeWord 27 = .ok (.if_icmp .lt 52, 3) := by decide +kernel
theorem dX2_takeWord_30 : decode cX2_takeWord 30 = .ok (.aload_n 0, 1) := by decide +kernel
theorem dX2_takeWord_31 : decode cX2_takeWord 31 = .ok (.getfield 9, 3) := by decide +kernel
theorem dX2_takeWord_34 : decode cX2_takeWord 34 = .ok (.aload_n 0, 1) := by decide +kernel
theorem dX2_takeWord_35 : decode cX2_takeWord 35 = .ok (.getfield 24, 3) := by decide +kernel
theorem dX2_takeWord_38 : decode cX2_takeWord 38 = .ok (.baload, 1) := by decide +kernel
theorem dX2_takeWord_39 : decode cX2_takeWord 39 = .ok (.bipush 122, 2) := by decide +kernel
theorem dX2_takeWord_41 : decode cX2_takeWord 41 = .ok (.if_icmp .gt 38, 3) := by decide +kernel
theorem dX2_takeWord_44 : decode cX2_takeWord 44 = .ok (.aload_n 0, 1) := by decide +kernel
theorem dX2_takeWord_45 : decode cX2_takeWord 45 = .ok (.aload_n 0, 1) := by decide +kernel
theorem dX2_takeWord_46 : decode cX2_takeWord 46 = .ok (.getfield 76, 3) := by decide +kernel
theorem dX2_takeWord_49 : decode cX2_takeWord 49 = .ok (.bipush 8, 2) := by decide +kernel
theorem dX2_takeWord_51 : decode cX2_takeWord 51 = .ok (.lshl, 1) := by decide +kernel
theorem dX2_takeWord_52 : decode cX2_takeWord 52 = .ok (.aload_n 0, 1) := by decide +kernel
theorem dX2_takeWord_53 : decode cX2_takeWord 53 = .ok (.getfield 9, 3) := by decide +kernel
theorem dX2_takeWord_56 : decode cX2_takeWord 56 = .ok (.aload_n 0, 1) := by decide +kernel
theorem dX2_takeWord_57 : decode cX2_takeWord 57 = .ok (.getfield 24, 3) := by decide +kernel
theorem dX2_takeWord_60 : decode cX2_takeWord 60 = .ok (.baload, 1) := by decide +kernel
theorem dX2_takeWord_61 : decode cX2_takeWord 61 = .ok (.i2l, 1) := by decide +kernel
theorem dX2_takeWord_62 : decode cX2_takeWord 62 = .ok (.lor, 1) := by decide +kernel
theorem dX2_takeWord_63 : decode cX2_takeWord 63 = .ok (.putfield 76, 3) := by decide +kernel
theorem dX2_takeWord_66 : decode cX2_takeWord 66 = .ok (.aload_n 0, 1) := by decide +kernel
theorem dX2_takeWord_67 : decode cX2_takeWord 67 = .ok (.dup, 1) := by decide +kernel
theorem dX2_takeWord_68 : decode cX2_takeWord 68 = .ok (.getfield 24, 3) := by decide +kernel
theorem dX2_takeWord_71 : decode cX2_takeWord 71 = .ok (.iconst 1, 1) := by decide +kernel
theorem dX2_takeWord_72 : decode cX2_takeWord 72 = .ok (.iadd, 1) := by decide +kernel
theorem dX2_takeWord_73 : decode cX2_takeWord 73 = .ok (.putfield 24, 3) := by decide +kernel
theorem dX2_takeWord_76 : decode cX2_takeWord 76 = .ok (.goto (-71), 3) := by decide +kernel
theorem dX2_takeWord_79 : decode cX2_takeWord 79 = .ok (.aload_n 0, 1) := by decide +kernel
theorem dX2_takeWord_80 : decode cX2_takeWord 80 = .ok (.aload_n 0, 1) := by decide +kernel
theorem dX2_takeWord_81 : decode cX2_takeWord 81 = .ok (.getfield 24, 3) := by decide +kernel
theorem dX2_takeWord_84 : decode cX2_takeWord 84 = .ok (.aload_n 0, 1) := by decide +kernel
theorem dX2_takeWord_85 : decode cX2_takeWord 85 = .ok (.getfield 73, 3) := by decide +kernel
theorem dX2_takeWord_88 : decode cX2_takeWord 88 = .ok (.isub, 1) := by decide +kernel
theorem dX2_takeWord_89 : decode cX2_takeWord 89 = .ok (.bipush 8, 2) := by decide +kernel
theorem dX2_takeWord_91 : decode cX2_takeWord 91 = .ok (.if_icmp .gt 7, 3) := by decide +kernel
theorem dX2_takeWord_94 : decode cX2_takeWord 94 = .ok (.iconst 1, 1) := by decide +kernel
theorem dX2_takeWord_95 : decode cX2_takeWord 95 = .ok (.goto 4, 3) := by decide +kernel
theorem dX2_takeWord_98 : decode cX2_takeWord 98 = .ok (.iconst 4, 1) := by decide +kernel
theorem dX2_takeWord_99 : decode cX2_takeWord 99 = .ok (.putfield 30, 3) := by decide +kernel
theorem dX2_takeWord_102 : decode cX2_takeWord 102 = .ok (.return_, 1) := by decide +kernel
theorem dX2_takeNumber_0 : decode cX2_takeNumber 0 = .ok (.aload_n 0, 1) := by decide +kernel
theorem dX2_takeNumber_1 : decode cX2_takeNumber 1 = .ok (.iconst 0, 1) := by decide +kernel
theorem dX2_takeNumber_2 : decode cX2_takeNumber 2 = .ok (.putfield 86, 3) := by decide +kernel
theorem dX2_takeNumber_5 : decode cX2_takeNumber 5 = .ok (.aload_n 0, 1) := by decide +kernel
theorem dX2_takeNumber_6 : decode cX2_takeNumber 6 = .ok (.getfield 24, 3) := by decide +kernel
theorem dX2_takeNumber_9 : decode cX2_takeNumber 9 = .ok (.aload_n 0, 1) := by decide +kernel
theorem dX2_takeNumber_10 : decode cX2_takeNumber 10 = .ok (.getfield 15, 3) := by decide +kernel
theorem dX2_takeNumber_13 : decode cX2_takeNumber 13 = .ok (.if_icmp .ge 68, 3) := by decide +kernel
theorem dX2_takeNumber_16 : decode cX2_takeNumber 16 = .ok (.aload_n 0, 1) := by decide +kernel
theorem dX2_takeNumber_17 : decode cX2_takeNumber 17 = .ok (.getfield 9, 3) := by decide +kernel
theorem dX2_takeNumber_20 : decode cX2_takeNumber 20 = .ok (.aload_n 0, 1) := by decide +kernel
theorem dX2_takeNumber_21 : decode cX2_takeNumber 21 = .ok (.getfield 24, 3) := by decide +kernel
theorem dX2_takeNumber_24 : decode cX2_takeNumber 24 = .ok (.baload, 1) := by decide +kernel
theorem dX2_takeNumber_25 : decode cX2_takeNumber 25 = .ok (.bipush 48, 2) := by decide +kernel
theorem dX2_takeNumber_27 : decode cX2_takeNumber 27 = .ok (.if_icmp .lt 54, 3) := by decide +kernel
theorem dX2_takeNumber_30 : decode cX2_takeNumber 30 = .ok (.aload_n 0, 1) := by decide +kernel
theorem dX2_takeNumber_31 : decode cX2_takeNumber 31 = .ok (.getfield 9, 3) := by decide +kernel
theorem dX2_takeNumber_34 : decode cX2_takeNumber 34 = .ok (.aload_n 0, 1) := by decide +kernel
theorem dX2_takeNumber_35 : decode cX2_takeNumber 35 = .ok (.getfield 24, 3) := by decide +kernel
theorem dX2_takeNumber_38 : decode cX2_takeNumber 38 = .ok (.baload, 1) := by decide +kernel
theorem dX2_takeNumber_39 : decode cX2_takeNumber 39 = .ok (.bipush 57, 2) := by decide +kernel
theorem dX2_takeNumber_41 : decode cX2_takeNumber 41 = .ok (.if_icmp .gt 40, 3) := by decide +kernel
theorem dX2_takeNumber_44 : decode cX2_takeNumber 44 = .ok (.aload_n 0, 1) := by decide +kernel
theorem dX2_takeNumber_45 : decode cX2_takeNumber 45 = .ok (.aload_n 0, 1) := by decide +kernel
theorem dX2_takeNumber_46 : decode cX2_takeNumber 46 = .ok (.getfield 86, 3) := by decide +kernel
theorem dX2_takeNumber_49 : decode cX2_takeNumber 49 = .ok (.bipush 10, 2) := by decide +kernel
theorem dX2_takeNumber_51 : decode cX2_takeNumber 51 = .ok (.imul, 1) := by decide +kernel
theorem dX2_takeNumber_52 : decode cX2_takeNumber 52 = .ok (.aload_n 0, 1) := by decide +kernel
theorem dX2_takeNumber_53 : decode cX2_takeNumber 53 = .ok (.getfield 9, 3) := by decide +kernel
theorem dX2_takeNumber_56 : decode cX2_takeNumber 56 = .ok (.aload_n 0, 1) := by decide +kernel
theorem dX2_takeNumber_57 : decode cX2_takeNumber 57 = .ok (.getfield 24, 3) := by decide +kernel
theorem dX2_takeNumber_60 : decode cX2_takeNumber 60 = .ok (.baload, 1) := by decide +kernel
theorem dX2_takeNumber_61 : decode cX2_takeNumber 61 = .ok (.iadd, 1) := by decide +kernel
theorem dX2_takeNumber_62 : decode cX2_takeNumber 62 = .ok (.bipush 48, 2) := by decide +kernel
theorem dX2_takeNumber_64 : decode cX2_takeNumber 64 = .ok (.isub, 1) := by decide +kernel
theorem dX2_takeNumber_65 : decode cX2_takeNumber 65 = .ok (.putfield 86, 3) := by decide +kernel
theorem dX2_takeNumber_68 : decode cX2_takeNumber 68 = .ok (.aload_n 0, 1) := by decide +kernel
theorem dX2_takeNumber_69 : decode cX2_takeNumber 69 = .ok (.dup, 1) := by decide +kernel
theorem dX2_takeNumber_70 : decode cX2_takeNumber 70 = .ok (.getfield 24, 3) := by decide +kernel
theorem dX2_takeNumber_73 : decode cX2_takeNumber 73 = .ok (.iconst 1, 1) := by decide +kernel
theorem dX2_takeNumber_74 : decode cX2_takeNumber 74 = .ok (.iadd, 1) := by decide +kernel
theorem dX2_takeNumber_75 : decode cX2_takeNumber 75 = .ok (.putfield 24, 3) := by decide +kernel
theorem dX2_takeNumber_78 : decode cX2_takeNumber 78 = .ok (.goto (-73), 3) := by decide +kernel
theorem dX2_takeNumber_81 : decode cX2_takeNumber 81 = .ok (.aload_n 0, 1) := by decide +kernel
theorem dX2_takeNumber_82 : decode cX2_takeNumber 82 = .ok (.aload_n 0, 1) := by decide +kernel
theorem dX2_takeNumber_83 : decode cX2_takeNumber 83 = .ok (.getfield 24, 3) := by decide +kernel
theorem dX2_takeNumber_86 : decode cX2_takeNumber 86 = .ok (.aload_n 0, 1) := by decide +kernel
theorem dX2_takeNumber_87 : decode cX2_takeNumber 87 = .ok (.getfield 73, 3) := by decide +kernel
theorem dX2_takeNumber_90 : decode cX2_takeNumber 90 = .ok (.isub, 1) := by decide +kernel
theorem dX2_takeNumber_91 : decode cX2_takeNumber 91 = .ok (.iconst 3, 1) := by decide +kernel
theorem dX2_takeNumber_92 : decode cX2_takeNumber 92 = .ok (.if_icmp .gt 7, 3) := by decide +kernel
theorem dX2_takeNumber_95 : decode cX2_takeNumber 95 = .ok (.iconst 2, 1) := by decide +kernel
theorem dX2_takeNumber_96 : decode cX2_takeNumber 96 = .ok (.goto 4, 3) := by decide +kernel
theorem dX2_takeNumber_99 : decode cX2_takeNumber 99 = .ok (.iconst 4, 1) := by decide +kernel
theorem dX2_takeNumber_100 : decode cX2_takeNumber 100 = .ok (.putfield 30, 3) := by decide +kernel
theorem dX2_takeNumber_103 : decode cX2_takeNumber 103 = .ok (.return_, 1) := by decide +kernel
theorem dX2_isWord_0 : decode cX2_isWord 0 = .ok (.aload_n 0, 1) := by decide +kernel
theorem dX2_isWord_1 : decode cX2_isWord 1 = .ok (.getfield 30, 3) := by decide +kernel
theorem dX2_isWord_4 : decode cX2_isWord 4 = .ok (.iconst 1, 1) := by decide +kernel
theorem dX2_isWord_5 : decode cX2_isWord 5 = .ok (.if_icmp .ne 19, 3) := by decide +kernel
theorem dX2_isWord_8 : decode cX2_isWord 8 = .ok (.aload_n 0, 1) := by decide +kernel
theorem dX2_isWord_9 : decode cX2_isWord 9 = .ok (.getfield 24, 3) := by decide +kernel
theorem dX2_isWord_12 : decode cX2_isWord 12 = .ok (.aload_n 0, 1) := by decide +kernel
theorem dX2_isWord_13 : decode cX2_isWord 13 = .ok (.getfield 73, 3) := by decide +kernel
theorem dX2_isWord_16 : decode cX2_isWord 16 = .ok (.isub, 1) := by decide +kernel
theorem dX2_isWord_17 : decode cX2_isWord 17 = .ok (.aload_n 1, 1) := by decide +kernel
theorem dX2_isWord_18 : decode cX2_isWord 18 = .ok (.invokevirtual 89, 3) := by decide +kernel
theorem dX2_isWord_21 : decode cX2_isWord 21 = .ok (.if_icmp .eq 5, 3) := by decide +kernel
theorem dX2_isWord_24 : decode cX2_isWord 24 = .ok (.iconst 0, 1) := by decide +kernel
theorem dX2_isWord_25 : decode cX2_isWord 25 = .ok (.ireturn, 1) := by decide +kernel
theorem dX2_isWord_26 : decode cX2_isWord 26 = .ok (.iconst 0, 1) := by decide +kernel
theorem dX2_isWord_27 : decode cX2_isWord 27 = .ok (.istore_n 2, 1) := by decide +kernel
theorem dX2_isWord_28 : decode cX2_isWord 28 = .ok (.iload_n 2, 1) := by decide +kernel
theorem dX2_isWord_29 : decode cX2_isWord 29 = .ok (.aload_n 1, 1) := by decide +kernel
theorem dX2_isWord_30 : decode cX2_isWord 30 = .ok (.invokevirtual 89, 3) := by decide +kernel
theorem dX2_isWord_33 : decode cX2_isWord 33 = .ok (.if_icmp .ge 30, 3) := by decide +kernel
theorem dX2_isWord_36 : decode cX2_isWord 36 = .ok (.aload_n 0, 1) := by decide +kernel
theorem dX2_isWord_37 : decode cX2_isWord 37 = .ok (.getfield 9, 3) := by decide +kernel
theorem dX2_isWord_40 : decode cX2_isWord 40 = .ok (.aload_n 0, 1) := by decide +kernel
theorem dX2_isWord_41 : decode cX2_isWord 41 = .ok (.getfield 73, 3) := by decide +kernel
theorem dX2_isWord_44 : decode cX2_isWord 44 = .ok (.iload_n 2, 1) := by decide +kernel
theorem dX2_isWord_45 : decode cX2_isWord 45 = .ok (.iadd, 1) := by decide +kernel
theorem dX2_isWord_46 : decode cX2_isWord 46 = .ok (.baload, 1) := by decide +kernel
theorem dX2_isWord_47 : decode cX2_isWord 47 = .ok (.aload_n 1, 1) := by decide +kernel
theorem dX2_isWord_48 : decode cX2_isWord 48 = .ok (.iload_n 2, 1) := by decide +kernel
theorem dX2_isWord_49 : decode cX2_isWord 49 = .ok (.invokevirtual 94, 3) := by decide +kernel
theorem dX2_isWord_52 : decode cX2_isWord 52 = .ok (.if_icmp .eq 5, 3) := by decide +kernel
theorem dX2_isWord_55 : decode cX2_isWord 55 = .ok (.iconst 0, 1) := by decide +kernel
theorem dX2_isWord_56 : decode cX2_isWord 56 = .ok (.ireturn, 1) := by decide +kernel
theorem dX2_isWord_57 : decode cX2_isWord 57 = .ok (.iinc 2 1, 3) := by decide +kernel
theorem dX2_isWord_60 : decode cX2_isWord 60 = .ok (.goto (-32), 3) := by decide +kernel
theorem dX2_isWord_63 : decode cX2_isWord 63 = .ok (.iconst 1, 1) := by decide +kernel
theorem dX2_isWord_64 : decode cX2_isWord 64 = .ok (.ireturn, 1) := by decide +kernel
theorem dX2_readNumber_0 : decode cX2_readNumber 0 = .ok (.aload_n 0, 1) := by decide +kernel
theorem dX2_readNumber_1 : decode cX2_readNumber 1 = .ok (.invokevirtual 27, 3) := by decide +kernel
theorem dX2_readNumber_4 : decode cX2_readNumber 4 = .ok (.aload_n 0, 1) := by decide +kernel
theorem dX2_readNumber_5 : decode cX2_readNumber 5 = .ok (.getfield 30, 3) := by decide +kernel
theorem dX2_readNumber_8 : decode cX2_readNumber 8 = .ok (.iconst 2, 1) := by decide +kernel
theorem dX2_readNumber_9 : decode cX2_readNumber 9 = .ok (.if_icmp .ne 23, 3) := by decide +kernel
theorem dX2_readNumber_12 : decode cX2_readNumber 12 = .ok (.aload_n 0, 1) := by decide +kernel
theorem dX2_readNumber_13 : decode cX2_readNumber 13 = .ok (.getfield 86, 3) := by decide +kernel
theorem dX2_readNumber_16 : decode cX2_readNumber 16 = .ok (.iload_n 1, 1) := by decide +kernel
theorem dX2_readNumber_17 : decode cX2_readNumber 17 = .ok (.if_icmp .lt 15, 3) := by decide +kernel
theorem dX2_readNumber_20 : decode cX2_readNumber 20 = .ok (.aload_n 0, 1) := by decide +kernel
theorem dX2_readNumber_21 : decode cX2_readNumber 21 = .ok (.getfield 86, 3) := by decide +kernel
theorem dX2_readNumber_24 : decode cX2_readNumber 24 = .ok (.iload_n 2, 1) := by decide +kernel
theorem dX2_readNumber_25 : decode cX2_readNumber 25 = .ok (.if_icmp .gt 7, 3) := by decide +kernel
theorem dX2_readNumber_28 : decode cX2_readNumber 28 = .ok (.iconst 1, 1) := by decide +kernel
theorem dX2_readNumber_29 : decode cX2_readNumber 29 = .ok (.goto 4, 3) := by decide +kernel
theorem dX2_readNumber_32 : decode cX2_readNumber 32 = .ok (.iconst 0, 1) := by decide +kernel
theorem dX2_readNumber_33 : decode cX2_readNumber 33 = .ok (.ireturn, 1) := by decide +kernel
theorem dX2_readEnd_0 : decode cX2_readEnd 0 = .ok (.aload_n 0, 1) := by decide +kernel
theorem dX2_readEnd_1 : decode cX2_readEnd 1 = .ok (.invokevirtual 27, 3) := by decide +kernel
theorem dX2_readEnd_4 : decode cX2_readEnd 4 = .ok (.aload_n 0, 1) := by decide +kernel
theorem dX2_readEnd_5 : decode cX2_readEnd 5 = .ok (.getfield 30, 3) := by decide +kernel
theorem dX2_readEnd_8 : decode cX2_readEnd 8 = .ok (.iconst 3, 1) := by decide +kernel
theorem dX2_readEnd_9 : decode cX2_readEnd 9 = .ok (.if_icmp .ne 7, 3) := by decide +kernel
theorem dX2_readEnd_12 : decode cX2_readEnd 12 = .ok (.iconst 1, 1) := by decide +kernel
theorem dX2_readEnd_13 : decode cX2_readEnd 13 = .ok (.goto 4, 3) := by decide +kernel
theorem dX2_readEnd_16 : decode cX2_readEnd 16 = .ok (.iconst 0, 1) := by decide +kernel
theorem dX2_readEnd_17 : decode cX2_readEnd 17 = .ok (.ireturn, 1) := by decide +kernel
theorem dX2_readRoom_0 : decode cX2_readRoom 0 = .ok (.aload_n 1, 1) := by decide +kernel
theorem dX2_readRoom_1 : decode cX2_readRoom 1 = .ok (.getfield 98, 3) := by decide +kernel
theorem dX2_readRoom_4 : decode cX2_readRoom 4 = .ok (.bipush 8, 2) := by decide +kernel
theorem dX2_readRoom_6 : decode cX2_readRoom 6 = .ok (.if_icmp .lt 5, 3) := by decide +kernel
theorem dX2_readRoom_9 : decode cX2_readRoom 9 = .ok (.iconst 0, 1) := by decide +kernel
theorem dX2_readRoom_10 : decode cX2_readRoom 10 = .ok (.ireturn, 1) := by decide +kernel
theorem dX2_readRoom_11 : decode cX2_readRoom 11 = .ok (.aload_n 1, 1) := by decide +kernel
theorem dX2_readRoom_12 : decode cX2_readRoom 12 = .ok (.getfield 101, 3) := by decide +kernel
theorem dX2_readRoom_15 : decode cX2_readRoom 15 = .ok (.aload_n 1, 1) := by decide +kernel
theorem dX2_readRoom_16 : decode cX2_readRoom 16 = .ok (.getfield 98, 3) := by decide +kernel
theorem dX2_readRoom_19 : decode cX2_readRoom 19 = .ok (.aaload, 1) := by decide +kernel
theorem dX2_readRoom_20 : decode cX2_readRoom 20 = .ok (.astore_n 2, 1) := by decide +kernel
theorem dX2_readRoom_21 : decode cX2_readRoom 21 = .ok (.aload_n 0, 1) := by decide +kernel
theorem dX2_readRoom_22 : decode cX2_readRoom 22 = .ok (.invokevirtual 27, 3) := by decide +kernel
theorem dX2_readRoom_25 : decode cX2_readRoom 25 = .ok (.aload_n 0, 1) := by decide +kernel
theorem dX2_readRoom_26 : decode cX2_readRoom 26 = .ok (.getfield 30, 3) := by decide +kernel
theorem dX2_readRoom_29 : decode cX2_readRoom 29 = .ok (.iconst 1, 1) := by decide +kernel
theorem dX2_readRoom_30 : decode cX2_readRoom 30 = .ok (.if_icmp .ne 15, 3) := by decide +kernel
theorem dX2_readRoom_33 : decode cX2_readRoom 33 = .ok (.aload_n 1, 1) := by decide +kernel
theorem dX2_readRoom_34 : decode cX2_readRoom 34 = .ok (.aload_n 0, 1) := by decide +kernel
theorem dX2_readRoom_35 : decode cX2_readRoom 35 = .ok (.getfield 76, 3) := by decide +kernel
theorem dX2_readRoom_38 : decode cX2_readRoom 38 = .ok (.invokevirtual 105, 3) := by decide +kernel
theorem dX2_readRoom_41 : decode cX2_readRoom 41 = .ok (.iconst (-1), 1) := by decide +kernel
theorem dX2_readRoom_42 : decode cX2_readRoom 42 = .ok (.if_icmp .eq 5, 3) := by decide +kernel
theorem dX2_readRoom_45 : decode cX2_readRoom 45 = .ok (.iconst 0, 1) := by decide +kernel
theorem dX2_readRoom_46 : decode cX2_readRoom 46 = .ok (.ireturn, 1) := by decide +kernel
theorem dX2_readRoom_47 : decode cX2_readRoom 47 = .ok (.aload_n 2, 1) := by decide +kernel
theorem dX2_readRoom_48 : decode cX2_readRoom 48 = .ok (.aload_n 0, 1) := by decide +kernel
theorem dX2_readRoom_49 : decode cX2_readRoom 49 = .ok (.getfield 76, 3) := by decide +kernel
theorem dX2_readRoom_52 : decode cX2_readRoom 52 = .ok (.putfield 109, 3) := by decide +kernel
theorem dX2_readRoom_55 : decode cX2_readRoom 55 = .ok (.aload_n 0, 1) := by decide +kernel
theorem dX2_readRoom_56 : decode cX2_readRoom 56 = .ok (.invokevirtual 27, 3) := by decide +kernel
theorem dX2_readRoom_59 : decode cX2_readRoom 59 = .ok (.aload_n 2, 1) := by decide +kernel
theorem dX2_readRoom_60 : decode cX2_readRoom 60 = .ok (.aload_n 0, 1) := by decide +kernel
theorem dX2_readRoom_61 : decode cX2_readRoom 61 = .ok (.invokevirtual 114, 3) := by decide +kernel
theorem dX2_readRoom_64 : decode cX2_readRoom 64 = .ok (.putfield 117, 3) := by decide +kernel
theorem dX2_readRoom_67 : decode cX2_readRoom 67 = .ok (.aload_n 2, 1) := by decide +kernel
theorem dX2_readRoom_68 : decode cX2_readRoom 68 = .ok (.getfield 117, 3) := by decide +kernel
theorem dX2_readRoom_71 : decode cX2_readRoom 71 = .ok (.iconst (-1), 1) := by decide +kernel
theorem dX2_readRoom_72 : decode cX2_readRoom 72 = .ok (.if_icmp .eq 13, 3) := by decide +kernel
theorem dX2_readRoom_75 : decode cX2_readRoom 75 = .ok (.aload_n 0, 1) := by decide +kernel
theorem dX2_readRoom_76 : decode cX2_readRoom 76 = .ok (.iconst 1, 1) := by decide +kernel
theorem dX2_readRoom_77 : decode cX2_readRoom 77 = .ok (.bipush 10, 2) := by decide +kernel
theorem dX2_readRoom_79 : decode cX2_readRoom 79 = .ok (.invokevirtual 120, 3) := by decide +kernel
theorem dX2_readRoom_82 : decode cX2_readRoom 82 = .ok (.ifCond .ne 5, 3) := by decide +kernel
theorem dX2_readRoom_85 : decode cX2_readRoom 85 = .ok (.iconst 0, 1) := by decide +kernel
theorem dX2_readRoom_86 : decode cX2_readRoom 86 = .ok (.ireturn, 1) := by decide +kernel
theorem dX2_readRoom_87 : decode cX2_readRoom 87 = .ok (.aload_n 2, 1) := by decide +kernel
theorem dX2_readRoom_88 : decode cX2_readRoom 88 = .ok (.aload_n 0, 1) := by decide +kernel
theorem dX2_readRoom_89 : decode cX2_readRoom 89 = .ok (.getfield 86, 3) := by decide +kernel
theorem dX2_readRoom_92 : decode cX2_readRoom 92 = .ok (.putfield 124, 3) := by decide +kernel
theorem dX2_readRoom_95 : decode cX2_readRoom 95 = .ok (.aload_n 0, 1) := by decide +kernel
theorem dX2_readRoom_96 : decode cX2_readRoom 96 = .ok (.iconst 0, 1) := by decide +kernel
theorem dX2_readRoom_97 : decode cX2_readRoom 97 = .ok (.bipush 99, 2) := by decide +kernel
theorem dX2_readRoom_99 : decode cX2_readRoom 99 = .ok (.invokevirtual 120, 3) := by decide +kernel
theorem dX2_readRoom_102 : decode cX2_readRoom 102 = .ok (.ifCond .ne 5, 3) := by decide +kernel
theorem dX2_readRoom_105 : decode cX2_readRoom 105 = .ok (.iconst 0, 1) := by decide +kernel
theorem dX2_readRoom_106 : decode cX2_readRoom 106 = .ok (.ireturn, 1) := by decide +kernel
theorem dX2_readRoom_107 : decode cX2_readRoom 107 = .ok (.aload_n 2, 1) := by decide +kernel
theorem dX2_readRoom_108 : decode cX2_readRoom 108 = .ok (.aload_n 0, 1) := by decide +kernel
theorem dX2_readRoom_109 : decode cX2_readRoom 109 = .ok (.getfield 86, 3) := by decide +kernel
theorem dX2_readRoom_112 : decode cX2_readRoom 112 = .ok (.putfield 127, 3) := by decide +kernel
theorem dX2_readRoom_115 : decode cX2_readRoom 115 = .ok (.aload_n 0, 1) := by decide +kernel
theorem dX2_readRoom_116 : decode cX2_readRoom 116 = .ok (.iconst 1, 1) := by decide +kernel
theorem dX2_readRoom_117 : decode cX2_readRoom 117 = .ok (.sipush 200, 3) := by decide +kernel
theorem dX2_readRoom_120 : decode cX2_readRoom 120 = .ok (.invokevirtual 120, 3) := by decide +kernel
theorem dX2_readRoom_123 : decode cX2_readRoom 123 = .ok (.ifCond .ne 5, 3) := by decide +kernel
theorem dX2_readRoom_126 : decode cX2_readRoom 126 = .ok (.iconst 0, 1) := by decide +kernel
theorem dX2_readRoom_127 : decode cX2_readRoom 127 = .ok (.ireturn, 1) := by decide +kernel
theorem dX2_readRoom_128 : decode cX2_readRoom 128 = .ok (.aload_n 2, 1) := by decide +kernel
theorem dX2_readRoom_129 : decode cX2_readRoom 129 = .ok (.aload_n 0, 1) := by decide +kernel
theorem dX2_readRoom_130 : decode cX2_readRoom 130 = .ok (.getfield 86, 3) := by decide +kernel
theorem dX2_readRoom_133 : decode cX2_readRoom 133 = .ok (.putfield 130, 3) := by decide +kernel
theorem dX2_readRoom_136 : decode cX2_readRoom 136 = .ok (.aload_n 0, 1) := by decide +kernel
theorem dX2_readRoom_137 : decode cX2_readRoom 137 = .ok (.invokevirtual 133, 3) := by decide +kernel
theorem dX2_readRoom_140 : decode cX2_readRoom 140 = .ok (.ifCond .ne 5, 3) := by decide +kernel
theorem dX2_readRoom_143 : decode cX2_readRoom 143 = .ok (.iconst 0, 1) := by decide +kernel
theorem dX2_readRoom_144 : decode cX2_readRoom 144 = .ok (.ireturn, 1) := by decide +kernel
theorem dX2_readRoom_145 : decode cX2_readRoom 145 = .ok (.aload_n 1, 1) := by decide +kernel
theorem dX2_readRoom_146 : decode cX2_readRoom 146 = .ok (.dup, 1) := by decide +kernel
theorem dX2_readRoom_147 : decode cX2_readRoom 147 = .ok (.getfield 98, 3) := by decide +kernel
theorem dX2_readRoom_150 : decode cX2_readRoom 150 = .ok (.iconst 1, 1) := by decide +kernel
theorem dX2_readRoom_151 : decode cX2_readRoom 151 = .ok (.iadd, 1) := by decide +kernel
theorem dX2_readRoom_152 : decode cX2_readRoom 152 = .ok (.putfield 98, 3) := by decide +kernel
theorem dX2_readRoom_155 : decode cX2_readRoom 155 = .ok (.aload_n 1, 1) := by decide +kernel
theorem dX2_readRoom_156 : decode cX2_readRoom 156 = .ok (.dup, 1) := by decide +kernel
theorem dX2_readRoom_157 : decode cX2_readRoom 157 = .ok (.getfield 137, 3) := by decide +kernel
theorem dX2_readRoom_160 : decode cX2_readRoom 160 = .ok (.aload_n 2, 1) := by decide +kernel
theorem dX2_readRoom_161 : decode cX2_readRoom 161 = .ok (.getfield 124, 3) := by decide +kernel
theorem dX2_readRoom_164 : decode cX2_readRoom 164 = .ok (.iadd, 1) := by decide +kernel
theorem dX2_readRoom_165 : decode cX2_readRoom 165 = .ok (.putfield 137, 3) := by decide +kernel
theorem dX2_readRoom_168 : decode cX2_readRoom 168 = .ok (.iconst 1, 1) := by decide +kernel
theorem dX2_readRoom_169 : decode cX2_readRoom 169 = .ok (.ireturn, 1) := by decide +kernel
theorem dX2_kindTold_0 : decode cX2_kindTold 0 = .ok (.aload_n 0, 1) := by decide +kernel
theorem dX2_kindTold_1 : decode cX2_kindTold 1 = .ok (.ldc 140, 2) := by decide +kernel
theorem dX2_kindTold_3 : decode cX2_kindTold 3 = .ok (.invokevirtual 35, 3) := by decide +kernel
theorem dX2_kindTold_6 : decode cX2_kindTold 6 = .ok (.ifCond .eq 5, 3) := by decide +kernel
theorem dX2_kindTold_9 : decode cX2_kindTold 9 = .ok (.iconst 0, 1) := by decide +kernel
theorem dX2_kindTold_10 : decode cX2_kindTold 10 = .ok (.ireturn, 1) := by decide +kernel
theorem dX2_kindTold_11 : decode cX2_kindTold 11 = .ok (.aload_n 0, 1) := by decide +kernel
theorem dX2_kindTold_12 : decode cX2_kindTold 12 = .ok (.ldc 142, 2) := by decide +kernel
theorem dX2_kindTold_14 : decode cX2_kindTold 14 = .ok (.invokevirtual 35, 3) := by decide +kernel
theorem dX2_kindTold_17 : decode cX2_kindTold 17 = .ok (.ifCond .eq 5, 3) := by decide +kernel
theorem dX2_kindTold_20 : decode cX2_kindTold 20 = .ok (.iconst 1, 1) := by decide +kernel
theorem dX2_kindTold_21 : decode cX2_kindTold 21 = .ok (.ireturn, 1) := by decide +kernel
theorem dX2_kindTold_22 : decode cX2_kindTold 22 = .ok (.aload_n 0, 1) := by decide +kernel
theorem dX2_kindTold_23 : decode cX2_kindTold 23 = .ok (.ldc 144, 2) := by decide +kernel
theorem dX2_kindTold_25 : decode cX2_kindTold 25 = .ok (.invokevirtual 35, 3) := by decide +kernel
theorem dX2_kindTold_28 : decode cX2_kindTold 28 = .ok (.ifCond .eq 7, 3) := by decide +kernel
theorem dX2_kindTold_31 : decode cX2_kindTold 31 = .ok (.iconst 2, 1) := by decide +kernel
theorem dX2_kindTold_32 : decode cX2_kindTold 32 = .ok (.goto 4, 3) := by decide +kernel
theorem dX2_kindTold_35 : decode cX2_kindTold 35 = .ok (.iconst (-1), 1) := by decide +kernel
theorem dX2_kindTold_36 : decode cX2_kindTold 36 = .ok (.ireturn, 1) := by decide +kernel
theorem dX2_readBook_0 : decode cX2_readBook 0 = .ok (.aload_n 1, 1) := by decide +kernel
theorem dX2_readBook_1 : decode cX2_readBook 1 = .ok (.getfield 146, 3) := by decide +kernel
theorem dX2_readBook_4 : decode cX2_readBook 4 = .ok (.bipush 16, 2) := by decide +kernel
theorem dX2_readBook_6 : decode cX2_readBook 6 = .ok (.if_icmp .lt 5, 3) := by decide +kernel
theorem dX2_readBook_9 : decode cX2_readBook 9 = .ok (.iconst 0, 1) := by decide +kernel
theorem dX2_readBook_10 : decode cX2_readBook 10 = .ok (.ireturn, 1) := by decide +kernel
theorem dX2_readBook_11 : decode cX2_readBook 11 = .ok (.aload_n 1, 1) := by decide +kernel
theorem dX2_readBook_12 : decode cX2_readBook 12 = .ok (.getfield 149, 3) := by decide +kernel
theorem dX2_readBook_15 : decode cX2_readBook 15 = .ok (.aload_n 1, 1) := by decide +kernel
theorem dX2_readBook_16 : decode cX2_readBook 16 = .ok (.getfield 146, 3) := by decide +kernel
theorem dX2_readBook_19 : decode cX2_readBook 19 = .ok (.aaload, 1) := by decide +kernel
theorem dX2_readBook_20 : decode cX2_readBook 20 = .ok (.astore_n 2, 1) := by decide +kernel
theorem dX2_readBook_21 : decode cX2_readBook 21 = .ok (.aload_n 0, 1) := by decide +kernel
theorem dX2_readBook_22 : decode cX2_readBook 22 = .ok (.invokevirtual 27, 3) := by decide +kernel
theorem dX2_readBook_25 : decode cX2_readBook 25 = .ok (.aload_n 0, 1) := by decide +kernel
theorem dX2_readBook_26 : decode cX2_readBook 26 = .ok (.getfield 30, 3) := by decide +kernel
theorem dX2_readBook_29 : decode cX2_readBook 29 = .ok (.iconst 1, 1) := by decide +kernel
theorem dX2_readBook_30 : decode cX2_readBook 30 = .ok (.if_icmp .ne 15, 3) := by decide +kernel
theorem dX2_readBook_33 : decode cX2_readBook 33 = .ok (.aload_n 1, 1) := by decide +kernel
theorem dX2_readBook_34 : decode cX2_readBook 34 = .ok (.aload_n 0, 1) := by decide +kernel
theorem dX2_readBook_35 : decode cX2_readBook 35 = .ok (.getfield 76, 3) := by decide +kernel
theorem dX2_readBook_38 : decode cX2_readBook 38 = .ok (.invokevirtual 153, 3) := by decide +kernel
theorem dX2_readBook_41 : decode cX2_readBook 41 = .ok (.iconst (-1), 1) := by decide +kernel
theorem dX2_readBook_42 : decode cX2_readBook 42 = .ok (.if_icmp .eq 5, 3) := by decide +kernel
theorem dX2_readBook_45 : decode cX2_readBook 45 = .ok (.iconst 0, 1) := by decide +kernel
theorem dX2_readBook_46 : decode cX2_readBook 46 = .ok (.ireturn, 1) := by decide +kernel
theorem dX2_readBook_47 : decode cX2_readBook 47 = .ok (.aload_n 0, 1) := by decide +kernel
theorem dX2_readBook_48 : decode cX2_readBook 48 = .ok (.getfield 76, 3) := by decide +kernel
theorem dX2_readBook_51 : decode cX2_readBook 51 = .ok (.lstore_n 3, 1) := by decide +kernel
theorem dX2_readBook_52 : decode cX2_readBook 52 = .ok (.aload_n 0, 1) := by decide +kernel
theorem dX2_readBook_53 : decode cX2_readBook 53 = .ok (.aload_n 2, 1) := by decide +kernel
theorem dX2_readBook_54 : decode cX2_readBook 54 = .ok (.invokevirtual 156, 3) := by decide +kernel
theorem dX2_readBook_57 : decode cX2_readBook 57 = .ok (.ifCond .ne 5, 3) := by decide +kernel
theorem dX2_readBook_60 : decode cX2_readBook 60 = .ok (.iconst 0, 1) := by decide +kernel
theorem dX2_readBook_61 : decode cX2_readBook 61 = .ok (.ireturn, 1) := by decide +kernel
theorem dX2_readBook_62 : decode cX2_readBook 62 = .ok (.aload_n 2, 1) := by decide +kernel
theorem dX2_readBook_63 : decode cX2_readBook 63 = .ok (.lload_n 3, 1) := by decide +kernel
theorem dX2_readBook_64 : decode cX2_readBook 64 = .ok (.putfield 160, 3) := by decide +kernel
theorem dX2_readBook_67 : decode cX2_readBook 67 = .ok (.aload_n 0, 1) := by decide +kernel
theorem dX2_readBook_68 : decode cX2_readBook 68 = .ok (.invokevirtual 27, 3) := by decide +kernel
theorem dX2_readBook_71 : decode cX2_readBook 71 = .ok (.aload_n 0, 1) := by decide +kernel
theorem dX2_readBook_72 : decode cX2_readBook 72 = .ok (.ldc 163, 2) := by decide +kernel
theorem dX2_readBook_74 : decode cX2_readBook 74 = .ok (.invokevirtual 35, 3) := by decide +kernel
theorem dX2_readBook_77 : decode cX2_readBook 77 = .ok (.ifCond .eq 12, 3) := by decide +kernel
theorem dX2_readBook_80 : decode cX2_readBook 80 = .ok (.aload_n 2, 1) := by decide +kernel
theorem dX2_readBook_81 : decode cX2_readBook 81 = .ok (.iconst 1, 1) := by decide +kernel
theorem dX2_readBook_82 : decode cX2_readBook 82 = .ok (.putfield 165, 3) := by decide +kernel
theorem dX2_readBook_85 : decode cX2_readBook 85 = .ok (.aload_n 0, 1) := by decide +kernel
theorem dX2_readBook_86 : decode cX2_readBook 86 = .ok (.invokevirtual 27, 3) := by decide +kernel
theorem dX2_readBook_89 : decode cX2_readBook 89 = .ok (.aload_n 0, 1) := by decide +kernel
theorem dX2_readBook_90 : decode cX2_readBook 90 = .ok (.getfield 30, 3) := by decide +kernel
theorem dX2_readBook_93 : decode cX2_readBook 93 = .ok (.iconst 3, 1) := by decide +kernel
theorem dX2_readBook_94 : decode cX2_readBook 94 = .ok (.if_icmp .eq 5, 3) := by decide +kernel
theorem dX2_readBook_97 : decode cX2_readBook 97 = .ok (.iconst 0, 1) := by decide +kernel
theorem dX2_readBook_98 : decode cX2_readBook 98 = .ok (.ireturn, 1) := by decide +kernel
theorem dX2_readBook_99 : decode cX2_readBook 99 = .ok (.aload_n 1, 1) := by decide +kernel
theorem dX2_readBook_100 : decode cX2_readBook 100 = .ok (.invokevirtual 168, 3) := by decide +kernel
theorem dX2_readBook_103 : decode cX2_readBook 103 = .ok (.iconst 1, 1) := by decide +kernel
theorem dX2_readBook_104 : decode cX2_readBook 104 = .ok (.ireturn, 1) := by decide +kernel
theorem dX2_readGroup_0 : decode cX2_readGroup 0 = .ok (.aload_n 0, 1) := by decide +kernel
theorem dX2_readGroup_1 : decode cX2_readGroup 1 = .ok (.iconst 0, 1) := by decide +kernel
theorem dX2_readGroup_2 : decode cX2_readGroup 2 = .ok (.bipush 29, 2) := by decide +kernel
theorem dX2_readGroup_4 : decode cX2_readGroup 4 = .ok (.invokevirtual 120, 3) := by decide +kernel
theorem dX2_readGroup_7 : decode cX2_readGroup 7 = .ok (.ifCond .ne 5, 3) := by decide +kernel
theorem dX2_readGroup_10 : decode cX2_readGroup 10 = .ok (.iconst 0, 1) := by decide +kernel
theorem dX2_readGroup_11 : decode cX2_readGroup 11 = .ok (.ireturn, 1) := by decide +kernel
theorem dX2_readGroup_12 : decode cX2_readGroup 12 = .ok (.aload_n 0, 1) := by decide +kernel
theorem dX2_readGroup_13 : decode cX2_readGroup 13 = .ok (.getfield 86, 3) := by decide +kernel
theorem dX2_readGroup_16 : decode cX2_readGroup 16 = .ok (.istore_n 2, 1) := by decide +kernel
theorem dX2_readGroup_17 : decode cX2_readGroup 17 = .ok (.aload_n 0, 1) := by decide +kernel
theorem dX2_readGroup_18 : decode cX2_readGroup 18 = .ok (.iconst 1, 1) := by decide +kernel
theorem dX2_readGroup_19 : decode cX2_readGroup 19 = .ok (.bipush 30, 2) := by decide +kernel
theorem dX2_readGroup_21 : decode cX2_readGroup 21 = .ok (.iload_n 2, 1) := by decide +kernel
theorem dX2_readGroup_22 : decode cX2_readGroup 22 = .ok (.isub, 1) := by decide +kernel
theorem dX2_readGroup_23 : decode cX2_readGroup 23 = .ok (.invokevirtual 120, 3) := by decide +kernel
theorem dX2_readGroup_26 : decode cX2_readGroup 26 = .ok (.ifCond .ne 5, 3) := by decide +kernel
theorem dX2_readGroup_29 : decode cX2_readGroup 29 = .ok (.iconst 0, 1) := by decide +kernel
theorem dX2_readGroup_30 : decode cX2_readGroup 30 = .ok (.ireturn, 1) := by decide +kernel
theorem dX2_readGroup_31 : decode cX2_readGroup 31 = .ok (.aload_n 0, 1) := by decide +kernel
theorem dX2_readGroup_32 : decode cX2_readGroup 32 = .ok (.getfield 86, 3) := by decide +kernel
theorem dX2_readGroup_35 : decode cX2_readGroup 35 = .ok (.istore_n 3, 1) := by decide +kernel
theorem dX2_readGroup_36 : decode cX2_readGroup 36 = .ok (.aload_n 0, 1) := by decide +kernel
theorem dX2_readGroup_37 : decode cX2_readGroup 37 = .ok (.iconst 0, 1) := by decide +kernel
theorem dX2_readGroup_38 : decode cX2_readGroup 38 = .ok (.bipush 12, 2) := by decide +kernel
theorem dX2_readGroup_40 : decode cX2_readGroup 40 = .ok (.invokevirtual 120, 3) := by decide +kernel
theorem dX2_readGroup_43 : decode cX2_readGroup 43 = .ok (.ifCond .ne 5, 3) := by decide +kernel
theorem dX2_readGroup_46 : decode cX2_readGroup 46 = .ok (.iconst 0, 1) := by decide +kernel
theorem dX2_readGroup_47 : decode cX2_readGroup 47 = .ok (.ireturn, 1) := by decide +kernel
theorem dX2_readGroup_48 : decode cX2_readGroup 48 = .ok (.aload_n 0, 1) := by decide +kernel
theorem dX2_readGroup_49 : decode cX2_readGroup 49 = .ok (.getfield 86, 3) := by decide +kernel
theorem dX2_readGroup_52 : decode cX2_readGroup 52 = .ok (.istore 4, 2) := by decide +kernel
theorem dX2_readGroup_54 : decode cX2_readGroup 54 = .ok (.aload_n 0, 1) := by decide +kernel
theorem dX2_readGroup_55 : decode cX2_readGroup 55 = .ok (.iload 4, 2) := by decide +kernel
theorem dX2_readGroup_57 : decode cX2_readGroup 57 = .ok (.ifCond .ne 7, 3) := by decide +kernel
theorem dX2_readGroup_60 : decode cX2_readGroup 60 = .ok (.iconst 1, 1) := by decide +kernel
theorem dX2_readGroup_61 : decode cX2_readGroup 61 = .ok (.goto 4, 3) := by decide +kernel
theorem dX2_readGroup_64 : decode cX2_readGroup 64 = .ok (.iconst 0, 1) := by decide +kernel
theorem dX2_readGroup_65 : decode cX2_readGroup 65 = .ok (.bipush 12, 2) := by decide +kernel
theorem dX2_readGroup_67 : decode cX2_readGroup 67 = .ok (.iload 4, 2) := by decide +kernel
theorem dX2_readGroup_69 : decode cX2_readGroup 69 = .ok (.isub, 1) := by decide +kernel
theorem dX2_readGroup_70 : decode cX2_readGroup 70 = .ok (.invokevirtual 120, 3) := by decide +kernel
theorem dX2_readGroup_73 : decode cX2_readGroup 73 = .ok (.ifCond .ne 5, 3) := by decide +kernel
theorem dX2_readGroup_76 : decode cX2_readGroup 76 = .ok (.iconst 0, 1) := by decide +kernel
theorem dX2_readGroup_77 : decode cX2_readGroup 77 = .ok (.ireturn, 1) := by decide +kernel
theorem dX2_readGroup_78 : decode cX2_readGroup 78 = .ok (.aload_n 0, 1) := by decide +kernel
theorem dX2_readGroup_79 : decode cX2_readGroup 79 = .ok (.getfield 86, 3) := by decide +kernel
theorem dX2_readGroup_82 : decode cX2_readGroup 82 = .ok (.istore 5, 2) := by decide +kernel
theorem dX2_readGroup_84 : decode cX2_readGroup 84 = .ok (.aload_n 0, 1) := by decide +kernel
theorem dX2_readGroup_85 : decode cX2_readGroup 85 = .ok (.iconst 0, 1) := by decide +kernel
theorem dX2_readGroup_86 : decode cX2_readGroup 86 = .ok (.bipush 99, 2) := by decide +kernel
theorem dX2_readGroup_88 : decode cX2_readGroup 88 = .ok (.invokevirtual 120, 3) := by decide +kernel
theorem dX2_readGroup_91 : decode cX2_readGroup 91 = .ok (.ifCond .ne 5, 3) := by decide +kernel
theorem dX2_readGroup_94 : decode cX2_readGroup 94 = .ok (.iconst 0, 1) := by decide +kernel
theorem dX2_readGroup_95 : decode cX2_readGroup 95 = .ok (.ireturn, 1) := by decide +kernel
theorem dX2_readGroup_96 : decode cX2_readGroup 96 = .ok (.aload_n 0, 1) := by decide +kernel
theorem dX2_readGroup_97 : decode cX2_readGroup 97 = .ok (.getfield 86, 3) := by decide +kernel
theorem dX2_readGroup_100 : decode cX2_readGroup 100 = .ok (.istore 6, 2) := by decide +kernel
theorem dX2_readGroup_102 : decode cX2_readGroup 102 = .ok (.aload_n 0, 1) := by decide +kernel
theorem dX2_readGroup_103 : decode cX2_readGroup 103 = .ok (.iconst 0, 1) := by decide +kernel
theorem dX2_readGroup_104 : decode cX2_readGroup 104 = .ok (.bipush 100, 2) := by decide +kernel
theorem dX2_readGroup_106 : decode cX2_readGroup 106 = .ok (.invokevirtual 120, 3) := by decide +kernel
theorem dX2_readGroup_109 : decode cX2_readGroup 109 = .ok (.ifCond .ne 5, 3) := by decide +kernel
theorem dX2_readGroup_112 : decode cX2_readGroup 112 = .ok (.iconst 0, 1) := by decide +kernel
theorem dX2_readGroup_113 : decode cX2_readGroup 113 = .ok (.ireturn, 1) := by decide +kernel
theorem dX2_readGroup_114 : decode cX2_readGroup 114 = .ok (.aload_n 1, 1) := by decide +kernel
theorem dX2_readGroup_115 : decode cX2_readGroup 115 = .ok (.iload_n 2, 1) := by decide +kernel
theorem dX2_readGroup_116 : decode cX2_readGroup 116 = .ok (.iload_n 3, 1) := by decide +kernel
theorem dX2_readGroup_117 : decode cX2_readGroup 117 = .ok (.iload 4, 2) := by decide +kernel
theorem dX2_readGroup_119 : decode cX2_readGroup 119 = .ok (.iload 5, 2) := by decide +kernel
theorem dX2_readGroup_121 : decode cX2_readGroup 121 = .ok (.iload 6, 2) := by decide +kernel
theorem dX2_readGroup_123 : decode cX2_readGroup 123 = .ok (.aload_n 0, 1) := by decide +kernel
theorem dX2_readGroup_124 : decode cX2_readGroup 124 = .ok (.getfield 86, 3) := by decide +kernel
theorem dX2_readGroup_127 : decode cX2_readGroup 127 = .ok (.invokevirtual 171, 3) := by decide +kernel
theorem dX2_readGroup_130 : decode cX2_readGroup 130 = .ok (.iconst 1, 1) := by decide +kernel
theorem dX2_readGroup_131 : decode cX2_readGroup 131 = .ok (.ireturn, 1) := by decide +kernel
theorem dX2_readBooked_0 : decode cX2_readBooked 0 = .ok (.aload_n 0, 1) := by decide +kernel
theorem dX2_readBooked_1 : decode cX2_readBooked 1 = .ok (.invokevirtual 27, 3) := by decide +kernel
theorem dX2_readBooked_4 : decode cX2_readBooked 4 = .ok (.aload_n 0, 1) := by decide +kernel
theorem dX2_readBooked_5 : decode cX2_readBooked 5 = .ok (.getfield 30, 3) := by decide +kernel
theorem dX2_readBooked_8 : decode cX2_readBooked 8 = .ok (.iconst 1, 1) := by decide +kernel
theorem dX2_readBooked_9 : decode cX2_readBooked 9 = .ok (.if_icmp .ne 14, 3) := by decide +kernel
theorem dX2_readBooked_12 : decode cX2_readBooked 12 = .ok (.aload_n 1, 1) := by decide +kernel
theorem dX2_readBooked_13 : decode cX2_readBooked 13 = .ok (.aload_n 0, 1) := by decide +kernel
theorem dX2_readBooked_14 : decode cX2_readBooked 14 = .ok (.getfield 76, 3) := by decide +kernel
theorem dX2_readBooked_17 : decode cX2_readBooked 17 = .ok (.invokevirtual 153, 3) := by decide +kernel
theorem dX2_readBooked_20 : decode cX2_readBooked 20 = .ok (.goto 4, 3) := by decide +kernel
theorem dX2_readBooked_23 : decode cX2_readBooked 23 = .ok (.iconst (-1), 1) := by decide +kernel
theorem dX2_readBooked_24 : decode cX2_readBooked 24 = .ok (.istore_n 2, 1) := by decide +kernel
theorem dX2_readBooked_25 : decode cX2_readBooked 25 = .ok (.iload_n 2, 1) := by decide +kernel
theorem dX2_readBooked_26 : decode cX2_readBooked 26 = .ok (.iconst (-1), 1) := by decide +kernel
theorem dX2_readBooked_27 : decode cX2_readBooked 27 = .ok (.if_icmp .eq 20, 3) := by decide +kernel
theorem dX2_readBooked_30 : decode cX2_readBooked 30 = .ok (.aload_n 1, 1) := by decide +kernel
theorem dX2_readBooked_31 : decode cX2_readBooked 31 = .ok (.getfield 149, 3) := by decide +kernel
theorem dX2_readBooked_34 : decode cX2_readBooked 34 = .ok (.iload_n 2, 1) := by decide +kernel
theorem dX2_readBooked_35 : decode cX2_readBooked 35 = .ok (.aaload, 1) := by decide +kernel
theorem dX2_readBooked_36 : decode cX2_readBooked 36 = .ok (.getfield 175, 3) := by decide +kernel
theorem dX2_readBooked_39 : decode cX2_readBooked 39 = .ok (.iconst 2, 1) := by decide +kernel
theorem dX2_readBooked_40 : decode cX2_readBooked 40 = .ok (.if_icmp .eq 7, 3) := by decide +kernel
theorem dX2_readBooked_43 : decode cX2_readBooked 43 = .ok (.iload_n 2, 1) := by decide +kernel
theorem dX2_readBooked_44 : decode cX2_readBooked 44 = .ok (.goto 4, 3) := by decide +kernel
theorem dX2_readBooked_47 : decode cX2_readBooked 47 = .ok (.iconst (-1), 1) := by decide +kernel
theorem dX2_readBooked_48 : decode cX2_readBooked 48 = .ok (.ireturn, 1) := by decide +kernel
theorem dX2_readCancel_0 : decode cX2_readCancel 0 = .ok (.aload_n 0, 1) := by decide +kernel
theorem dX2_readCancel_1 : decode cX2_readCancel 1 = .ok (.aload_n 1, 1) := by decide +kernel
theorem dX2_readCancel_2 : decode cX2_readCancel 2 = .ok (.invokevirtual 178, 3) := by decide +kernel
theorem dX2_readCancel_5 : decode cX2_readCancel 5 = .ok (.istore_n 2, 1) := by decide +kernel
theorem dX2_readCancel_6 : decode cX2_readCancel 6 = .ok (.iload_n 2, 1) := by decide +kernel
theorem dX2_readCancel_7 : decode cX2_readCancel 7 = .ok (.iconst (-1), 1) := by decide +kernel
theorem dX2_readCancel_8 : decode cX2_readCancel 8 = .ok (.if_icmp .eq 10, 3) := by decide +kernel
theorem dX2_readCancel_11 : decode cX2_readCancel 11 = .ok (.aload_n 0, 1) := by decide +kernel
theorem dX2_readCancel_12 : decode cX2_readCancel 12 = .ok (.invokevirtual 133, 3) := by decide +kernel
theorem dX2_readCancel_15 : decode cX2_readCancel 15 = .ok (.ifCond .ne 5, 3) := by decide +kernel
theorem dX2_readCancel_18 : decode cX2_readCancel 18 = .ok (.iconst 0, 1) := by decide +kernel
theorem dX2_readCancel_19 : decode cX2_readCancel 19 = .ok (.ireturn, 1) := by decide +kernel
theorem dX2_readCancel_20 : decode cX2_readCancel 20 = .ok (.aload_n 1, 1) := by decide +kernel
theorem dX2_readCancel_21 : decode cX2_readCancel 21 = .ok (.iload_n 2, 1) := by decide +kernel
theorem dX2_readCancel_22 : decode cX2_readCancel 22 = .ok (.invokevirtual 182, 3) := by decide +kernel
theorem dX2_readCancel_25 : decode cX2_readCancel 25 = .ok (.aload_n 1, 1) := by decide +kernel
theorem dX2_readCancel_26 : decode cX2_readCancel 26 = .ok (.invokevirtual 186, 3) := by decide +kernel
theorem dX2_readCancel_29 : decode cX2_readCancel 29 = .ok (.pop, 1) := by decide +kernel
theorem dX2_readCancel_30 : decode cX2_readCancel 30 = .ok (.iconst 1, 1) := by decide +kernel
theorem dX2_readCancel_31 : decode cX2_readCancel 31 = .ok (.ireturn, 1) := by decide +kernel
theorem dX2_readAbsent_0 : decode cX2_readAbsent 0 = .ok (.aload_n 0, 1) := by decide +kernel
theorem dX2_readAbsent_1 : decode cX2_readAbsent 1 = .ok (.aload_n 1, 1) := by decide +kernel
theorem dX2_readAbsent_2 : decode cX2_readAbsent 2 = .ok (.invokevirtual 178, 3) := by decide +kernel
theorem dX2_readAbsent_5 : decode cX2_readAbsent 5 = .ok (.istore_n 2, 1) := by decide +kernel
theorem dX2_readAbsent_6 : decode cX2_readAbsent 6 = .ok (.iload_n 2, 1) := by decide +kernel
theorem dX2_readAbsent_7 : decode cX2_readAbsent 7 = .ok (.iconst (-1), 1) := by decide +kernel
theorem dX2_readAbsent_8 : decode cX2_readAbsent 8 = .ok (.if_icmp .eq 10, 3) := by decide +kernel
theorem dX2_readAbsent_11 : decode cX2_readAbsent 11 = .ok (.aload_n 0, 1) := by decide +kernel
theorem dX2_readAbsent_12 : decode cX2_readAbsent 12 = .ok (.invokevirtual 133, 3) := by decide +kernel
theorem dX2_readAbsent_15 : decode cX2_readAbsent 15 = .ok (.ifCond .ne 5, 3) := by decide +kernel
theorem dX2_readAbsent_18 : decode cX2_readAbsent 18 = .ok (.iconst 0, 1) := by decide +kernel
theorem dX2_readAbsent_19 : decode cX2_readAbsent 19 = .ok (.ireturn, 1) := by decide +kernel
theorem dX2_readAbsent_20 : decode cX2_readAbsent 20 = .ok (.aload_n 1, 1) := by decide +kernel
theorem dX2_readAbsent_21 : decode cX2_readAbsent 21 = .ok (.getfield 149, 3) := by decide +kernel
theorem dX2_readAbsent_24 : decode cX2_readAbsent 24 = .ok (.iload_n 2, 1) := by decide +kernel
theorem dX2_readAbsent_25 : decode cX2_readAbsent 25 = .ok (.aaload, 1) := by decide +kernel
theorem dX2_readAbsent_26 : decode cX2_readAbsent 26 = .ok (.iconst 1, 1) := by decide +kernel
theorem dX2_readAbsent_27 : decode cX2_readAbsent 27 = .ok (.putfield 189, 3) := by decide +kernel
theorem dX2_readAbsent_30 : decode cX2_readAbsent 30 = .ok (.iconst 1, 1) := by decide +kernel
theorem dX2_readAbsent_31 : decode cX2_readAbsent 31 = .ok (.ireturn, 1) := by decide +kernel
theorem dX2_readOver_0 : decode cX2_readOver 0 = .ok (.aload_n 0, 1) := by decide +kernel
theorem dX2_readOver_1 : decode cX2_readOver 1 = .ok (.iconst 0, 1) := by decide +kernel
theorem dX2_readOver_2 : decode cX2_readOver 2 = .ok (.bipush 50, 2) := by decide +kernel
theorem dX2_readOver_4 : decode cX2_readOver 4 = .ok (.invokevirtual 120, 3) := by decide +kernel
theorem dX2_readOver_7 : decode cX2_readOver 7 = .ok (.ifCond .ne 5, 3) := by decide +kernel
theorem dX2_readOver_10 : decode cX2_readOver 10 = .ok (.iconst 0, 1) := by decide +kernel
theorem dX2_readOver_11 : decode cX2_readOver 11 = .ok (.ireturn, 1) := by decide +kernel
theorem dX2_readOver_12 : decode cX2_readOver 12 = .ok (.aload_n 1, 1) := by decide +kernel
theorem dX2_readOver_13 : decode cX2_readOver 13 = .ok (.aload_n 0, 1) := by decide +kernel
theorem dX2_readOver_14 : decode cX2_readOver 14 = .ok (.getfield 86, 3) := by decide +kernel
theorem dX2_readOver_17 : decode cX2_readOver 17 = .ok (.putfield 191, 3) := by decide +kernel
theorem dX2_readOver_20 : decode cX2_readOver 20 = .ok (.aload_n 0, 1) := by decide +kernel
theorem dX2_readOver_21 : decode cX2_readOver 21 = .ok (.invokevirtual 133, 3) := by decide +kernel
theorem dX2_readOver_24 : decode cX2_readOver 24 = .ok (.ireturn, 1) := by decide +kernel
theorem dX2_readWalk_0 : decode cX2_readWalk 0 = .ok (.aload_n 0, 1) := by decide +kernel
theorem dX2_readWalk_1 : decode cX2_readWalk 1 = .ok (.iconst 0, 1) := by decide +kernel
theorem dX2_readWalk_2 : decode cX2_readWalk 2 = .ok (.sipush 300, 3) := by decide +kernel
theorem dX2_readWalk_5 : decode cX2_readWalk 5 = .ok (.invokevirtual 120, 3) := by decide +kernel
theorem dX2_readWalk_8 : decode cX2_readWalk 8 = .ok (.ifCond .ne 5, 3) := by decide +kernel
theorem dX2_readWalk_11 : decode cX2_readWalk 11 = .ok (.iconst 0, 1) := by decide +kernel
theorem dX2_readWalk_12 : decode cX2_readWalk 12 = .ok (.ireturn, 1) := by decide +kernel
theorem dX2_readWalk_13 : decode cX2_readWalk 13 = .ok (.aload_n 1, 1) := by decide +kernel
theorem dX2_readWalk_14 : decode cX2_readWalk 14 = .ok (.aload_n 0, 1) := by decide +kernel
theorem dX2_readWalk_15 : decode cX2_readWalk 15 = .ok (.getfield 86, 3) := by decide +kernel
theorem dX2_readWalk_18 : decode cX2_readWalk 18 = .ok (.putfield 193, 3) := by decide +kernel
theorem dX2_readWalk_21 : decode cX2_readWalk 21 = .ok (.aload_n 0, 1) := by decide +kernel
theorem dX2_readWalk_22 : decode cX2_readWalk 22 = .ok (.invokevirtual 133, 3) := by decide +kernel
theorem dX2_readWalk_25 : decode cX2_readWalk 25 = .ok (.ireturn, 1) := by decide +kernel
theorem dX2_readOffer_0 : decode cX2_readOffer 0 = .ok (.aload_n 0, 1) := by decide +kernel
theorem dX2_readOffer_1 : decode cX2_readOffer 1 = .ok (.iconst 2, 1) := by decide +kernel
theorem dX2_readOffer_2 : decode cX2_readOffer 2 = .ok (.bipush 30, 2) := by decide +kernel
theorem dX2_readOffer_4 : decode cX2_readOffer 4 = .ok (.invokevirtual 120, 3) := by decide +kernel
theorem dX2_readOffer_7 : decode cX2_readOffer 7 = .ok (.ifCond .ne 5, 3) := by decide +kernel
theorem dX2_readOffer_10 : decode cX2_readOffer 10 = .ok (.iconst 0, 1) := by decide +kernel
theorem dX2_readOffer_11 : decode cX2_readOffer 11 = .ok (.ireturn, 1) := by decide +kernel
theorem dX2_readOffer_12 : decode cX2_readOffer 12 = .ok (.aload_n 1, 1) := by decide +kernel
theorem dX2_readOffer_13 : decode cX2_readOffer 13 = .ok (.aload_n 0, 1) := by decide +kernel
theorem dX2_readOffer_14 : decode cX2_readOffer 14 = .ok (.getfield 86, 3) := by decide +kernel
theorem dX2_readOffer_17 : decode cX2_readOffer 17 = .ok (.putfield 195, 3) := by decide +kernel
theorem dX2_readOffer_20 : decode cX2_readOffer 20 = .ok (.aload_n 0, 1) := by decide +kernel
theorem dX2_readOffer_21 : decode cX2_readOffer 21 = .ok (.iconst 0, 1) := by decide +kernel
theorem dX2_readOffer_22 : decode cX2_readOffer 22 = .ok (.bipush 50, 2) := by decide +kernel
theorem dX2_readOffer_24 : decode cX2_readOffer 24 = .ok (.invokevirtual 120, 3) := by decide +kernel
theorem dX2_readOffer_27 : decode cX2_readOffer 27 = .ok (.ifCond .ne 5, 3) := by decide +kernel
theorem dX2_readOffer_30 : decode cX2_readOffer 30 = .ok (.iconst 0, 1) := by decide +kernel
theorem dX2_readOffer_31 : decode cX2_readOffer 31 = .ok (.ireturn, 1) := by decide +kernel
theorem dX2_readOffer_32 : decode cX2_readOffer 32 = .ok (.aload_n 1, 1) := by decide +kernel
theorem dX2_readOffer_33 : decode cX2_readOffer 33 = .ok (.aload_n 0, 1) := by decide +kernel
theorem dX2_readOffer_34 : decode cX2_readOffer 34 = .ok (.getfield 86, 3) := by decide +kernel
theorem dX2_readOffer_37 : decode cX2_readOffer 37 = .ok (.putfield 198, 3) := by decide +kernel
theorem dX2_readOffer_40 : decode cX2_readOffer 40 = .ok (.aload_n 0, 1) := by decide +kernel
theorem dX2_readOffer_41 : decode cX2_readOffer 41 = .ok (.invokevirtual 133, 3) := by decide +kernel
theorem dX2_readOffer_44 : decode cX2_readOffer 44 = .ok (.ireturn, 1) := by decide +kernel
theorem dX3_init_0 : decode cX3_init 0 = .ok (.aload_n 0, 1) := by decide +kernel
theorem dX3_init_1 : decode cX3_init 1 = .ok (.invokespecial 3, 3) := by decide +kernel
theorem dX3_init_4 : decode cX3_init 4 = .ok (.aload_n 0, 1) := by decide +kernel
theorem dX3_init_5 : decode cX3_init 5 = .ok (.bipush 80, 2) := by decide +kernel
theorem dX3_init_7 : decode cX3_init 7 = .ok (.newarray .int, 2) := by decide +kernel
theorem dX3_init_9 : decode cX3_init 9 = .ok (.putfield 9, 3) := by decide +kernel
theorem dX3_init_12 : decode cX3_init 12 = .ok (.aload_n 0, 1) := by decide +kernel
theorem dX3_init_13 : decode cX3_init 13 = .ok (.sipush 204, 3) := by decide +kernel
theorem dX3_init_16 : decode cX3_init 16 = .ok (.newarray .int, 2) := by decide +kernel
theorem dX3_init_18 : decode cX3_init 18 = .ok (.putfield 15, 3) := by decide +kernel
theorem dX3_init_21 : decode cX3_init 21 = .ok (.aload_n 0, 1) := by decide +kernel
theorem dX3_init_22 : decode cX3_init 22 = .ok (.bipush 17, 2) := by decide +kernel
theorem dX3_init_24 : decode cX3_init 24 = .ok (.newarray .int, 2) := by decide +kernel
theorem dX3_init_26 : decode cX3_init 26 = .ok (.putfield 18, 3) := by decide +kernel
theorem dX3_init_29 : decode cX3_init 29 = .ok (.aload_n 0, 1) := by decide +kernel
theorem dX3_init_30 : decode cX3_init 30 = .ok (.bipush 17, 2) := by decide +kernel
theorem dX3_init_32 : decode cX3_init 32 = .ok (.newarray .int, 2) := by decide +kernel
theorem dX3_init_34 : decode cX3_init 34 = .ok (.putfield 21, 3) := by decide +kernel
theorem dX3_init_37 : decode cX3_init 37 = .ok (.aload_n 0, 1) := by decide +kernel
theorem dX3_init_38 : decode cX3_init 38 = .ok (.bipush 17, 2) := by decide +kernel
theorem dX3_init_40 : decode cX3_init 40 = .ok (.newarray .int, 2) := by decide +kernel
theorem dX3_init_42 : decode cX3_init 42 = .ok (.putfield 24, 3) := by decide +kernel
theorem dX3_init_45 : decode cX3_init 45 = .ok (.aload_n 0, 1) := by decide +kernel
theorem dX3_init_46 : decode cX3_init 46 = .ok (.bipush 8, 2) := by decide +kernel
theorem dX3_init_48 : decode cX3_init 48 = .ok (.newarray .int, 2) := by decide +kernel
theorem dX3_init_50 : decode cX3_init 50 = .ok (.putfield 27, 3) := by decide +kernel
theorem dX3_init_53 : decode cX3_init 53 = .ok (.return_, 1) := by decide +kernel
theorem dX3_isBusy_0 : decode cX3_isBusy 0 = .ok (.aload_n 0, 1) := by decide +kernel
theorem dX3_isBusy_1 : decode cX3_isBusy 1 = .ok (.getfield 9, 3) := by decide +kernel
theorem dX3_isBusy_4 : decode cX3_isBusy 4 = .ok (.iload_n 1, 1) := by decide +kernel
theorem dX3_isBusy_5 : decode cX3_isBusy 5 = .ok (.iaload, 1) := by decide +kernel
theorem dX3_isBusy_6 : decode cX3_isBusy 6 = .ok (.iload_n 2, 1) := by decide +kernel
theorem dX3_isBusy_7 : decode cX3_isBusy 7 = .ok (.ishr, 1) := by decide +kernel
theorem dX3_isBusy_8 : decode cX3_isBusy 8 = .ok (.iconst 1, 1) := by decide +kernel
theorem dX3_isBusy_9 : decode cX3_isBusy 9 = .ok (.iand, 1) := by decide +kernel
theorem dX3_isBusy_10 : decode cX3_isBusy 10 = .ok (.iconst 1, 1) := by decide +kernel
theorem dX3_isBusy_11 : decode cX3_isBusy 11 = .ok (.if_icmp .ne 7, 3) := by decide +kernel
theorem dX3_isBusy_14 : decode cX3_isBusy 14 = .ok (.iconst 1, 1) := by decide +kernel
theorem dX3_isBusy_15 : decode cX3_isBusy 15 = .ok (.goto 4, 3) := by decide +kernel
theorem dX3_isBusy_18 : decode cX3_isBusy 18 = .ok (.iconst 0, 1) := by decide +kernel
theorem dX3_isBusy_19 : decode cX3_isBusy 19 = .ok (.ireturn, 1) := by decide +kernel
theorem dX3_taken_0 : decode cX3_taken 0 = .ok (.iconst 0, 1) := by decide +kernel
theorem dX3_taken_1 : decode cX3_taken 1 = .ok (.istore_n 3, 1) := by decide +kernel
theorem dX3_taken_2 : decode cX3_taken 2 = .ok (.iload_n 1, 1) := by decide +kernel
theorem dX3_taken_3 : decode cX3_taken 3 = .ok (.bipush 10, 2) := by decide +kernel
theorem dX3_taken_5 : decode cX3_taken 5 = .ok (.imul, 1) := by decide +kernel
theorem dX3_taken_6 : decode cX3_taken 6 = .ok (.istore 4, 2) := by decide +kernel
theorem dX3_taken_8 : decode cX3_taken 8 = .ok (.iload 4, 2) := by decide +kernel
theorem dX3_taken_10 : decode cX3_taken 10 = .ok (.iload_n 1, 1) := by decide +kernel
theorem dX3_taken_11 : decode cX3_taken 11 = .ok (.iconst 1, 1) := by decide +kernel
theorem dX3_taken_12 : decode cX3_taken 12 = .ok (.iadd, 1) := by decide +kernel
theorem dX3_taken_13 : decode cX3_taken 13 = .ok (.bipush 10, 2) := by decide +kernel
theorem dX3_taken_15 : decode cX3_taken 15 = .ok (.imul, 1) := by decide +kernel
theorem dX3_taken_16 : decode cX3_taken 16 = .ok (.if_icmp .ge 22, 3) := by decide +kernel
theorem dX3_taken_19 : decode cX3_taken 19 = .ok (.aload_n 0, 1) := by decide +kernel
theorem dX3_taken_20 : decode cX3_taken 20 = .ok (.iload 4, 2) := by decide +kernel
theorem dX3_taken_22 : decode cX3_taken 22 = .ok (.iload_n 2, 1) := by decide +kernel
theorem dX3_taken_23 : decode cX3_taken 23 = .ok (.invokevirtual 30, 3) := by decide +kernel
theorem dX3_taken_26 : decode cX3_taken 26 = .ok (.ifCond .eq 6, 3) := by decide +kernel
theorem dX3_taken_29 : decode cX3_taken 29 = .ok (.iinc 3 1, 3) := by decide +kernel
theorem dX3_taken_32 : decode cX3_taken 32 = .ok (.iinc 4 1, 3) := by decide +kernel
theorem dX3_taken_35 : decode cX3_taken 35 = .ok (.goto (-27), 3) := by decide +kernel
theorem dX3_taken_38 : decode cX3_taken 38 = .ok (.iload_n 3, 1) := by decide +kernel
theorem dX3_taken_39 : decode cX3_taken 39 = .ok (.ireturn, 1) := by decide +kernel
theorem dX3_hasBeds_0 : decode cX3_hasBeds 0 = .ok (.aload_n 0, 1) := by decide +kernel
theorem dX3_hasBeds_1 : decode cX3_hasBeds 1 = .ok (.getfield 18, 3) := by decide +kernel
theorem dX3_hasBeds_4 : decode cX3_hasBeds 4 = .ok (.iload_n 1, 1) := by decide +kernel
theorem dX3_hasBeds_5 : decode cX3_hasBeds 5 = .ok (.iaload, 1) := by decide +kernel
theorem dX3_hasBeds_6 : decode cX3_hasBeds 6 = .ok (.iconst 1, 1) := by decide +kernel
theorem dX3_hasBeds_7 : decode cX3_hasBeds 7 = .ok (.if_icmp .eq 13, 3) := by decide +kernel
theorem dX3_hasBeds_10 : decode cX3_hasBeds 10 = .ok (.aload_n 0, 1) := by decide +kernel
theorem dX3_hasBeds_11 : decode cX3_hasBeds 11 = .ok (.getfield 18, 3) := by decide +kernel
theorem dX3_hasBeds_14 : decode cX3_hasBeds 14 = .ok (.iload_n 1, 1) := by decide +kernel
theorem dX3_hasBeds_15 : decode cX3_hasBeds 15 = .ok (.iaload, 1) := by decide +kernel
theorem dX3_hasBeds_16 : decode cX3_hasBeds 16 = .ok (.iconst 2, 1) := by decide +kernel
theorem dX3_hasBeds_17 : decode cX3_hasBeds 17 = .ok (.if_icmp .ne 7, 3) := by decide +kernel
theorem dX3_hasBeds_20 : decode cX3_hasBeds 20 = .ok (.iconst 1, 1) := by decide +kernel
theorem dX3_hasBeds_21 : decode cX3_hasBeds 21 = .ok (.goto 4, 3) := by decide +kernel
theorem dX3_hasBeds_24 : decode cX3_hasBeds 24 = .ok (.iconst 0, 1) := by decide +kernel
theorem dX3_hasBeds_25 : decode cX3_hasBeds 25 = .ok (.ireturn, 1) := by decide +kernel
theorem dX3_hasBed_0 : decode cX3_hasBed 0 = .ok (.iconst 0, 1) := by decide +kernel
theorem dX3_hasBed_1 : decode cX3_hasBed 1 = .ok (.istore 4, 2) := by decide +kernel
theorem dX3_hasBed_3 : decode cX3_hasBed 3 = .ok (.iload 4, 2) := by decide +kernel
theorem dX3_hasBed_5 : decode cX3_hasBed 5 = .ok (.iload_n 2, 1) := by decide +kernel
theorem dX3_hasBed_6 : decode cX3_hasBed 6 = .ok (.if_icmp .ge 35, 3) := by decide +kernel
theorem dX3_hasBed_9 : decode cX3_hasBed 9 = .ok (.aload_n 0, 1) := by decide +kernel
theorem dX3_hasBed_10 : decode cX3_hasBed 10 = .ok (.iload_n 1, 1) := by decide +kernel
theorem dX3_hasBed_11 : decode cX3_hasBed 11 = .ok (.invokevirtual 34, 3) := by decide +kernel
theorem dX3_hasBed_14 : decode cX3_hasBed 14 = .ok (.ifCond .eq 21, 3) := by decide +kernel
theorem dX3_hasBed_17 : decode cX3_hasBed 17 = .ok (.aload_n 0, 1) := by decide +kernel
theorem dX3_hasBed_18 : decode cX3_hasBed 18 = .ok (.getfield 15, 3) := by decide +kernel
theorem dX3_hasBed_21 : decode cX3_hasBed 21 = .ok (.iload_n 1, 1) := by decide +kernel
theorem dX3_hasBed_22 : decode cX3_hasBed 22 = .ok (.bipush 12, 2) := by decide +kernel
theorem dX3_hasBed_24 : decode cX3_hasBed 24 = .ok (.imul, 1) := by decide +kernel
theorem dX3_hasBed_25 : decode cX3_hasBed 25 = .ok (.iload 4, 2) := by decide +kernel
theorem dX3_hasBed_27 : decode cX3_hasBed 27 = .ok (.iadd, 1) := by decide +kernel
theorem dX3_hasBed_28 : decode cX3_hasBed 28 = .ok (.iaload, 1) := by decide +kernel
theorem dX3_hasBed_29 : decode cX3_hasBed 29 = .ok (.iload_n 3, 1) := by decide +kernel
theorem dX3_hasBed_30 : decode cX3_hasBed 30 = .ok (.if_icmp .ne 5, 3) := by decide +kernel
theorem dX3_hasBed_33 : decode cX3_hasBed 33 = .ok (.iconst 1, 1) := by decide +kernel
theorem dX3_hasBed_34 : decode cX3_hasBed 34 = .ok (.ireturn, 1) := by decide +kernel
theorem dX3_hasBed_35 : decode cX3_hasBed 35 = .ok (.iinc 4 1, 3) := by decide +kernel
theorem dX3_hasBed_38 : decode cX3_hasBed 38 = .ok (.goto (-35), 3) := by decide +kernel
theorem dX3_hasBed_41 : decode cX3_hasBed 41 = .ok (.iconst 0, 1) := by decide +kernel
theorem dX3_hasBed_42 : decode cX3_hasBed 42 = .ok (.ireturn, 1) := by decide +kernel
theorem dX3_make_0 : decode cX3_make 0 = .ok (.aload_n 0, 1) := by decide +kernel
theorem dX3_make_1 : decode cX3_make 1 = .ok (.invokevirtual 38, 3) := by decide +kernel
theorem dX3_make_4 : decode cX3_make 4 = .ok (.iconst 0, 1) := by decide +kernel
theorem dX3_make_5 : decode cX3_make 5 = .ok (.istore_n 2, 1) := by decide +kernel
theorem dX3_make_6 : decode cX3_make 6 = .ok (.iload_n 2, 1) := by decide +kernel
theorem dX3_make_7 : decode cX3_make 7 = .ok (.bipush 30, 2) := by decide +kernel
theorem dX3_make_9 : decode cX3_make 9 = .ok (.if_icmp .ge 65, 3) := by decide +kernel
theorem dX3_make_12 : decode cX3_make 12 = .ok (.iconst 0, 1) := by decide +kernel
theorem dX3_make_13 : decode cX3_make 13 = .ok (.istore_n 3, 1) := by decide +kernel
theorem dX3_make_14 : decode cX3_make 14 = .ok (.iload_n 3, 1) := by decide +kernel
theorem dX3_make_15 : decode cX3_make 15 = .ok (.aload_n 1, 1) := by decide +kernel
theorem dX3_make_16 : decode cX3_make 16 = .ok (.getfield 41, 3) := by decide +kernel
theorem dX3_make_19 : decode cX3_make 19 = .ok (.if_icmp .ge 49, 3) := by decide +kernel
theorem dX3_make_22 : decode cX3_make 22 = .ok (.aload_n 1, 1) := by decide +kernel
theorem dX3_make_23 : decode cX3_make 23 = .ok (.getfield 47, 3) := by decide +kernel
theorem dX3_make_26 : decode cX3_make 26 = .ok (.iload_n 3, 1) := by decide +kernel
theorem dX3_make_27 : decode cX3_make 27 = .ok (.aaload, 1) := by decide +kernel
theorem dX3_make_28 : decode cX3_make 28 = .ok (.astore 4, 2) := by decide +kernel
theorem dX3_make_30 : decode cX3_make 30 = .ok (.aload 4, 2) := by decide +kernel
theorem dX3_make_32 : decode cX3_make 32 = .ok (.getfield 51, 3) := by decide +kernel
theorem dX3_make_35 : decode cX3_make 35 = .ok (.iload_n 2, 1) := by decide +kernel
theorem dX3_make_36 : decode cX3_make 36 = .ok (.if_icmp .ne 26, 3) := by decide +kernel
theorem dX3_make_39 : decode cX3_make 39 = .ok (.aload 4, 2) := by decide +kernel
theorem dX3_make_41 : decode cX3_make 41 = .ok (.getfield 56, 3) := by decide +kernel
theorem dX3_make_44 : decode cX3_make 44 = .ok (.iconst 1, 1) := by decide +kernel
theorem dX3_make_45 : decode cX3_make 45 = .ok (.if_icmp .ne 17, 3) := by decide +kernel
theorem dX3_make_48 : decode cX3_make 48 = .ok (.aload 4, 2) := by decide +kernel
theorem dX3_make_50 : decode cX3_make 50 = .ok (.getfield 59, 3) := by decide +kernel
theorem dX3_make_53 : decode cX3_make 53 = .ok (.ifCond .ne 9, 3) := by decide +kernel
theorem dX3_make_56 : decode cX3_make 56 = .ok (.aload_n 0, 1) := by decide +kernel
theorem dX3_make_57 : decode cX3_make 57 = .ok (.aload_n 1, 1) := by decide +kernel
theorem dX3_make_58 : decode cX3_make 58 = .ok (.iload_n 3, 1) := by decide +kernel
theorem dX3_make_59 : decode cX3_make 59 = .ok (.invokevirtual 63, 3) := by decide +kernel
theorem dX3_make_62 : decode cX3_make 62 = .ok (.iinc 3 1, 3) := by decide +kernel
theorem dX3_make_65 : decode cX3_make 65 = .ok (.goto (-51), 3) := by decide +kernel
theorem dX3_make_68 : decode cX3_make 68 = .ok (.iinc 2 1, 3) := by decide +kernel
theorem dX3_make_71 : decode cX3_make 71 = .ok (.goto (-65), 3) := by decide +kernel
theorem dX3_make_74 : decode cX3_make 74 = .ok (.return_, 1) := by decide +kernel
theorem dX3_clear_0 : decode cX3_clear 0 = .ok (.iconst 0, 1) := by decide +kernel
theorem dX3_clear_1 : decode cX3_clear 1 = .ok (.istore_n 1, 1) := by decide +kernel
theorem dX3_clear_2 : decode cX3_clear 2 = .ok (.iload_n 1, 1) := by decide +kernel
theorem dX3_clear_3 : decode cX3_clear 3 = .ok (.aload_n 0, 1) := by decide +kernel
theorem dX3_clear_4 : decode cX3_clear 4 = .ok (.getfield 9, 3) := by decide +kernel
theorem dX3_clear_7 : decode cX3_clear 7 = .ok (.arraylength, 1) := by decide +kernel
theorem dX3_clear_8 : decode cX3_clear 8 = .ok (.if_icmp .ge 16, 3) := by decide +kernel
theorem dX3_clear_11 : decode cX3_clear 11 = .ok (.aload_n 0, 1) := by decide +kernel
theorem dX3_clear_12 : decode cX3_clear 12 = .ok (.getfield 9, 3) := by decide +kernel
theorem dX3_clear_15 : decode cX3_clear 15 = .ok (.iload_n 1, 1) := by decide +kernel
theorem dX3_clear_16 : decode cX3_clear 16 = .ok (.iconst 0, 1) := by decide +kernel
theorem dX3_clear_17 : decode cX3_clear 17 = .ok (.iastore, 1) := by decide +kernel
theorem dX3_clear_18 : decode cX3_clear 18 = .ok (.iinc 1 1, 3) := by decide +kernel
theorem dX3_clear_21 : decode cX3_clear 21 = .ok (.goto (-19), 3) := by decide +kernel
theorem dX3_clear_24 : decode cX3_clear 24 = .ok (.iconst 0, 1) := by decide +kernel
theorem dX3_clear_25 : decode cX3_clear 25 = .ok (.istore_n 1, 1) := by decide +kernel
theorem dX3_clear_26 : decode cX3_clear 26 = .ok (.iload_n 1, 1) := by decide +kernel
theorem dX3_clear_27 : decode cX3_clear 27 = .ok (.aload_n 0, 1) := by decide +kernel
theorem dX3_clear_28 : decode cX3_clear 28 = .ok (.getfield 18, 3) := by decide +kernel
theorem dX3_clear_31 : decode cX3_clear 31 = .ok (.arraylength, 1) := by decide +kernel
theorem dX3_clear_32 : decode cX3_clear 32 = .ok (.if_icmp .ge 30, 3) := by decide +kernel
theorem dX3_clear_35 : decode cX3_clear 35 = .ok (.aload_n 0, 1) := by decide +kernel
theorem dX3_clear_36 : decode cX3_clear 36 = .ok (.getfield 18, 3) := by decide +kernel
theorem dX3_clear_39 : decode cX3_clear 39 = .ok (.iload_n 1, 1) := by decide +kernel
theorem dX3_clear_40 : decode cX3_clear 40 = .ok (.iconst 0, 1) := by decide +kernel
theorem dX3_clear_41 : decode cX3_clear 41 = .ok (.iastore, 1) := by decide +kernel
theorem dX3_clear_42 : decode cX3_clear 42 = .ok (.aload_n 0, 1) := by decide +kernel
theorem dX3_clear_43 : decode cX3_clear 43 = .ok (.getfield 21, 3) := by decide +kernel
theorem dX3_clear_46 : decode cX3_clear 46 = .ok (.iload_n 1, 1) := by decide +kernel
theorem dX3_clear_47 : decode cX3_clear 47 = .ok (.iconst 0, 1) := by decide +kernel
theorem dX3_clear_48 : decode cX3_clear 48 = .ok (.iastore, 1) := by decide +kernel
theorem dX3_clear_49 : decode cX3_clear 49 = .ok (.aload_n 0, 1) := by decide +kernel
theorem dX3_clear_50 : decode cX3_clear 50 = .ok (.getfield 24, 3) := by decide +kernel
theorem dX3_clear_53 : decode cX3_clear 53 = .ok (.iload_n 1, 1) := by decide +kernel
theorem dX3_clear_54 : decode cX3_clear 54 = .ok (.iconst 0, 1) := by decide +kernel
theorem dX3_clear_55 : decode cX3_clear 55 = .ok (.iastore, 1) := by decide +kernel
theorem dX3_clear_56 : decode cX3_clear 56 = .ok (.iinc 1 1, 3) := by decide +kernel
theorem dX3_clear_59 : decode cX3_clear 59 = .ok (.goto (-33), 3) := by decide +kernel
theorem dX3_clear_62 : decode cX3_clear 62 = .ok (.aload_n 0, 1) := by decide +kernel
theorem dX3_clear_63 : decode cX3_clear 63 = .ok (.iconst 0, 1) := by decide +kernel
theorem dX3_clear_64 : decode cX3_clear 64 = .ok (.putfield 67, 3) := by decide +kernel
theorem dX3_clear_67 : decode cX3_clear 67 = .ok (.aload_n 0, 1) := by decide +kernel
theorem dX3_clear_68 : decode cX3_clear 68 = .ok (.iconst 0, 1) := by decide +kernel
theorem dX3_clear_69 : decode cX3_clear 69 = .ok (.putfield 70, 3) := by decide +kernel
theorem dX3_clear_72 : decode cX3_clear 72 = .ok (.return_, 1) := by decide +kernel
theorem dX3_place_0 : decode cX3_place 0 = .ok (.aload_n 1, 1) := by decide +kernel
theorem dX3_place_1 : decode cX3_place 1 = .ok (.getfield 47, 3) := by decide +kernel
theorem dX3_place_4 : decode cX3_place 4 = .ok (.iload_n 2, 1) := by decide +kernel
theorem dX3_place_5 : decode cX3_place 5 = .ok (.aaload, 1) := by decide +kernel
theorem dX3_place_6 : decode cX3_place 6 = .ok (.astore_n 3, 1) := by decide +kernel
theorem dX3_place_7 : decode cX3_place 7 = .ok (.aload_n 0, 1) := by decide +kernel
theorem dX3_place_8 : decode cX3_place 8 = .ok (.aload_n 1, 1) := by decide +kernel
theorem dX3_place_9 : decode cX3_place 9 = .ok (.aload_n 3, 1) := by decide +kernel
theorem dX3_place_10 : decode cX3_place 10 = .ok (.invokevirtual 73, 3) := by decide +kernel
theorem dX3_place_13 : decode cX3_place 13 = .ok (.aload_n 0, 1) := by decide +kernel
theorem dX3_place_14 : decode cX3_place 14 = .ok (.aload_n 1, 1) := by decide +kernel
theorem dX3_place_15 : decode cX3_place 15 = .ok (.aload_n 3, 1) := by decide +kernel
theorem dX3_place_16 : decode cX3_place 16 = .ok (.invokevirtual 77, 3) := by decide +kernel
theorem dX3_place_19 : decode cX3_place 19 = .ok (.istore 4, 2) := by decide +kernel
theorem dX3_place_21 : decode cX3_place 21 = .ok (.aload_n 0, 1) := by decide +kernel
theorem dX3_place_22 : decode cX3_place 22 = .ok (.getfield 18, 3) := by decide +kernel
theorem dX3_place_25 : decode cX3_place 25 = .ok (.iload_n 2, 1) := by decide +kernel
theorem dX3_place_26 : decode cX3_place 26 = .ok (.iconst 1, 1) := by decide +kernel
theorem dX3_place_27 : decode cX3_place 27 = .ok (.iastore, 1) := by decide +kernel
theorem dX3_place_28 : decode cX3_place 28 = .ok (.iload 4, 2) := by decide +kernel
theorem dX3_place_30 : decode cX3_place 30 = .ok (.ifCond .ne 25, 3) := by decide +kernel
theorem dX3_place_33 : decode cX3_place 33 = .ok (.aload_n 3, 1) := by decide +kernel
theorem dX3_place_34 : decode cX3_place 34 = .ok (.getfield 81, 3) := by decide +kernel
theorem dX3_place_37 : decode cX3_place 37 = .ok (.ifCond .ne 18, 3) := by decide +kernel
theorem dX3_place_40 : decode cX3_place 40 = .ok (.aload_n 0, 1) := by decide +kernel
theorem dX3_place_41 : decode cX3_place 41 = .ok (.aload_n 1, 1) := by decide +kernel
theorem dX3_place_42 : decode cX3_place 42 = .ok (.aload_n 3, 1) := by decide +kernel
theorem dX3_place_43 : decode cX3_place 43 = .ok (.invokevirtual 84, 3) := by decide +kernel
theorem dX3_place_46 : decode cX3_place 46 = .ok (.istore 4, 2) := by decide +kernel
theorem dX3_place_48 : decode cX3_place 48 = .ok (.aload_n 0, 1) := by decide +kernel
theorem dX3_place_49 : decode cX3_place 49 = .ok (.getfield 18, 3) := by decide +kernel
theorem dX3_place_52 : decode cX3_place 52 = .ok (.iload_n 2, 1) := by decide +kernel
theorem dX3_place_53 : decode cX3_place 53 = .ok (.iconst 2, 1) := by decide +kernel
theorem dX3_place_54 : decode cX3_place 54 = .ok (.iastore, 1) := by decide +kernel
theorem dX3_place_55 : decode cX3_place 55 = .ok (.iload 4, 2) := by decide +kernel
theorem dX3_place_57 : decode cX3_place 57 = .ok (.ifCond .ne 34, 3) := by decide +kernel
theorem dX3_place_60 : decode cX3_place 60 = .ok (.aload_n 0, 1) := by decide +kernel
theorem dX3_place_61 : decode cX3_place 61 = .ok (.getfield 18, 3) := by decide +kernel
theorem dX3_place_64 : decode cX3_place 64 = .ok (.iload_n 2, 1) := by decide +kernel
theorem dX3_place_65 : decode cX3_place 65 = .ok (.iconst 3, 1) := by decide +kernel
theorem dX3_place_66 : decode cX3_place 66 = .ok (.iastore, 1) := by decide +kernel
theorem dX3_place_67 : decode cX3_place 67 = .ok (.aload_n 0, 1) := by decide +kernel
theorem dX3_place_68 : decode cX3_place 68 = .ok (.dup, 1) := by decide +kernel
theorem dX3_place_69 : decode cX3_place 69 = .ok (.getfield 70, 3) := by decide +kernel
theorem dX3_place_72 : decode cX3_place 72 = .ok (.aload_n 1, 1) := by decide +kernel
theorem dX3_place_73 : decode cX3_place 73 = .ok (.getfield 87, 3) := by decide +kernel
theorem dX3_place_76 : decode cX3_place 76 = .ok (.aload_n 3, 1) := by decide +kernel
theorem dX3_place_77 : decode cX3_place 77 = .ok (.getfield 90, 3) := by decide +kernel
theorem dX3_place_80 : decode cX3_place 80 = .ok (.imul, 1) := by decide +kernel
theorem dX3_place_81 : decode cX3_place 81 = .ok (.aload_n 3, 1) := by decide +kernel
theorem dX3_place_82 : decode cX3_place 82 = .ok (.getfield 93, 3) := by decide +kernel
theorem dX3_place_85 : decode cX3_place 85 = .ok (.imul, 1) := by decide +kernel
theorem dX3_place_86 : decode cX3_place 86 = .ok (.iadd, 1) := by decide +kernel
theorem dX3_place_87 : decode cX3_place 87 = .ok (.putfield 70, 3) := by decide +kernel
theorem dX3_place_90 : decode cX3_place 90 = .ok (.return_, 1) := by decide +kernel
theorem dX3_place_91 : decode cX3_place 91 = .ok (.aload_n 0, 1) := by decide +kernel
theorem dX3_place_92 : decode cX3_place 92 = .ok (.getfield 21, 3) := by decide +kernel
theorem dX3_place_95 : decode cX3_place 95 = .ok (.iload_n 2, 1) := by decide +kernel
theorem dX3_place_96 : decode cX3_place 96 = .ok (.iload 4, 2) := by decide +kernel
theorem dX3_place_98 : decode cX3_place 98 = .ok (.iastore, 1) := by decide +kernel
theorem dX3_place_99 : decode cX3_place 99 = .ok (.aload_n 0, 1) := by decide +kernel
theorem dX3_place_100 : decode cX3_place 100 = .ok (.getfield 24, 3) := by decide +kernel
theorem dX3_place_103 : decode cX3_place 103 = .ok (.iload_n 2, 1) := by decide +kernel
theorem dX3_place_104 : decode cX3_place 104 = .ok (.aload_n 0, 1) := by decide +kernel
theorem dX3_place_105 : decode cX3_place 105 = .ok (.aload_n 1, 1) := by decide +kernel
theorem dX3_place_106 : decode cX3_place 106 = .ok (.iload_n 2, 1) := by decide +kernel
theorem dX3_place_107 : decode cX3_place 107 = .ok (.iload 4, 2) := by decide +kernel
theorem dX3_place_109 : decode cX3_place 109 = .ok (.invokevirtual 96, 3) := by decide +kernel
theorem dX3_place_112 : decode cX3_place 112 = .ok (.iastore, 1) := by decide +kernel
theorem dX3_place_113 : decode cX3_place 113 = .ok (.aload_n 0, 1) := by decide +kernel
theorem dX3_place_114 : decode cX3_place 114 = .ok (.dup, 1) := by decide +kernel
theorem dX3_place_115 : decode cX3_place 115 = .ok (.getfield 67, 3) := by decide +kernel
theorem dX3_place_118 : decode cX3_place 118 = .ok (.aload_n 0, 1) := by decide +kernel
theorem dX3_place_119 : decode cX3_place 119 = .ok (.getfield 24, 3) := by decide +kernel
theorem dX3_place_122 : decode cX3_place 122 = .ok (.iload_n 2, 1) := by decide +kernel
theorem dX3_place_123 : decode cX3_place 123 = .ok (.iaload, 1) := by decide +kernel
theorem dX3_place_124 : decode cX3_place 124 = .ok (.iadd, 1) := by decide +kernel
theorem dX3_place_125 : decode cX3_place 125 = .ok (.putfield 67, 3) := by decide +kernel
theorem dX3_place_128 : decode cX3_place 128 = .ok (.return_, 1) := by decide +kernel
theorem dX3_countFree_0 : decode cX3_countFree 0 = .ok (.aload_n 2, 1) := by decide +kernel
theorem dX3_countFree_1 : decode cX3_countFree 1 = .ok (.invokevirtual 100, 3) := by decide +kernel
theorem dX3_countFree_4 : decode cX3_countFree 4 = .ok (.istore_n 3, 1) := by decide +kernel
theorem dX3_countFree_5 : decode cX3_countFree 5 = .ok (.iconst 0, 1) := by decide +kernel
theorem dX3_countFree_6 : decode cX3_countFree 6 = .ok (.istore 4, 2) := by decide +kernel
theorem dX3_countFree_8 : decode cX3_countFree 8 = .ok (.iload 4, 2) := by decide +kernel
theorem dX3_countFree_10 : decode cX3_countFree 10 = .ok (.aload_n 1, 1) := by decide +kernel
theorem dX3_countFree_11 : decode cX3_countFree 11 = .ok (.getfield 104, 3) := by decide +kernel
theorem dX3_countFree_14 : decode cX3_countFree 14 = .ok (.if_icmp .ge 86, 3) := by decide +kernel
theorem dX3_countFree_17 : decode cX3_countFree 17 = .ok (.aload_n 1, 1) := by decide +kernel
theorem dX3_countFree_18 : decode cX3_countFree 18 = .ok (.getfield 107, 3) := by decide +kernel
theorem dX3_countFree_21 : decode cX3_countFree 21 = .ok (.iload 4, 2) := by decide +kernel
theorem dX3_countFree_23 : decode cX3_countFree 23 = .ok (.aaload, 1) := by decide +kernel
theorem dX3_countFree_24 : decode cX3_countFree 24 = .ok (.astore 5, 2) := by decide +kernel
theorem dX3_countFree_26 : decode cX3_countFree 26 = .ok (.aload_n 0, 1) := by decide +kernel
theorem dX3_countFree_27 : decode cX3_countFree 27 = .ok (.getfield 27, 3) := by decide +kernel
theorem dX3_countFree_30 : decode cX3_countFree 30 = .ok (.iload 4, 2) := by decide +kernel
theorem dX3_countFree_32 : decode cX3_countFree 32 = .ok (.iconst 0, 1) := by decide +kernel
theorem dX3_countFree_33 : decode cX3_countFree 33 = .ok (.iastore, 1) := by decide +kernel
theorem dX3_countFree_34 : decode cX3_countFree 34 = .ok (.iconst 0, 1) := by decide +kernel
theorem dX3_countFree_35 : decode cX3_countFree 35 = .ok (.istore 6, 2) := by decide +kernel
theorem dX3_countFree_37 : decode cX3_countFree 37 = .ok (.iload 6, 2) := by decide +kernel
theorem dX3_countFree_39 : decode cX3_countFree 39 = .ok (.aload 5, 2) := by decide +kernel
theorem dX3_countFree_41 : decode cX3_countFree 41 = .ok (.getfield 111, 3) := by decide +kernel
theorem dX3_countFree_44 : decode cX3_countFree 44 = .ok (.if_icmp .ge 50, 3) := by decide +kernel
theorem dX3_countFree_47 : decode cX3_countFree 47 = .ok (.aload_n 2, 1) := by decide +kernel
theorem dX3_countFree_48 : decode cX3_countFree 48 = .ok (.getfield 116, 3) := by decide +kernel
theorem dX3_countFree_51 : decode cX3_countFree 51 = .ok (.aload 5, 2) := by decide +kernel
theorem dX3_countFree_53 : decode cX3_countFree 53 = .ok (.getfield 119, 3) := by decide +kernel
theorem dX3_countFree_56 : decode cX3_countFree 56 = .ok (.if_icmp .lt 32, 3) := by decide +kernel
theorem dX3_countFree_59 : decode cX3_countFree 59 = .ok (.aload_n 0, 1) := by decide +kernel
theorem dX3_countFree_60 : decode cX3_countFree 60 = .ok (.getfield 9, 3) := by decide +kernel
theorem dX3_countFree_63 : decode cX3_countFree 63 = .ok (.iload 4, 2) := by decide +kernel
theorem dX3_countFree_65 : decode cX3_countFree 65 = .ok (.bipush 10, 2) := by decide +kernel
theorem dX3_countFree_67 : decode cX3_countFree 67 = .ok (.imul, 1) := by decide +kernel
theorem dX3_countFree_68 : decode cX3_countFree 68 = .ok (.iload 6, 2) := by decide +kernel
theorem dX3_countFree_70 : decode cX3_countFree 70 = .ok (.iadd, 1) := by decide +kernel
theorem dX3_countFree_71 : decode cX3_countFree 71 = .ok (.iaload, 1) := by decide +kernel
theorem dX3_countFree_72 : decode cX3_countFree 72 = .ok (.iload_n 3, 1) := by decide +kernel
theorem dX3_countFree_73 : decode cX3_countFree 73 = .ok (.iand, 1) := by decide +kernel
theorem dX3_countFree_74 : decode cX3_countFree 74 = .ok (.ifCond .ne 14, 3) := by decide +kernel
theorem dX3_countFree_77 : decode cX3_countFree 77 = .ok (.aload_n 0, 1) := by decide +kernel
theorem dX3_countFree_78 : decode cX3_countFree 78 = .ok (.getfield 27, 3) := by decide +kernel
theorem dX3_countFree_81 : decode cX3_countFree 81 = .ok (.iload 4, 2) := by decide +kernel
theorem dX3_countFree_83 : decode cX3_countFree 83 = .ok (.dup2, 1) := by decide +kernel
theorem dX3_countFree_84 : decode cX3_countFree 84 = .ok (.iaload, 1) := by decide +kernel
theorem dX3_countFree_85 : decode cX3_countFree 85 = .ok (.iconst 1, 1) := by decide +kernel
theorem dX3_countFree_86 : decode cX3_countFree 86 = .ok (.iadd, 1) := by decide +kernel
theorem dX3_countFree_87 : decode cX3_countFree 87 = .ok (.iastore, 1) := by decide +kernel
theorem dX3_countFree_88 : decode cX3_countFree 88 = .ok (.iinc 6 1, 3) := by decide +kernel
theorem dX3_countFree_91 : decode cX3_countFree 91 = .ok (.goto (-54), 3) := by decide +kernel
theorem dX3_countFree_94 : decode cX3_countFree 94 = .ok (.iinc 4 1, 3) := by decide +kernel
theorem dX3_countFree_97 : decode cX3_countFree 97 = .ok (.goto (-89), 3) := by decide +kernel
theorem dX3_countFree_100 : decode cX3_countFree 100 = .ok (.return_, 1) := by decide +kernel
theorem dX3_oneRoom_0 : decode cX3_oneRoom 0 = .ok (.iconst (-1), 1) := by decide +kernel
theorem dX3_oneRoom_1 : decode cX3_oneRoom 1 = .ok (.istore_n 3, 1) := by decide +kernel
theorem dX3_oneRoom_2 : decode cX3_oneRoom 2 = .ok (.iconst 0, 1) := by decide +kernel
theorem dX3_oneRoom_3 : decode cX3_oneRoom 3 = .ok (.istore 4, 2) := by decide +kernel
theorem dX3_oneRoom_5 : decode cX3_oneRoom 5 = .ok (.iload 4, 2) := by decide +kernel
theorem dX3_oneRoom_7 : decode cX3_oneRoom 7 = .ok (.aload_n 1, 1) := by decide +kernel
theorem dX3_oneRoom_8 : decode cX3_oneRoom 8 = .ok (.getfield 104, 3) := by decide +kernel
theorem dX3_oneRoom_11 : decode cX3_oneRoom 11 = .ok (.if_icmp .ge 56, 3) := by decide +kernel
theorem dX3_oneRoom_14 : decode cX3_oneRoom 14 = .ok (.aload_n 0, 1) := by decide +kernel
theorem dX3_oneRoom_15 : decode cX3_oneRoom 15 = .ok (.getfield 27, 3) := by decide +kernel
theorem dX3_oneRoom_18 : decode cX3_oneRoom 18 = .ok (.iload 4, 2) := by decide +kernel
theorem dX3_oneRoom_20 : decode cX3_oneRoom 20 = .ok (.iaload, 1) := by decide +kernel
theorem dX3_oneRoom_21 : decode cX3_oneRoom 21 = .ok (.aload_n 2, 1) := by decide +kernel
theorem dX3_oneRoom_22 : decode cX3_oneRoom 22 = .ok (.getfield 90, 3) := by decide +kernel
theorem dX3_oneRoom_25 : decode cX3_oneRoom 25 = .ok (.if_icmp .lt 36, 3) := by decide +kernel
theorem dX3_oneRoom_28 : decode cX3_oneRoom 28 = .ok (.aload_n 1, 1) := by decide +kernel
theorem dX3_oneRoom_29 : decode cX3_oneRoom 29 = .ok (.getfield 107, 3) := by decide +kernel
theorem dX3_oneRoom_32 : decode cX3_oneRoom 32 = .ok (.iload 4, 2) := by decide +kernel
theorem dX3_oneRoom_34 : decode cX3_oneRoom 34 = .ok (.aaload, 1) := by decide +kernel
theorem dX3_oneRoom_35 : decode cX3_oneRoom 35 = .ok (.aload_n 2, 1) := by decide +kernel
theorem dX3_oneRoom_36 : decode cX3_oneRoom 36 = .ok (.invokevirtual 120, 3) := by decide +kernel
theorem dX3_oneRoom_39 : decode cX3_oneRoom 39 = .ok (.ifCond .eq 22, 3) := by decide +kernel
theorem dX3_oneRoom_42 : decode cX3_oneRoom 42 = .ok (.iload_n 3, 1) := by decide +kernel
theorem dX3_oneRoom_43 : decode cX3_oneRoom 43 = .ok (.iconst (-1), 1) := by decide +kernel
theorem dX3_oneRoom_44 : decode cX3_oneRoom 44 = .ok (.if_icmp .eq 14, 3) := by decide +kernel
theorem dX3_oneRoom_47 : decode cX3_oneRoom 47 = .ok (.aload_n 0, 1) := by decide +kernel
theorem dX3_oneRoom_48 : decode cX3_oneRoom 48 = .ok (.aload_n 1, 1) := by decide +kernel
theorem dX3_oneRoom_49 : decode cX3_oneRoom 49 = .ok (.iload 4, 2) := by decide +kernel
theorem dX3_oneRoom_51 : decode cX3_oneRoom 51 = .ok (.iload_n 3, 1) := by decide +kernel
theorem dX3_oneRoom_52 : decode cX3_oneRoom 52 = .ok (.invokevirtual 124, 3) := by decide +kernel
theorem dX3_oneRoom_55 : decode cX3_oneRoom 55 = .ok (.ifCond .eq 6, 3) := by decide +kernel
theorem dX3_oneRoom_58 : decode cX3_oneRoom 58 = .ok (.iload 4, 2) := by decide +kernel
theorem dX3_oneRoom_60 : decode cX3_oneRoom 60 = .ok (.istore_n 3, 1) := by decide +kernel
theorem dX3_oneRoom_61 : decode cX3_oneRoom 61 = .ok (.iinc 4 1, 3) := by decide +kernel
theorem dX3_oneRoom_64 : decode cX3_oneRoom 64 = .ok (.goto (-59), 3) := by decide +kernel
theorem dX3_oneRoom_67 : decode cX3_oneRoom 67 = .ok (.iload_n 3, 1) := by decide +kernel
theorem dX3_oneRoom_68 : decode cX3_oneRoom 68 = .ok (.iconst (-1), 1) := by decide +kernel
theorem dX3_oneRoom_69 : decode cX3_oneRoom 69 = .ok (.if_icmp .ne 7, 3) := by decide +kernel
theorem dX3_oneRoom_72 : decode cX3_oneRoom 72 = .ok (.iconst 0, 1) := by decide +kernel
theorem dX3_oneRoom_73 : decode cX3_oneRoom 73 = .ok (.goto 6, 3) := by decide +kernel
theorem dX3_oneRoom_76 : decode cX3_oneRoom 76 = .ok (.iconst 1, 1) := by decide +kernel
theorem dX3_oneRoom_77 : decode cX3_oneRoom 77 = .ok (.iload_n 3, 1) := by decide +kernel
theorem dX3_oneRoom_78 : decode cX3_oneRoom 78 = .ok (.ishl, 1) := by decide +kernel
theorem dX3_oneRoom_79 : decode cX3_oneRoom 79 = .ok (.ireturn, 1) := by decide +kernel
theorem dX3_isBetter_0 : decode cX3_isBetter 0 = .ok (.aload_n 0, 1) := by decide +kernel
theorem dX3_isBetter_1 : decode cX3_isBetter 1 = .ok (.getfield 27, 3) := by decide +kernel
theorem dX3_isBetter_4 : decode cX3_isBetter 4 = .ok (.iload_n 2, 1) := by decide +kernel
theorem dX3_isBetter_5 : decode cX3_isBetter 5 = .ok (.iaload, 1) := by decide +kernel
theorem dX3_isBetter_6 : decode cX3_isBetter 6 = .ok (.aload_n 0, 1) := by decide +kernel
theorem dX3_isBetter_7 : decode cX3_isBetter 7 = .ok (.getfield 27, 3) := by decide +kernel
theorem dX3_isBetter_10 : decode cX3_isBetter 10 = .ok (.iload_n 3, 1) := by decide +kernel
theorem dX3_isBetter_11 : decode cX3_isBetter 11 = .ok (.iaload, 1) := by decide +kernel
theorem dX3_isBetter_12 : decode cX3_isBetter 12 = .ok (.if_icmp .lt 39, 3) := by decide +kernel
theorem dX3_isBetter_15 : decode cX3_isBetter 15 = .ok (.aload_n 0, 1) := by decide +kernel
theorem dX3_isBetter_16 : decode cX3_isBetter 16 = .ok (.getfield 27, 3) := by decide +kernel
theorem dX3_isBetter_19 : decode cX3_isBetter 19 = .ok (.iload_n 2, 1) := by decide +kernel
theorem dX3_isBetter_20 : decode cX3_isBetter 20 = .ok (.iaload, 1) := by decide +kernel
theorem dX3_isBetter_21 : decode cX3_isBetter 21 = .ok (.aload_n 0, 1) := by decide +kernel
theorem dX3_isBetter_22 : decode cX3_isBetter 22 = .ok (.getfield 27, 3) := by decide +kernel
theorem dX3_isBetter_25 : decode cX3_isBetter 25 = .ok (.iload_n 3, 1) := by decide +kernel
theorem dX3_isBetter_26 : decode cX3_isBetter 26 = .ok (.iaload, 1) := by decide +kernel
theorem dX3_isBetter_27 : decode cX3_isBetter 27 = .ok (.if_icmp .ne 28, 3) := by decide +kernel
theorem dX3_isBetter_30 : decode cX3_isBetter 30 = .ok (.aload_n 1, 1) := by decide +kernel
theorem dX3_isBetter_31 : decode cX3_isBetter 31 = .ok (.getfield 107, 3) := by decide +kernel
theorem dX3_isBetter_34 : decode cX3_isBetter 34 = .ok (.iload_n 2, 1) := by decide +kernel
theorem dX3_isBetter_35 : decode cX3_isBetter 35 = .ok (.aaload, 1) := by decide +kernel
theorem dX3_isBetter_36 : decode cX3_isBetter 36 = .ok (.getfield 128, 3) := by decide +kernel
theorem dX3_isBetter_39 : decode cX3_isBetter 39 = .ok (.aload_n 1, 1) := by decide +kernel
theorem dX3_isBetter_40 : decode cX3_isBetter 40 = .ok (.getfield 107, 3) := by decide +kernel
theorem dX3_isBetter_43 : decode cX3_isBetter 43 = .ok (.iload_n 3, 1) := by decide +kernel
theorem dX3_isBetter_44 : decode cX3_isBetter 44 = .ok (.aaload, 1) := by decide +kernel
theorem dX3_isBetter_45 : decode cX3_isBetter 45 = .ok (.getfield 128, 3) := by decide +kernel
theorem dX3_isBetter_48 : decode cX3_isBetter 48 = .ok (.if_icmp .ge 7, 3) := by decide +kernel
theorem dX3_isBetter_51 : decode cX3_isBetter 51 = .ok (.iconst 1, 1) := by decide +kernel
theorem dX3_isBetter_52 : decode cX3_isBetter 52 = .ok (.goto 4, 3) := by decide +kernel
theorem dX3_isBetter_55 : decode cX3_isBetter 55 = .ok (.iconst 0, 1) := by decide +kernel
theorem dX3_isBetter_56 : decode cX3_isBetter 56 = .ok (.ireturn, 1) := by decide +kernel
theorem dX3_fewestRooms_0 : decode cX3_fewestRooms 0 = .ok (.iconst 1, 1) := by decide +kernel
theorem dX3_fewestRooms_1 : decode cX3_fewestRooms 1 = .ok (.aload_n 1, 1) := by decide +kernel
theorem dX3_fewestRooms_2 : decode cX3_fewestRooms 2 = .ok (.getfield 104, 3) := by decide +kernel
theorem dX3_fewestRooms_5 : decode cX3_fewestRooms 5 = .ok (.ishl, 1) := by decide +kernel
theorem dX3_fewestRooms_6 : decode cX3_fewestRooms 6 = .ok (.iconst 1, 1) := by decide +kernel
theorem dX3_fewestRooms_7 : decode cX3_fewestRooms 7 = .ok (.isub, 1) := by decide +kernel
theorem dX3_fewestRooms_8 : decode cX3_fewestRooms 8 = .ok (.istore_n 3, 1) := by decide +kernel
theorem dX3_fewestRooms_9 : decode cX3_fewestRooms 9 = .ok (.aload_n 0, 1) := by decide +kernel
theorem dX3_fewestRooms_10 : decode cX3_fewestRooms 10 = .ok (.aload_n 1, 1) := by decide +kernel
theorem dX3_fewestRooms_11 : decode cX3_fewestRooms 11 = .ok (.aload_n 2, 1) := by decide +kernel
theorem dX3_fewestRooms_12 : decode cX3_fewestRooms 12 = .ok (.iload_n 3, 1) := by decide +kernel
theorem dX3_fewestRooms_13 : decode cX3_fewestRooms 13 = .ok (.invokevirtual 131, 3) := by decide +kernel
theorem dX3_fewestRooms_16 : decode cX3_fewestRooms 16 = .ok (.ifCond .ne 5, 3) := by decide +kernel
theorem dX3_fewestRooms_19 : decode cX3_fewestRooms 19 = .ok (.iconst 0, 1) := by decide +kernel
theorem dX3_fewestRooms_20 : decode cX3_fewestRooms 20 = .ok (.ireturn, 1) := by decide +kernel
theorem dX3_fewestRooms_21 : decode cX3_fewestRooms 21 = .ok (.iload_n 3, 1) := by decide +kernel
theorem dX3_fewestRooms_22 : decode cX3_fewestRooms 22 = .ok (.istore 4, 2) := by decide +kernel
theorem dX3_fewestRooms_24 : decode cX3_fewestRooms 24 = .ok (.iconst 1, 1) := by decide +kernel
theorem dX3_fewestRooms_25 : decode cX3_fewestRooms 25 = .ok (.istore 5, 2) := by decide +kernel
theorem dX3_fewestRooms_27 : decode cX3_fewestRooms 27 = .ok (.iload 5, 2) := by decide +kernel
theorem dX3_fewestRooms_29 : decode cX3_fewestRooms 29 = .ok (.iload_n 3, 1) := by decide +kernel
theorem dX3_fewestRooms_30 : decode cX3_fewestRooms 30 = .ok (.if_icmp .ge 37, 3) := by decide +kernel
theorem dX3_fewestRooms_33 : decode cX3_fewestRooms 33 = .ok (.iload 5, 2) := by decide +kernel
theorem dX3_fewestRooms_35 : decode cX3_fewestRooms 35 = .ok (.invokestatic 135, 3) := by decide +kernel
theorem dX3_fewestRooms_38 : decode cX3_fewestRooms 38 = .ok (.iload 4, 2) := by decide +kernel
theorem dX3_fewestRooms_40 : decode cX3_fewestRooms 40 = .ok (.invokestatic 135, 3) := by decide +kernel
theorem dX3_fewestRooms_43 : decode cX3_fewestRooms 43 = .ok (.if_icmp .ge 18, 3) := by decide +kernel
theorem dX3_fewestRooms_46 : decode cX3_fewestRooms 46 = .ok (.aload_n 0, 1) := by decide +kernel
theorem dX3_fewestRooms_47 : decode cX3_fewestRooms 47 = .ok (.aload_n 1, 1) := by decide +kernel
theorem dX3_fewestRooms_48 : decode cX3_fewestRooms 48 = .ok (.aload_n 2, 1) := by decide +kernel
theorem dX3_fewestRooms_49 : decode cX3_fewestRooms 49 = .ok (.iload 5, 2) := by decide +kernel
theorem dX3_fewestRooms_51 : decode cX3_fewestRooms 51 = .ok (.invokevirtual 131, 3) := by decide +kernel
theorem dX3_fewestRooms_54 : decode cX3_fewestRooms 54 = .ok (.ifCond .eq 7, 3) := by decide +kernel
theorem dX3_fewestRooms_57 : decode cX3_fewestRooms 57 = .ok (.iload 5, 2) := by decide +kernel
theorem dX3_fewestRooms_59 : decode cX3_fewestRooms 59 = .ok (.istore 4, 2) := by decide +kernel
theorem dX3_fewestRooms_61 : decode cX3_fewestRooms 61 = .ok (.iinc 5 1, 3) := by decide +kernel
theorem dX3_fewestRooms_64 : decode cX3_fewestRooms 64 = .ok (.goto (-37), 3) := by decide +kernel
theorem dX3_fewestRooms_67 : decode cX3_fewestRooms 67 = .ok (.iload 4, 2) := by decide +kernel
theorem dX3_fewestRooms_69 : decode cX3_fewestRooms 69 = .ok (.ireturn, 1) := by decide +kernel
theorem dX3_holds_0 : decode cX3_holds 0 = .ok (.iconst 0, 1) := by decide +kernel
theorem dX3_holds_1 : decode cX3_holds 1 = .ok (.istore 4, 2) := by decide +kernel
theorem dX3_holds_3 : decode cX3_holds 3 = .ok (.iconst 0, 1) := by decide +kernel
theorem dX3_holds_4 : decode cX3_holds 4 = .ok (.istore 5, 2) := by decide +kernel
theorem dX3_holds_6 : decode cX3_holds 6 = .ok (.iconst 0, 1) := by decide +kernel
theorem dX3_holds_7 : decode cX3_holds 7 = .ok (.istore 6, 2) := by decide +kernel
theorem dX3_holds_9 : decode cX3_holds 9 = .ok (.iconst 0, 1) := by decide +kernel
theorem dX3_holds_10 : decode cX3_holds 10 = .ok (.istore 7, 2) := by decide +kernel
theorem dX3_holds_12 : decode cX3_holds 12 = .ok (.iload 7, 2) := by decide +kernel
theorem dX3_holds_14 : decode cX3_holds 14 = .ok (.aload_n 1, 1) := by decide +kernel
theorem dX3_holds_15 : decode cX3_holds 15 = .ok (.getfield 104, 3) := by decide +kernel
theorem dX3_holds_18 : decode cX3_holds 18 = .ok (.if_icmp .ge 87, 3) := by decide +kernel
theorem dX3_holds_21 : decode cX3_holds 21 = .ok (.iload_n 3, 1) := by decide +kernel
theorem dX3_holds_22 : decode cX3_holds 22 = .ok (.iload 7, 2) := by decide +kernel
theorem dX3_holds_24 : decode cX3_holds 24 = .ok (.ishr, 1) := by decide +kernel
theorem dX3_holds_25 : decode cX3_holds 25 = .ok (.iconst 1, 1) := by decide +kernel
theorem dX3_holds_26 : decode cX3_holds 26 = .ok (.iand, 1) := by decide +kernel
theorem dX3_holds_27 : decode cX3_holds 27 = .ok (.aload_n 0, 1) := by decide +kernel
theorem dX3_holds_28 : decode cX3_holds 28 = .ok (.getfield 27, 3) := by decide +kernel
theorem dX3_holds_31 : decode cX3_holds 31 = .ok (.iload 7, 2) := by decide +kernel
theorem dX3_holds_33 : decode cX3_holds 33 = .ok (.iaload, 1) := by decide +kernel
theorem dX3_holds_34 : decode cX3_holds 34 = .ok (.imul, 1) := by decide +kernel
theorem dX3_holds_35 : decode cX3_holds 35 = .ok (.istore 8, 2) := by decide +kernel
theorem dX3_holds_37 : decode cX3_holds 37 = .ok (.aload_n 1, 1) := by decide +kernel
theorem dX3_holds_38 : decode cX3_holds 38 = .ok (.getfield 107, 3) := by decide +kernel
theorem dX3_holds_41 : decode cX3_holds 41 = .ok (.iload 7, 2) := by decide +kernel
theorem dX3_holds_43 : decode cX3_holds 43 = .ok (.aaload, 1) := by decide +kernel
theorem dX3_holds_44 : decode cX3_holds 44 = .ok (.getfield 141, 3) := by decide +kernel
theorem dX3_holds_47 : decode cX3_holds 47 = .ok (.lookupswitch 45 #[(1, 25), (2, 35)], 25) := by decide +kernel
theorem dX3_holds_72 : decode cX3_holds 72 = .ok (.iload 4, 2) := by decide +kernel
theorem dX3_holds_74 : decode cX3_holds 74 = .ok (.iload 8, 2) := by decide +kernel
theorem dX3_holds_76 : decode cX3_holds 76 = .ok (.iadd, 1) := by decide +kernel
theorem dX3_holds_77 : decode cX3_holds 77 = .ok (.istore 4, 2) := by decide +kernel
theorem dX3_holds_79 : decode cX3_holds 79 = .ok (.goto 20, 3) := by decide +kernel
theorem dX3_holds_82 : decode cX3_holds 82 = .ok (.iload 5, 2) := by decide +kernel
theorem dX3_holds_84 : decode cX3_holds 84 = .ok (.iload 8, 2) := by decide +kernel
theorem dX3_holds_86 : decode cX3_holds 86 = .ok (.iadd, 1) := by decide +kernel
theorem dX3_holds_87 : decode cX3_holds 87 = .ok (.istore 5, 2) := by decide +kernel
theorem dX3_holds_89 : decode cX3_holds 89 = .ok (.goto 10, 3) := by decide +kernel
theorem dX3_holds_92 : decode cX3_holds 92 = .ok (.iload 6, 2) := by decide +kernel
theorem dX3_holds_94 : decode cX3_holds 94 = .ok (.iload 8, 2) := by decide +kernel
theorem dX3_holds_96 : decode cX3_holds 96 = .ok (.iadd, 1) := by decide +kernel
theorem dX3_holds_97 : decode cX3_holds 97 = .ok (.istore 6, 2) := by decide +kernel
theorem dX3_holds_99 : decode cX3_holds 99 = .ok (.iinc 7 1, 3) := by decide +kernel
theorem dX3_holds_102 : decode cX3_holds 102 = .ok (.goto (-90), 3) := by decide +kernel
theorem dX3_holds_105 : decode cX3_holds 105 = .ok (.iconst 0, 1) := by decide +kernel
theorem dX3_holds_106 : decode cX3_holds 106 = .ok (.aload_n 2, 1) := by decide +kernel
theorem dX3_holds_107 : decode cX3_holds 107 = .ok (.getfield 144, 3) := by decide +kernel
theorem dX3_holds_110 : decode cX3_holds 110 = .ok (.iload 4, 2) := by decide +kernel
theorem dX3_holds_112 : decode cX3_holds 112 = .ok (.isub, 1) := by decide +kernel
theorem dX3_holds_113 : decode cX3_holds 113 = .ok (.invokestatic 147, 3) := by decide +kernel
theorem dX3_holds_116 : decode cX3_holds 116 = .ok (.iconst 0, 1) := by decide +kernel
theorem dX3_holds_117 : decode cX3_holds 117 = .ok (.aload_n 2, 1) := by decide +kernel
theorem dX3_holds_118 : decode cX3_holds 118 = .ok (.getfield 153, 3) := by decide +kernel
theorem dX3_holds_121 : decode cX3_holds 121 = .ok (.iload 5, 2) := by decide +kernel
theorem dX3_holds_123 : decode cX3_holds 123 = .ok (.isub, 1) := by decide +kernel
theorem dX3_holds_124 : decode cX3_holds 124 = .ok (.invokestatic 147, 3) := by decide +kernel
theorem dX3_holds_127 : decode cX3_holds 127 = .ok (.iadd, 1) := by decide +kernel
theorem dX3_holds_128 : decode cX3_holds 128 = .ok (.iload 6, 2) := by decide +kernel
theorem dX3_holds_130 : decode cX3_holds 130 = .ok (.if_icmp .gt 7, 3) := by decide +kernel
theorem dX3_holds_133 : decode cX3_holds 133 = .ok (.iconst 1, 1) := by decide +kernel
theorem dX3_holds_134 : decode cX3_holds 134 = .ok (.goto 4, 3) := by decide +kernel
theorem dX3_holds_137 : decode cX3_holds 137 = .ok (.iconst 0, 1) := by decide +kernel
theorem dX3_holds_138 : decode cX3_holds 138 = .ok (.ireturn, 1) := by decide +kernel
theorem dX3_giveBeds_0 : decode cX3_giveBeds 0 = .ok (.aload_n 1, 1) := by decide +kernel
theorem dX3_giveBeds_1 : decode cX3_giveBeds 1 = .ok (.getfield 47, 3) := by decide +kernel
theorem dX3_giveBeds_4 : decode cX3_giveBeds 4 = .ok (.iload_n 2, 1) := by decide +kernel
theorem dX3_giveBeds_5 : decode cX3_giveBeds 5 = .ok (.aaload, 1) := by decide +kernel
theorem dX3_giveBeds_6 : decode cX3_giveBeds 6 = .ok (.astore 4, 2) := by decide +kernel
theorem dX3_giveBeds_8 : decode cX3_giveBeds 8 = .ok (.aload 4, 2) := by decide +kernel
theorem dX3_giveBeds_10 : decode cX3_giveBeds 10 = .ok (.invokevirtual 100, 3) := by decide +kernel
theorem dX3_giveBeds_13 : decode cX3_giveBeds 13 = .ok (.istore 5, 2) := by decide +kernel
theorem dX3_giveBeds_15 : decode cX3_giveBeds 15 = .ok (.iconst 0, 1) := by decide +kernel
theorem dX3_giveBeds_16 : decode cX3_giveBeds 16 = .ok (.istore 6, 2) := by decide +kernel
theorem dX3_giveBeds_18 : decode cX3_giveBeds 18 = .ok (.iconst 0, 1) := by decide +kernel
theorem dX3_giveBeds_19 : decode cX3_giveBeds 19 = .ok (.istore 7, 2) := by decide +kernel
theorem dX3_giveBeds_21 : decode cX3_giveBeds 21 = .ok (.iload 7, 2) := by decide +kernel
theorem dX3_giveBeds_23 : decode cX3_giveBeds 23 = .ok (.aload 4, 2) := by decide +kernel
theorem dX3_giveBeds_25 : decode cX3_giveBeds 25 = .ok (.getfield 90, 3) := by decide +kernel
theorem dX3_giveBeds_28 : decode cX3_giveBeds 28 = .ok (.if_icmp .ge 107, 3) := by decide +kernel
theorem dX3_giveBeds_31 : decode cX3_giveBeds 31 = .ok (.aload_n 0, 1) := by decide +kernel
theorem dX3_giveBeds_32 : decode cX3_giveBeds 32 = .ok (.aload_n 1, 1) := by decide +kernel
theorem dX3_giveBeds_33 : decode cX3_giveBeds 33 = .ok (.iload_n 3, 1) := by decide +kernel
theorem dX3_giveBeds_34 : decode cX3_giveBeds 34 = .ok (.iload 7, 2) := by decide +kernel
theorem dX3_giveBeds_36 : decode cX3_giveBeds 36 = .ok (.aload 4, 2) := by decide +kernel
theorem dX3_giveBeds_38 : decode cX3_giveBeds 38 = .ok (.getfield 144, 3) := by decide +kernel
theorem dX3_giveBeds_41 : decode cX3_giveBeds 41 = .ok (.if_icmp .ge 7, 3) := by decide +kernel
theorem dX3_giveBeds_44 : decode cX3_giveBeds 44 = .ok (.iconst 1, 1) := by decide +kernel
theorem dX3_giveBeds_45 : decode cX3_giveBeds 45 = .ok (.goto 4, 3) := by decide +kernel
theorem dX3_giveBeds_48 : decode cX3_giveBeds 48 = .ok (.iconst 2, 1) := by decide +kernel
theorem dX3_giveBeds_49 : decode cX3_giveBeds 49 = .ok (.iload 5, 2) := by decide +kernel
theorem dX3_giveBeds_51 : decode cX3_giveBeds 51 = .ok (.invokevirtual 156, 3) := by decide +kernel
theorem dX3_giveBeds_54 : decode cX3_giveBeds 54 = .ok (.istore 8, 2) := by decide +kernel
theorem dX3_giveBeds_56 : decode cX3_giveBeds 56 = .ok (.iload 8, 2) := by decide +kernel
theorem dX3_giveBeds_58 : decode cX3_giveBeds 58 = .ok (.iconst (-1), 1) := by decide +kernel
theorem dX3_giveBeds_59 : decode cX3_giveBeds 59 = .ok (.if_icmp .ne 14, 3) := by decide +kernel
theorem dX3_giveBeds_62 : decode cX3_giveBeds 62 = .ok (.aload_n 0, 1) := by decide +kernel
theorem dX3_giveBeds_63 : decode cX3_giveBeds 63 = .ok (.aload_n 1, 1) := by decide +kernel
theorem dX3_giveBeds_64 : decode cX3_giveBeds 64 = .ok (.iload_n 3, 1) := by decide +kernel
theorem dX3_giveBeds_65 : decode cX3_giveBeds 65 = .ok (.iconst 0, 1) := by decide +kernel
theorem dX3_giveBeds_66 : decode cX3_giveBeds 66 = .ok (.iload 5, 2) := by decide +kernel
theorem dX3_giveBeds_68 : decode cX3_giveBeds 68 = .ok (.invokevirtual 156, 3) := by decide +kernel
theorem dX3_giveBeds_71 : decode cX3_giveBeds 71 = .ok (.istore 8, 2) := by decide +kernel
theorem dX3_giveBeds_73 : decode cX3_giveBeds 73 = .ok (.iload 8, 2) := by decide +kernel
theorem dX3_giveBeds_75 : decode cX3_giveBeds 75 = .ok (.iconst (-1), 1) := by decide +kernel
theorem dX3_giveBeds_76 : decode cX3_giveBeds 76 = .ok (.if_icmp .eq 53, 3) := by decide +kernel
theorem dX3_giveBeds_79 : decode cX3_giveBeds 79 = .ok (.aload_n 0, 1) := by decide +kernel
theorem dX3_giveBeds_80 : decode cX3_giveBeds 80 = .ok (.getfield 9, 3) := by decide +kernel
theorem dX3_giveBeds_83 : decode cX3_giveBeds 83 = .ok (.iload 8, 2) := by decide +kernel
theorem dX3_giveBeds_85 : decode cX3_giveBeds 85 = .ok (.dup2, 1) := by decide +kernel
theorem dX3_giveBeds_86 : decode cX3_giveBeds 86 = .ok (.iaload, 1) := by decide +kernel
theorem dX3_giveBeds_87 : decode cX3_giveBeds 87 = .ok (.iload 5, 2) := by decide +kernel
theorem dX3_giveBeds_89 : decode cX3_giveBeds 89 = .ok (.ior, 1) := by decide +kernel
theorem dX3_giveBeds_90 : decode cX3_giveBeds 90 = .ok (.iastore, 1) := by decide +kernel
theorem dX3_giveBeds_91 : decode cX3_giveBeds 91 = .ok (.aload_n 0, 1) := by decide +kernel
theorem dX3_giveBeds_92 : decode cX3_giveBeds 92 = .ok (.getfield 15, 3) := by decide +kernel
theorem dX3_giveBeds_95 : decode cX3_giveBeds 95 = .ok (.iload_n 2, 1) := by decide +kernel
theorem dX3_giveBeds_96 : decode cX3_giveBeds 96 = .ok (.bipush 12, 2) := by decide +kernel
theorem dX3_giveBeds_98 : decode cX3_giveBeds 98 = .ok (.imul, 1) := by decide +kernel
theorem dX3_giveBeds_99 : decode cX3_giveBeds 99 = .ok (.iload 7, 2) := by decide +kernel
theorem dX3_giveBeds_101 : decode cX3_giveBeds 101 = .ok (.iadd, 1) := by decide +kernel
theorem dX3_giveBeds_102 : decode cX3_giveBeds 102 = .ok (.iload 8, 2) := by decide +kernel
theorem dX3_giveBeds_104 : decode cX3_giveBeds 104 = .ok (.iastore, 1) := by decide +kernel
theorem dX3_giveBeds_105 : decode cX3_giveBeds 105 = .ok (.iload 6, 2) := by decide +kernel
theorem dX3_giveBeds_107 : decode cX3_giveBeds 107 = .ok (.aload_n 1, 1) := by decide +kernel
theorem dX3_giveBeds_108 : decode cX3_giveBeds 108 = .ok (.getfield 107, 3) := by decide +kernel
theorem dX3_giveBeds_111 : decode cX3_giveBeds 111 = .ok (.iload 8, 2) := by decide +kernel
theorem dX3_giveBeds_113 : decode cX3_giveBeds 113 = .ok (.bipush 10, 2) := by decide +kernel
theorem dX3_giveBeds_115 : decode cX3_giveBeds 115 = .ok (.idiv, 1) := by decide +kernel
theorem dX3_giveBeds_116 : decode cX3_giveBeds 116 = .ok (.aaload, 1) := by decide +kernel
theorem dX3_giveBeds_117 : decode cX3_giveBeds 117 = .ok (.getfield 128, 3) := by decide +kernel
theorem dX3_giveBeds_120 : decode cX3_giveBeds 120 = .ok (.aload 4, 2) := by decide +kernel
theorem dX3_giveBeds_122 : decode cX3_giveBeds 122 = .ok (.getfield 93, 3) := by decide +kernel
theorem dX3_giveBeds_125 : decode cX3_giveBeds 125 = .ok (.imul, 1) := by decide +kernel
theorem dX3_giveBeds_126 : decode cX3_giveBeds 126 = .ok (.iadd, 1) := by decide +kernel
theorem dX3_giveBeds_127 : decode cX3_giveBeds 127 = .ok (.istore 6, 2) := by decide +kernel
theorem dX3_giveBeds_129 : decode cX3_giveBeds 129 = .ok (.iinc 7 1, 3) := by decide +kernel
theorem dX3_giveBeds_132 : decode cX3_giveBeds 132 = .ok (.goto (-111), 3) := by decide +kernel
theorem dX3_giveBeds_135 : decode cX3_giveBeds 135 = .ok (.aload 4, 2) := by decide +kernel
theorem dX3_giveBeds_137 : decode cX3_giveBeds 137 = .ok (.getfield 93, 3) := by decide +kernel
theorem dX3_giveBeds_140 : decode cX3_giveBeds 140 = .ok (.aload_n 1, 1) := by decide +kernel
theorem dX3_giveBeds_141 : decode cX3_giveBeds 141 = .ok (.getfield 160, 3) := by decide +kernel
theorem dX3_giveBeds_144 : decode cX3_giveBeds 144 = .ok (.if_icmp .lt 19, 3) := by decide +kernel
theorem dX3_giveBeds_147 : decode cX3_giveBeds 147 = .ok (.iload 6, 2) := by decide +kernel
theorem dX3_giveBeds_149 : decode cX3_giveBeds 149 = .ok (.bipush 100, 2) := by decide +kernel
theorem dX3_giveBeds_151 : decode cX3_giveBeds 151 = .ok (.aload_n 1, 1) := by decide +kernel
theorem dX3_giveBeds_152 : decode cX3_giveBeds 152 = .ok (.getfield 163, 3) := by decide +kernel
theorem dX3_giveBeds_155 : decode cX3_giveBeds 155 = .ok (.isub, 1) := by decide +kernel
theorem dX3_giveBeds_156 : decode cX3_giveBeds 156 = .ok (.imul, 1) := by decide +kernel
theorem dX3_giveBeds_157 : decode cX3_giveBeds 157 = .ok (.bipush 100, 2) := by decide +kernel
theorem dX3_giveBeds_159 : decode cX3_giveBeds 159 = .ok (.idiv, 1) := by decide +kernel
theorem dX3_giveBeds_160 : decode cX3_giveBeds 160 = .ok (.goto 5, 3) := by decide +kernel
theorem dX3_giveBeds_163 : decode cX3_giveBeds 163 = .ok (.iload 6, 2) := by decide +kernel
theorem dX3_giveBeds_165 : decode cX3_giveBeds 165 = .ok (.ireturn, 1) := by decide +kernel
theorem dX3_firstFree_0 : decode cX3_firstFree 0 = .ok (.iconst 0, 1) := by decide +kernel
theorem dX3_firstFree_1 : decode cX3_firstFree 1 = .ok (.istore 5, 2) := by decide +kernel
theorem dX3_firstFree_3 : decode cX3_firstFree 3 = .ok (.iload 5, 2) := by decide +kernel
theorem dX3_firstFree_5 : decode cX3_firstFree 5 = .ok (.aload_n 1, 1) := by decide +kernel
theorem dX3_firstFree_6 : decode cX3_firstFree 6 = .ok (.getfield 104, 3) := by decide +kernel
theorem dX3_firstFree_9 : decode cX3_firstFree 9 = .ok (.if_icmp .ge 84, 3) := by decide +kernel
theorem dX3_firstFree_12 : decode cX3_firstFree 12 = .ok (.aload_n 1, 1) := by decide +kernel
theorem dX3_firstFree_13 : decode cX3_firstFree 13 = .ok (.getfield 107, 3) := by decide +kernel
theorem dX3_firstFree_16 : decode cX3_firstFree 16 = .ok (.iload 5, 2) := by decide +kernel
theorem dX3_firstFree_18 : decode cX3_firstFree 18 = .ok (.aaload, 1) := by decide +kernel
theorem dX3_firstFree_19 : decode cX3_firstFree 19 = .ok (.astore 6, 2) := by decide +kernel
theorem dX3_firstFree_21 : decode cX3_firstFree 21 = .ok (.iconst 0, 1) := by decide +kernel
theorem dX3_firstFree_22 : decode cX3_firstFree 22 = .ok (.istore 7, 2) := by decide +kernel
theorem dX3_firstFree_24 : decode cX3_firstFree 24 = .ok (.iload 7, 2) := by decide +kernel
theorem dX3_firstFree_26 : decode cX3_firstFree 26 = .ok (.aload 6, 2) := by decide +kernel
theorem dX3_firstFree_28 : decode cX3_firstFree 28 = .ok (.getfield 111, 3) := by decide +kernel
theorem dX3_firstFree_31 : decode cX3_firstFree 31 = .ok (.if_icmp .ge 56, 3) := by decide +kernel
theorem dX3_firstFree_34 : decode cX3_firstFree 34 = .ok (.iload_n 2, 1) := by decide +kernel
theorem dX3_firstFree_35 : decode cX3_firstFree 35 = .ok (.iload 5, 2) := by decide +kernel
theorem dX3_firstFree_37 : decode cX3_firstFree 37 = .ok (.ishr, 1) := by decide +kernel
theorem dX3_firstFree_38 : decode cX3_firstFree 38 = .ok (.iconst 1, 1) := by decide +kernel
theorem dX3_firstFree_39 : decode cX3_firstFree 39 = .ok (.iand, 1) := by decide +kernel
theorem dX3_firstFree_40 : decode cX3_firstFree 40 = .ok (.iconst 1, 1) := by decide +kernel
theorem dX3_firstFree_41 : decode cX3_firstFree 41 = .ok (.if_icmp .ne 40, 3) := by decide +kernel
theorem dX3_firstFree_44 : decode cX3_firstFree 44 = .ok (.aload 6, 2) := by decide +kernel
theorem dX3_firstFree_46 : decode cX3_firstFree 46 = .ok (.getfield 141, 3) := by decide +kernel
theorem dX3_firstFree_49 : decode cX3_firstFree 49 = .ok (.iload_n 3, 1) := by decide +kernel
theorem dX3_firstFree_50 : decode cX3_firstFree 50 = .ok (.if_icmp .ne 31, 3) := by decide +kernel
theorem dX3_firstFree_53 : decode cX3_firstFree 53 = .ok (.aload_n 0, 1) := by decide +kernel
theorem dX3_firstFree_54 : decode cX3_firstFree 54 = .ok (.getfield 9, 3) := by decide +kernel
theorem dX3_firstFree_57 : decode cX3_firstFree 57 = .ok (.iload 5, 2) := by decide +kernel
theorem dX3_firstFree_59 : decode cX3_firstFree 59 = .ok (.bipush 10, 2) := by decide +kernel
theorem dX3_firstFree_61 : decode cX3_firstFree 61 = .ok (.imul, 1) := by decide +kernel
theorem dX3_firstFree_62 : decode cX3_firstFree 62 = .ok (.iload 7, 2) := by decide +kernel
theorem dX3_firstFree_64 : decode cX3_firstFree 64 = .ok (.iadd, 1) := by decide +kernel
theorem dX3_firstFree_65 : decode cX3_firstFree 65 = .ok (.iaload, 1) := by decide +kernel
theorem dX3_firstFree_66 : decode cX3_firstFree 66 = .ok (.iload 4, 2) := by decide +kernel
theorem dX3_firstFree_68 : decode cX3_firstFree 68 = .ok (.iand, 1) := by decide +kernel
theorem dX3_firstFree_69 : decode cX3_firstFree 69 = .ok (.ifCond .ne 12, 3) := by decide +kernel
theorem dX3_firstFree_72 : decode cX3_firstFree 72 = .ok (.iload 5, 2) := by decide +kernel
theorem dX3_firstFree_74 : decode cX3_firstFree 74 = .ok (.bipush 10, 2) := by decide +kernel
theorem dX3_firstFree_76 : decode cX3_firstFree 76 = .ok (.imul, 1) := by decide +kernel
theorem dX3_firstFree_77 : decode cX3_firstFree 77 = .ok (.iload 7, 2) := by decide +kernel
theorem dX3_firstFree_79 : decode cX3_firstFree 79 = .ok (.iadd, 1) := by decide +kernel
theorem dX3_firstFree_80 : decode cX3_firstFree 80 = .ok (.ireturn, 1) := by decide +kernel
theorem dX3_firstFree_81 : decode cX3_firstFree 81 = .ok (.iinc 7 1, 3) := by decide +kernel
theorem dX3_firstFree_84 : decode cX3_firstFree 84 = .ok (.goto (-60), 3) := by decide +kernel
theorem dX3_firstFree_87 : decode cX3_firstFree 87 = .ok (.iinc 5 1, 3) := by decide +kernel
theorem dX3_firstFree_90 : decode cX3_firstFree 90 = .ok (.goto (-87), 3) := by decide +kernel
theorem dX3_firstFree_93 : decode cX3_firstFree 93 = .ok (.iconst (-1), 1) := by decide +kernel
theorem dX3_firstFree_94 : decode cX3_firstFree 94 = .ok (.ireturn, 1) := by decide +kernel
theorem dX4_init_0 : decode cX4_init 0 = .ok (.aload_n 0, 1) := by decide +kernel
theorem dX4_init_1 : decode cX4_init 1 = .ok (.invokespecial 3, 3) := by decide +kernel
theorem dX4_init_4 : decode cX4_init 4 = .ok (.return_, 1) := by decide +kernel
theorem dX4_takesAll_0 : decode cX4_takesAll 0 = .ok (.aload_n 0, 1) := by decide +kernel
theorem dX4_takesAll_1 : decode cX4_takesAll 1 = .ok (.getfield 15, 3) := by decide +kernel
theorem dX4_takesAll_4 : decode cX4_takesAll 4 = .ok (.ifCond .eq 33, 3) := by decide +kernel
theorem dX4_takesAll_7 : decode cX4_takesAll 7 = .ok (.aload_n 0, 1) := by decide +kernel
theorem dX4_takesAll_8 : decode cX4_takesAll 8 = .ok (.getfield 15, 3) := by decide +kernel
theorem dX4_takesAll_11 : decode cX4_takesAll 11 = .ok (.iconst 1, 1) := by decide +kernel
theorem dX4_takesAll_12 : decode cX4_takesAll 12 = .ok (.if_icmp .ne 10, 3) := by decide +kernel
theorem dX4_takesAll_15 : decode cX4_takesAll 15 = .ok (.aload_n 1, 1) := by decide +kernel
theorem dX4_takesAll_16 : decode cX4_takesAll 16 = .ok (.getfield 28, 3) := by decide +kernel
theorem dX4_takesAll_19 : decode cX4_takesAll 19 = .ok (.ifCond .eq 18, 3) := by decide +kernel
theorem dX4_takesAll_22 : decode cX4_takesAll 22 = .ok (.aload_n 0, 1) := by decide +kernel
theorem dX4_takesAll_23 : decode cX4_takesAll 23 = .ok (.getfield 15, 3) := by decide +kernel
theorem dX4_takesAll_26 : decode cX4_takesAll 26 = .ok (.iconst 2, 1) := by decide +kernel
theorem dX4_takesAll_27 : decode cX4_takesAll 27 = .ok (.if_icmp .ne 14, 3) := by decide +kernel
theorem dX4_takesAll_30 : decode cX4_takesAll 30 = .ok (.aload_n 1, 1) := by decide +kernel
theorem dX4_takesAll_31 : decode cX4_takesAll 31 = .ok (.getfield 33, 3) := by decide +kernel
theorem dX4_takesAll_34 : decode cX4_takesAll 34 = .ok (.ifCond .ne 7, 3) := by decide +kernel
theorem dX4_takesAll_37 : decode cX4_takesAll 37 = .ok (.iconst 1, 1) := by decide +kernel
theorem dX4_takesAll_38 : decode cX4_takesAll 38 = .ok (.goto 4, 3) := by decide +kernel
theorem dX4_takesAll_41 : decode cX4_takesAll 41 = .ok (.iconst 0, 1) := by decide +kernel
theorem dX4_takesAll_42 : decode cX4_takesAll 42 = .ok (.ireturn, 1) := by decide +kernel
theorem dX5_init_0 : decode cX5_init 0 = .ok (.aload_n 0, 1) := by decide +kernel
theorem dX5_init_1 : decode cX5_init 1 = .ok (.invokespecial 3, 3) := by decide +kernel
theorem dX5_init_4 : decode cX5_init 4 = .ok (.aload_n 0, 1) := by decide +kernel
theorem dX5_init_5 : decode cX5_init 5 = .ok (.new 9, 3) := by decide +kernel
theorem dX5_init_8 : decode cX5_init 8 = .ok (.dup, 1) := by decide +kernel
theorem dX5_init_9 : decode cX5_init 9 = .ok (.invokespecial 11, 3) := by decide +kernel
theorem dX5_init_12 : decode cX5_init 12 = .ok (.putfield 12, 3) := by decide +kernel
theorem dX5_init_15 : decode cX5_init 15 = .ok (.aload_n 0, 1) := by decide +kernel
theorem dX5_init_16 : decode cX5_init 16 = .ok (.iconst (-1), 1) := by decide +kernel
theorem dX5_init_17 : decode cX5_init 17 = .ok (.putfield 16, 3) := by decide +kernel
theorem dX5_init_20 : decode cX5_init 20 = .ok (.aload_n 0, 1) := by decide +kernel
theorem dX5_init_21 : decode cX5_init 21 = .ok (.new 20, 3) := by decide +kernel
theorem dX5_init_24 : decode cX5_init 24 = .ok (.dup, 1) := by decide +kernel
theorem dX5_init_25 : decode cX5_init 25 = .ok (.invokespecial 22, 3) := by decide +kernel
theorem dX5_init_28 : decode cX5_init 28 = .ok (.putfield 23, 3) := by decide +kernel
theorem dX5_init_31 : decode cX5_init 31 = .ok (.aload_n 0, 1) := by decide +kernel
theorem dX5_init_32 : decode cX5_init 32 = .ok (.new 20, 3) := by decide +kernel
theorem dX5_init_35 : decode cX5_init 35 = .ok (.dup, 1) := by decide +kernel
theorem dX5_init_36 : decode cX5_init 36 = .ok (.invokespecial 22, 3) := by decide +kernel
theorem dX5_init_39 : decode cX5_init 39 = .ok (.putfield 27, 3) := by decide +kernel
theorem dX5_init_42 : decode cX5_init 42 = .ok (.aload_n 0, 1) := by decide +kernel
theorem dX5_init_43 : decode cX5_init 43 = .ok (.new 30, 3) := by decide +kernel
theorem dX5_init_46 : decode cX5_init 46 = .ok (.dup, 1) := by decide +kernel
theorem dX5_init_47 : decode cX5_init 47 = .ok (.invokespecial 32, 3) := by decide +kernel
theorem dX5_init_50 : decode cX5_init 50 = .ok (.putfield 33, 3) := by decide +kernel
theorem dX5_init_53 : decode cX5_init 53 = .ok (.aload_n 0, 1) := by decide +kernel
theorem dX5_init_54 : decode cX5_init 54 = .ok (.new 30, 3) := by decide +kernel
theorem dX5_init_57 : decode cX5_init 57 = .ok (.dup, 1) := by decide +kernel
theorem dX5_init_58 : decode cX5_init 58 = .ok (.invokespecial 32, 3) := by decide +kernel
theorem dX5_init_61 : decode cX5_init 61 = .ok (.putfield 37, 3) := by decide +kernel
theorem dX5_init_64 : decode cX5_init 64 = .ok (.aload_n 0, 1) := by decide +kernel
theorem dX5_init_65 : decode cX5_init 65 = .ok (.bipush 10, 2) := by decide +kernel
theorem dX5_init_67 : decode cX5_init 67 = .ok (.anewarray 20, 3) := by decide +kernel
theorem dX5_init_70 : decode cX5_init 70 = .ok (.putfield 40, 3) := by decide +kernel
theorem dX5_init_73 : decode cX5_init 73 = .ok (.aload_n 0, 1) := by decide +kernel
theorem dX5_init_74 : decode cX5_init 74 = .ok (.sipush 193, 3) := by decide +kernel
theorem dX5_init_77 : decode cX5_init 77 = .ok (.newarray .double, 2) := by decide +kernel
theorem dX5_init_79 : decode cX5_init 79 = .ok (.putfield 44, 3) := by decide +kernel
theorem dX5_init_82 : decode cX5_init 82 = .ok (.aload_n 0, 1) := by decide +kernel
theorem dX5_init_83 : decode cX5_init 83 = .ok (.sipush 160, 3) := by decide +kernel
theorem dX5_init_86 : decode cX5_init 86 = .ok (.newarray .char, 2) := by decide +kernel
theorem dX5_init_88 : decode cX5_init 88 = .ok (.putfield 48, 3) := by decide +kernel
theorem dX5_init_91 : decode cX5_init 91 = .ok (.iconst 0, 1) := by decide +kernel
theorem dX5_init_92 : decode cX5_init 92 = .ok (.istore_n 1, 1) := by decide +kernel
theorem dX5_init_93 : decode cX5_init 93 = .ok (.iload_n 1, 1) := by decide +kernel
theorem dX5_init_94 : decode cX5_init 94 = .ok (.aload_n 0, 1) := by decide +kernel
theorem dX5_init_95 : decode cX5_init 95 = .ok (.getfield 40, 3) := by decide +kernel
theorem dX5_init_98 : decode cX5_init 98 = .ok (.arraylength, 1) := by decide +kernel
theorem dX5_init_99 : decode cX5_init 99 = .ok (.if_icmp .ge 22, 3) := by decide +kernel
theorem dX5_init_102 : decode cX5_init 102 = .ok (.aload_n 0, 1) := by decide +kernel
theorem dX5_init_103 : decode cX5_init 103 = .ok (.getfield 40, 3) := by decide +kernel
theorem dX5_init_106 : decode cX5_init 106 = .ok (.iload_n 1, 1) := by decide +kernel
theorem dX5_init_107 : decode cX5_init 107 = .ok (.new 20, 3) := by decide +kernel
theorem dX5_init_110 : decode cX5_init 110 = .ok (.dup, 1) := by decide +kernel
theorem dX5_init_111 : decode cX5_init 111 = .ok (.invokespecial 22, 3) := by decide +kernel
theorem dX5_init_114 : decode cX5_init 114 = .ok (.aastore, 1) := by decide +kernel
theorem dX5_init_115 : decode cX5_init 115 = .ok (.iinc 1 1, 3) := by decide +kernel
theorem dX5_init_118 : decode cX5_init 118 = .ok (.goto (-25), 3) := by decide +kernel
theorem dX5_init_121 : decode cX5_init 121 = .ok (.return_, 1) := by decide +kernel
theorem dX5_append_0 : decode cX5_append 0 = .ok (.aload_n 0, 1) := by decide +kernel
theorem dX5_append_1 : decode cX5_append 1 = .ok (.getfield 12, 3) := by decide +kernel
theorem dX5_append_4 : decode cX5_append 4 = .ok (.getfield 52, 3) := by decide +kernel
theorem dX5_append_7 : decode cX5_append 7 = .ok (.bipush 20, 2) := by decide +kernel
theorem dX5_append_9 : decode cX5_append 9 = .ok (.iadd, 1) := by decide +kernel
theorem dX5_append_10 : decode cX5_append 10 = .ok (.sipush 700, 3) := by decide +kernel
theorem dX5_append_13 : decode cX5_append 13 = .ok (.if_icmp .le 13, 3) := by decide +kernel
theorem dX5_append_16 : decode cX5_append 16 = .ok (.new 55, 3) := by decide +kernel
theorem dX5_append_19 : decode cX5_append 19 = .ok (.dup, 1) := by decide +kernel
theorem dX5_append_20 : decode cX5_append 20 = .ok (.ldc 57, 2) := by decide +kernel
theorem dX5_append_22 : decode cX5_append 22 = .ok (.invokespecial 59, 3) := by decide +kernel
theorem dX5_append_25 : decode cX5_append 25 = .ok (.athrow, 1) := by decide +kernel
theorem dX5_append_26 : decode cX5_append 26 = .ok (.aload_n 0, 1) := by decide +kernel
theorem dX5_append_27 : decode cX5_append 27 = .ok (.getfield 12, 3) := by decide +kernel
theorem dX5_append_30 : decode cX5_append 30 = .ok (.iload_n 1, 1) := by decide +kernel
theorem dX5_append_31 : decode cX5_append 31 = .ok (.invokevirtual 62, 3) := by decide +kernel
theorem dX5_append_34 : decode cX5_append 34 = .ok (.aload_n 0, 1) := by decide +kernel
theorem dX5_append_35 : decode cX5_append 35 = .ok (.getfield 12, 3) := by decide +kernel
theorem dX5_append_38 : decode cX5_append 38 = .ok (.iload_n 2, 1) := by decide +kernel
theorem dX5_append_39 : decode cX5_append 39 = .ok (.invokevirtual 62, 3) := by decide +kernel
theorem dX5_append_42 : decode cX5_append 42 = .ok (.aload_n 0, 1) := by decide +kernel
theorem dX5_append_43 : decode cX5_append 43 = .ok (.getfield 12, 3) := by decide +kernel
theorem dX5_append_46 : decode cX5_append 46 = .ok (.iload_n 3, 1) := by decide +kernel
theorem dX5_append_47 : decode cX5_append 47 = .ok (.invokevirtual 62, 3) := by decide +kernel
theorem dX5_append_50 : decode cX5_append 50 = .ok (.aload_n 0, 1) := by decide +kernel
theorem dX5_append_51 : decode cX5_append 51 = .ok (.getfield 12, 3) := by decide +kernel
theorem dX5_append_54 : decode cX5_append 54 = .ok (.iload 4, 2) := by decide +kernel
theorem dX5_append_56 : decode cX5_append 56 = .ok (.invokevirtual 62, 3) := by decide +kernel
theorem dX5_append_59 : decode cX5_append 59 = .ok (.aload_n 0, 1) := by decide +kernel
theorem dX5_append_60 : decode cX5_append 60 = .ok (.getfield 12, 3) := by decide +kernel
theorem dX5_append_63 : decode cX5_append 63 = .ok (.iload 5, 2) := by decide +kernel
theorem dX5_append_65 : decode cX5_append 65 = .ok (.invokevirtual 62, 3) := by decide +kernel
theorem dX5_append_68 : decode cX5_append 68 = .ok (.aload_n 0, 1) := by decide +kernel
theorem dX5_append_69 : decode cX5_append 69 = .ok (.getfield 12, 3) := by decide +kernel
theorem dX5_append_72 : decode cX5_append 72 = .ok (.getfield 52, 3) := by decide +kernel
theorem dX5_append_75 : decode cX5_append 75 = .ok (.ireturn, 1) := by decide +kernel
theorem dX5_truncate_0 : decode cX5_truncate 0 = .ok (.iload_n 1, 1) := by decide +kernel
theorem dX5_truncate_1 : decode cX5_truncate 1 = .ok (.ifCond .lt 14, 3) := by decide +kernel
theorem dX5_truncate_4 : decode cX5_truncate 4 = .ok (.iload_n 1, 1) := by decide +kernel
theorem dX5_truncate_5 : decode cX5_truncate 5 = .ok (.aload_n 0, 1) := by decide +kernel
theorem dX5_truncate_6 : decode cX5_truncate 6 = .ok (.getfield 12, 3) := by decide +kernel
theorem dX5_truncate_9 : decode cX5_truncate 9 = .ok (.getfield 52, 3) := by decide +kernel
theorem dX5_truncate_12 : decode cX5_truncate 12 = .ok (.if_icmp .le 13, 3) := by decide +kernel
theorem dX5_truncate_15 : decode cX5_truncate 15 = .ok (.new 66, 3) := by decide +kernel
theorem dX5_truncate_18 : decode cX5_truncate 18 = .ok (.dup, 1) := by decide +kernel
theorem dX5_truncate_19 : decode cX5_truncate 19 = .ok (.ldc 68, 2) := by decide +kernel
theorem dX5_truncate_21 : decode cX5_truncate 21 = .ok (.invokespecial 70, 3) := by decide +kernel
theorem dX5_truncate_24 : decode cX5_truncate 24 = .ok (.athrow, 1) := by decide +kernel
theorem dX5_truncate_25 : decode cX5_truncate 25 = .ok (.aload_n 0, 1) := by decide +kernel
theorem dX5_truncate_26 : decode cX5_truncate 26 = .ok (.getfield 12, 3) := by decide +kernel
theorem dX5_truncate_29 : decode cX5_truncate 29 = .ok (.iload_n 1, 1) := by decide +kernel
theorem dX5_truncate_30 : decode cX5_truncate 30 = .ok (.putfield 52, 3) := by decide +kernel
theorem dX5_truncate_33 : decode cX5_truncate 33 = .ok (.return_, 1) := by decide +kernel
theorem dX5_load_0 : decode cX5_load 0 = .ok (.aload_n 0, 1) := by decide +kernel
theorem dX5_load_1 : decode cX5_load 1 = .ok (.aload_n 0, 1) := by decide +kernel
theorem dX5_load_2 : decode cX5_load 2 = .ok (.getfield 12, 3) := by decide +kernel
theorem dX5_load_5 : decode cX5_load 5 = .ok (.aload_n 0, 1) := by decide +kernel
theorem dX5_load_6 : decode cX5_load 6 = .ok (.getfield 27, 3) := by decide +kernel
theorem dX5_load_9 : decode cX5_load 9 = .ok (.invokevirtual 71, 3) := by decide +kernel
theorem dX5_load_12 : decode cX5_load 12 = .ok (.putfield 16, 3) := by decide +kernel
theorem dX5_load_15 : decode cX5_load 15 = .ok (.aload_n 0, 1) := by decide +kernel
theorem dX5_load_16 : decode cX5_load 16 = .ok (.getfield 12, 3) := by decide +kernel
theorem dX5_load_19 : decode cX5_load 19 = .ok (.iconst 0, 1) := by decide +kernel
theorem dX5_load_20 : decode cX5_load 20 = .ok (.putfield 52, 3) := by decide +kernel
theorem dX5_load_23 : decode cX5_load 23 = .ok (.aload_n 0, 1) := by decide +kernel
theorem dX5_load_24 : decode cX5_load 24 = .ok (.getfield 16, 3) := by decide +kernel
theorem dX5_load_27 : decode cX5_load 27 = .ok (.iconst (-1), 1) := by decide +kernel
theorem dX5_load_28 : decode cX5_load 28 = .ok (.if_icmp .eq 13, 3) := by decide +kernel
theorem dX5_load_31 : decode cX5_load 31 = .ok (.new 66, 3) := by decide +kernel
theorem dX5_load_34 : decode cX5_load 34 = .ok (.dup, 1) := by decide +kernel
theorem dX5_load_35 : decode cX5_load 35 = .ok (.ldc 75, 2) := by decide +kernel
theorem dX5_load_37 : decode cX5_load 37 = .ok (.invokespecial 70, 3) := by decide +kernel
theorem dX5_load_40 : decode cX5_load 40 = .ok (.athrow, 1) := by decide +kernel
theorem dX5_load_41 : decode cX5_load 41 = .ok (.aload_n 0, 1) := by decide +kernel
theorem dX5_load_42 : decode cX5_load 42 = .ok (.getfield 27, 3) := by decide +kernel
theorem dX5_load_45 : decode cX5_load 45 = .ok (.astore_n 1, 1) := by decide +kernel
theorem dX5_load_46 : decode cX5_load 46 = .ok (.aload_n 0, 1) := by decide +kernel
theorem dX5_load_47 : decode cX5_load 47 = .ok (.aload_n 0, 1) := by decide +kernel
theorem dX5_load_48 : decode cX5_load 48 = .ok (.getfield 23, 3) := by decide +kernel
theorem dX5_load_51 : decode cX5_load 51 = .ok (.putfield 27, 3) := by decide +kernel
theorem dX5_load_54 : decode cX5_load 54 = .ok (.aload_n 0, 1) := by decide +kernel
theorem dX5_load_55 : decode cX5_load 55 = .ok (.aload_n 1, 1) := by decide +kernel
theorem dX5_load_56 : decode cX5_load 56 = .ok (.putfield 23, 3) := by decide +kernel
theorem dX5_load_59 : decode cX5_load 59 = .ok (.aload_n 0, 1) := by decide +kernel
theorem dX5_load_60 : decode cX5_load 60 = .ok (.iconst 0, 1) := by decide +kernel
theorem dX5_load_61 : decode cX5_load 61 = .ok (.putfield 77, 3) := by decide +kernel
theorem dX5_load_64 : decode cX5_load 64 = .ok (.aload_n 0, 1) := by decide +kernel
theorem dX5_load_65 : decode cX5_load 65 = .ok (.getfield 33, 3) := by decide +kernel
theorem dX5_load_68 : decode cX5_load 68 = .ok (.aload_n 0, 1) := by decide +kernel
theorem dX5_load_69 : decode cX5_load 69 = .ok (.getfield 23, 3) := by decide +kernel
theorem dX5_load_72 : decode cX5_load 72 = .ok (.invokevirtual 80, 3) := by decide +kernel
theorem dX5_load_75 : decode cX5_load 75 = .ok (.aload_n 0, 1) := by decide +kernel
theorem dX5_load_76 : decode cX5_load 76 = .ok (.getfield 23, 3) := by decide +kernel
theorem dX5_load_79 : decode cX5_load 79 = .ok (.getfield 84, 3) := by decide +kernel
theorem dX5_load_82 : decode cX5_load 82 = .ok (.ireturn, 1) := by decide +kernel
theorem dX5_count_0 : decode cX5_count 0 = .ok (.iload_n 1, 1) := by decide +kernel
theorem dX5_count_1 : decode cX5_count 1 = .ok (.tableswitch 90 0 5 #[39, 47, 55, 63, 72, 81], 39) := by decide +kernel
theorem dX5_count_40 : decode cX5_count 40 = .ok (.aload_n 0, 1) := by decide +kernel
theorem dX5_count_41 : decode cX5_count 41 = .ok (.getfield 23, 3) := by decide +kernel
theorem dX5_count_44 : decode cX5_count 44 = .ok (.getfield 87, 3) := by decide +kernel
theorem dX5_count_47 : decode cX5_count 47 = .ok (.ireturn, 1) := by decide +kernel
theorem dX5_count_48 : decode cX5_count 48 = .ok (.aload_n 0, 1) := by decide +kernel
theorem dX5_count_49 : decode cX5_count 49 = .ok (.getfield 23, 3) := by decide +kernel
theorem dX5_count_52 : decode cX5_count 52 = .ok (.getfield 90, 3) := by decide +kernel
theorem dX5_count_55 : decode cX5_count 55 = .ok (.ireturn, 1) := by decide +kernel
theorem dX5_count_56 : decode cX5_count 56 = .ok (.aload_n 0, 1) := by decide +kernel
theorem dX5_count_57 : decode cX5_count 57 = .ok (.getfield 23, 3) := by decide +kernel
theorem dX5_count_60 : decode cX5_count 60 = .ok (.getfield 84, 3) := by decide +kernel
theorem dX5_count_63 : decode cX5_count 63 = .ok (.ireturn, 1) := by decide +kernel
theorem dX5_count_64 : decode cX5_count 64 = .ok (.aload_n 0, 1) := by decide +kernel
theorem dX5_count_65 : decode cX5_count 65 = .ok (.getfield 23, 3) := by decide +kernel
theorem dX5_count_68 : decode cX5_count 68 = .ok (.iconst 0, 1) := by decide +kernel
theorem dX5_count_69 : decode cX5_count 69 = .ok (.invokevirtual 93, 3) := by decide +kernel
theorem dX5_count_72 : decode cX5_count 72 = .ok (.ireturn, 1) := by decide +kernel
theorem dX5_count_73 : decode cX5_count 73 = .ok (.aload_n 0, 1) := by decide +kernel
theorem dX5_count_74 : decode cX5_count 74 = .ok (.getfield 23, 3) := by decide +kernel
theorem dX5_count_77 : decode cX5_count 77 = .ok (.iconst 1, 1) := by decide +kernel
theorem dX5_count_78 : decode cX5_count 78 = .ok (.invokevirtual 93, 3) := by decide +kernel
theorem dX5_count_81 : decode cX5_count 81 = .ok (.ireturn, 1) := by decide +kernel
theorem dX5_count_82 : decode cX5_count 82 = .ok (.aload_n 0, 1) := by decide +kernel
theorem dX5_count_83 : decode cX5_count 83 = .ok (.getfield 23, 3) := by decide +kernel
theorem dX5_count_86 : decode cX5_count 86 = .ok (.iconst 2, 1) := by decide +kernel
theorem dX5_count_87 : decode cX5_count 87 = .ok (.invokevirtual 93, 3) := by decide +kernel
theorem dX5_count_90 : decode cX5_count 90 = .ok (.ireturn, 1) := by decide +kernel
theorem dX5_count_91 : decode cX5_count 91 = .ok (.new 66, 3) := by decide +kernel
theorem dX5_count_94 : decode cX5_count 94 = .ok (.dup, 1) := by decide +kernel
theorem dX5_count_95 : decode cX5_count 95 = .ok (.ldc 97, 2) := by decide +kernel
theorem dX5_count_97 : decode cX5_count 97 = .ok (.invokespecial 70, 3) := by decide +kernel
theorem dX5_count_100 : decode cX5_count 100 = .ok (.athrow, 1) := by decide +kernel
theorem dX5_setting_0 : decode cX5_setting 0 = .ok (.iload_n 1, 1) := by decide +kernel
theorem dX5_setting_1 : decode cX5_setting 1 = .ok (.tableswitch 63 0 3 #[31, 39, 47, 55], 31) := by decide +kernel
theorem dX5_setting_32 : decode cX5_setting 32 = .ok (.aload_n 0, 1) := by decide +kernel
theorem dX5_setting_33 : decode cX5_setting 33 = .ok (.getfield 23, 3) := by decide +kernel
theorem dX5_setting_36 : decode cX5_setting 36 = .ok (.getfield 99, 3) := by decide +kernel
theorem dX5_setting_39 : decode cX5_setting 39 = .ok (.ireturn, 1) := by decide +kernel
theorem dX5_setting_40 : decode cX5_setting 40 = .ok (.aload_n 0, 1) := by decide +kernel
theorem dX5_setting_41 : decode cX5_setting 41 = .ok (.getfield 23, 3) := by decide +kernel
theorem dX5_setting_44 : decode cX5_setting 44 = .ok (.getfield 102, 3) := by decide +kernel
theorem dX5_setting_47 : decode cX5_setting 47 = .ok (.ireturn, 1) := by decide +kernel
theorem dX5_setting_48 : decode cX5_setting 48 = .ok (.aload_n 0, 1) := by decide +kernel
theorem dX5_setting_49 : decode cX5_setting 49 = .ok (.getfield 23, 3) := by decide +kernel
theorem dX5_setting_52 : decode cX5_setting 52 = .ok (.getfield 105, 3) := by decide +kernel
theorem dX5_setting_55 : decode cX5_setting 55 = .ok (.ireturn, 1) := by decide +kernel
theorem dX5_setting_56 : decode cX5_setting 56 = .ok (.aload_n 0, 1) := by decide +kernel
theorem dX5_setting_57 : decode cX5_setting 57 = .ok (.getfield 23, 3) := by decide +kernel
theorem dX5_setting_60 : decode cX5_setting 60 = .ok (.getfield 108, 3) := by decide +kernel
theorem dX5_setting_63 : decode cX5_setting 63 = .ok (.ireturn, 1) := by decide +kernel
theorem dX5_setting_64 : decode cX5_setting 64 = .ok (.new 66, 3) := by decide +kernel
theorem dX5_setting_67 : decode cX5_setting 67 = .ok (.dup, 1) := by decide +kernel
theorem dX5_setting_68 : decode cX5_setting 68 = .ok (.ldc 111, 2) := by decide +kernel
theorem dX5_setting_70 : decode cX5_setting 70 = .ok (.invokespecial 70, 3) := by decide +kernel
theorem dX5_setting_73 : decode cX5_setting 73 = .ok (.athrow, 1) := by decide +kernel
theorem dX5_room_0 : decode cX5_room 0 = .ok (.aload_n 0, 1) := by decide +kernel
theorem dX5_room_1 : decode cX5_room 1 = .ok (.iload_n 1, 1) := by decide +kernel
theorem dX5_room_2 : decode cX5_room 2 = .ok (.invokevirtual 113, 3) := by decide +kernel
theorem dX5_room_5 : decode cX5_room 5 = .ok (.aload_n 0, 1) := by decide +kernel
theorem dX5_room_6 : decode cX5_room 6 = .ok (.getfield 23, 3) := by decide +kernel
theorem dX5_room_9 : decode cX5_room 9 = .ok (.getfield 116, 3) := by decide +kernel
theorem dX5_room_12 : decode cX5_room 12 = .ok (.iload_n 1, 1) := by decide +kernel
theorem dX5_room_13 : decode cX5_room 13 = .ok (.aaload, 1) := by decide +kernel
theorem dX5_room_14 : decode cX5_room 14 = .ok (.astore_n 3, 1) := by decide +kernel
theorem dX5_room_15 : decode cX5_room 15 = .ok (.iload_n 2, 1) := by decide +kernel
theorem dX5_room_16 : decode cX5_room 16 = .ok (.tableswitch 52 0 3 #[32, 37, 42, 47], 32) := by decide +kernel
theorem dX5_room_48 : decode cX5_room 48 = .ok (.aload_n 3, 1) := by decide +kernel
theorem dX5_room_49 : decode cX5_room 49 = .ok (.getfield 120, 3) := by decide +kernel
theorem dX5_room_52 : decode cX5_room 52 = .ok (.ireturn, 1) := by decide +kernel
theorem dX5_room_53 : decode cX5_room 53 = .ok (.aload_n 3, 1) := by decide +kernel
theorem dX5_room_54 : decode cX5_room 54 = .ok (.getfield 125, 3) := by decide +kernel
theorem dX5_room_57 : decode cX5_room 57 = .ok (.ireturn, 1) := by decide +kernel
theorem dX5_room_58 : decode cX5_room 58 = .ok (.aload_n 3, 1) := by decide +kernel
theorem dX5_room_59 : decode cX5_room 59 = .ok (.getfield 128, 3) := by decide +kernel
theorem dX5_room_62 : decode cX5_room 62 = .ok (.ireturn, 1) := by decide +kernel
theorem dX5_room_63 : decode cX5_room 63 = .ok (.aload_n 3, 1) := by decide +kernel
theorem dX5_room_64 : decode cX5_room 64 = .ok (.getfield 131, 3) := by decide +kernel
theorem dX5_room_67 : decode cX5_room 67 = .ok (.ireturn, 1) := by decide +kernel
theorem dX5_room_68 : decode cX5_room 68 = .ok (.new 66, 3) := by decide +kernel
theorem dX5_room_71 : decode cX5_room 71 = .ok (.dup, 1) := by decide +kernel
theorem dX5_room_72 : decode cX5_room 72 = .ok (.ldc 134, 2) := by decide +kernel
theorem dX5_room_74 : decode cX5_room 74 = .ok (.invokespecial 70, 3) := by decide +kernel
theorem dX5_room_77 : decode cX5_room 77 = .ok (.athrow, 1) := by decide +kernel
theorem dX5_booking_0 : decode cX5_booking 0 = .ok (.aload_n 0, 1) := by decide +kernel
theorem dX5_booking_1 : decode cX5_booking 1 = .ok (.iload_n 1, 1) := by decide +kernel
theorem dX5_booking_2 : decode cX5_booking 2 = .ok (.invokevirtual 136, 3) := by decide +kernel
theorem dX5_booking_5 : decode cX5_booking 5 = .ok (.aload_n 0, 1) := by decide +kernel
theorem dX5_booking_6 : decode cX5_booking 6 = .ok (.getfield 23, 3) := by decide +kernel
theorem dX5_booking_9 : decode cX5_booking 9 = .ok (.getfield 139, 3) := by decide +kernel
theorem dX5_booking_12 : decode cX5_booking 12 = .ok (.iload_n 1, 1) := by decide +kernel
theorem dX5_booking_13 : decode cX5_booking 13 = .ok (.aaload, 1) := by decide +kernel
theorem dX5_booking_14 : decode cX5_booking 14 = .ok (.astore_n 3, 1) := by decide +kernel
theorem dX5_booking_15 : decode cX5_booking 15 = .ok (.iload_n 2, 1) := by decide +kernel
theorem dX5_booking_16 : decode cX5_booking 16 = .ok (.tableswitch 104 0 7 #[48, 53, 58, 63, 68, 73, 78, 91], 48) := by decide +kernel
theorem dX5_booking_64 : decode cX5_booking 64 = .ok (.aload_n 3, 1) := by decide +kernel
theorem dX5_booking_65 : decode cX5_booking 65 = .ok (.getfield 143, 3) := by decide +kernel
theorem dX5_booking_68 : decode cX5_booking 68 = .ok (.ireturn, 1) := by decide +kernel
theorem dX5_booking_69 : decode cX5_booking 69 = .ok (.aload_n 3, 1) := by decide +kernel
theorem dX5_booking_70 : decode cX5_booking 70 = .ok (.getfield 148, 3) := by decide +kernel
theorem dX5_booking_73 : decode cX5_booking 73 = .ok (.ireturn, 1) := by decide +kernel
theorem dX5_booking_74 : decode cX5_booking 74 = .ok (.aload_n 3, 1) := by decide +kernel
theorem dX5_booking_75 : decode cX5_booking 75 = .ok (.getfield 151, 3) := by decide +kernel
theorem dX5_booking_78 : decode cX5_booking 78 = .ok (.ireturn, 1) := by decide +kernel
theorem dX5_booking_79 : decode cX5_booking 79 = .ok (.aload_n 3, 1) := by decide +kernel
theorem dX5_booking_80 : decode cX5_booking 80 = .ok (.getfield 154, 3) := by decide +kernel
theorem dX5_booking_83 : decode cX5_booking 83 = .ok (.ireturn, 1) := by decide +kernel
theorem dX5_booking_84 : decode cX5_booking 84 = .ok (.aload_n 3, 1) := by decide +kernel
theorem dX5_booking_85 : decode cX5_booking 85 = .ok (.getfield 157, 3) := by decide +kernel
theorem dX5_booking_88 : decode cX5_booking 88 = .ok (.ireturn, 1) := by decide +kernel
theorem dX5_booking_89 : decode cX5_booking 89 = .ok (.aload_n 3, 1) := by decide +kernel
theorem dX5_booking_90 : decode cX5_booking 90 = .ok (.getfield 158, 3) := by decide +kernel
theorem dX5_booking_93 : decode cX5_booking 93 = .ok (.ireturn, 1) := by decide +kernel
theorem dX5_booking_94 : decode cX5_booking 94 = .ok (.aload_n 3, 1) := by decide +kernel
theorem dX5_booking_95 : decode cX5_booking 95 = .ok (.getfield 161, 3) := by decide +kernel
theorem dX5_booking_98 : decode cX5_booking 98 = .ok (.ifCond .eq 7, 3) := by decide +kernel
theorem dX5_booking_101 : decode cX5_booking 101 = .ok (.iconst 1, 1) := by decide +kernel
theorem dX5_booking_102 : decode cX5_booking 102 = .ok (.goto 4, 3) := by decide +kernel
theorem dX5_booking_105 : decode cX5_booking 105 = .ok (.iconst 0, 1) := by decide +kernel
theorem dX5_booking_106 : decode cX5_booking 106 = .ok (.ireturn, 1) := by decide +kernel
theorem dX5_booking_107 : decode cX5_booking 107 = .ok (.aload_n 3, 1) := by decide +kernel
theorem dX5_booking_108 : decode cX5_booking 108 = .ok (.getfield 165, 3) := by decide +kernel
theorem dX5_booking_111 : decode cX5_booking 111 = .ok (.ifCond .eq 7, 3) := by decide +kernel
theorem dX5_booking_114 : decode cX5_booking 114 = .ok (.iconst 1, 1) := by decide +kernel
theorem dX5_booking_115 : decode cX5_booking 115 = .ok (.goto 4, 3) := by decide +kernel
theorem dX5_booking_118 : decode cX5_booking 118 = .ok (.iconst 0, 1) := by decide +kernel
theorem dX5_booking_119 : decode cX5_booking 119 = .ok (.ireturn, 1) := by decide +kernel
theorem dX5_booking_120 : decode cX5_booking 120 = .ok (.new 66, 3) := by decide +kernel
theorem dX5_booking_123 : decode cX5_booking 123 = .ok (.dup, 1) := by decide +kernel
theorem dX5_booking_124 : decode cX5_booking 124 = .ok (.ldc 168, 2) := by decide +kernel
theorem dX5_booking_126 : decode cX5_booking 126 = .ok (.invokespecial 70, 3) := by decide +kernel
theorem dX5_booking_129 : decode cX5_booking 129 = .ok (.athrow, 1) := by decide +kernel
theorem dX5_state_0 : decode cX5_state 0 = .ok (.aload_n 0, 1) := by decide +kernel
theorem dX5_state_1 : decode cX5_state 1 = .ok (.iload_n 1, 1) := by decide +kernel
theorem dX5_state_2 : decode cX5_state 2 = .ok (.invokevirtual 136, 3) := by decide +kernel
theorem dX5_state_5 : decode cX5_state 5 = .ok (.aload_n 0, 1) := by decide +kernel
theorem dX5_state_6 : decode cX5_state 6 = .ok (.getfield 23, 3) := by decide +kernel
theorem dX5_state_9 : decode cX5_state 9 = .ok (.getfield 139, 3) := by decide +kernel
theorem dX5_state_12 : decode cX5_state 12 = .ok (.iload_n 1, 1) := by decide +kernel
theorem dX5_state_13 : decode cX5_state 13 = .ok (.aaload, 1) := by decide +kernel
theorem dX5_state_14 : decode cX5_state 14 = .ok (.getfield 186, 3) := by decide +kernel
theorem dX5_state_17 : decode cX5_state 17 = .ok (.ireturn, 1) := by decide +kernel
theorem dX5_waiting_0 : decode cX5_waiting 0 = .ok (.iload_n 1, 1) := by decide +kernel
theorem dX5_waiting_1 : decode cX5_waiting 1 = .ok (.ifCond .lt 14, 3) := by decide +kernel
theorem dX5_waiting_4 : decode cX5_waiting 4 = .ok (.iload_n 1, 1) := by decide +kernel
theorem dX5_waiting_5 : decode cX5_waiting 5 = .ok (.aload_n 0, 1) := by decide +kernel
theorem dX5_waiting_6 : decode cX5_waiting 6 = .ok (.getfield 23, 3) := by decide +kernel
theorem dX5_waiting_9 : decode cX5_waiting 9 = .ok (.getfield 189, 3) := by decide +kernel
theorem dX5_waiting_12 : decode cX5_waiting 12 = .ok (.if_icmp .lt 13, 3) := by decide +kernel
theorem dX5_waiting_15 : decode cX5_waiting 15 = .ok (.new 192, 3) := by decide +kernel
theorem dX5_waiting_18 : decode cX5_waiting 18 = .ok (.dup, 1) := by decide +kernel
theorem dX5_waiting_19 : decode cX5_waiting 19 = .ok (.ldc 194, 2) := by decide +kernel
theorem dX5_waiting_21 : decode cX5_waiting 21 = .ok (.invokespecial 196, 3) := by decide +kernel
theorem dX5_waiting_24 : decode cX5_waiting 24 = .ok (.athrow, 1) := by decide +kernel
theorem dX5_waiting_25 : decode cX5_waiting 25 = .ok (.aload_n 0, 1) := by decide +kernel
theorem dX5_waiting_26 : decode cX5_waiting 26 = .ok (.getfield 23, 3) := by decide +kernel
theorem dX5_waiting_29 : decode cX5_waiting 29 = .ok (.getfield 197, 3) := by decide +kernel
theorem dX5_waiting_32 : decode cX5_waiting 32 = .ok (.iload_n 1, 1) := by decide +kernel
theorem dX5_waiting_33 : decode cX5_waiting 33 = .ok (.iaload, 1) := by decide +kernel
theorem dX5_waiting_34 : decode cX5_waiting 34 = .ok (.ireturn, 1) := by decide +kernel
theorem dX5_placed_0 : decode cX5_placed 0 = .ok (.aload_n 0, 1) := by decide +kernel
theorem dX5_placed_1 : decode cX5_placed 1 = .ok (.iload_n 1, 1) := by decide +kernel
theorem dX5_placed_2 : decode cX5_placed 2 = .ok (.invokevirtual 136, 3) := by decide +kernel
theorem dX5_placed_5 : decode cX5_placed 5 = .ok (.aload_n 0, 1) := by decide +kernel
theorem dX5_placed_6 : decode cX5_placed 6 = .ok (.getfield 33, 3) := by decide +kernel
theorem dX5_placed_9 : decode cX5_placed 9 = .ok (.getfield 201, 3) := by decide +kernel
theorem dX5_placed_12 : decode cX5_placed 12 = .ok (.iload_n 1, 1) := by decide +kernel
theorem dX5_placed_13 : decode cX5_placed 13 = .ok (.iaload, 1) := by decide +kernel
theorem dX5_placed_14 : decode cX5_placed 14 = .ok (.ireturn, 1) := by decide +kernel
theorem dX5_roomsOf_0 : decode cX5_roomsOf 0 = .ok (.aload_n 0, 1) := by decide +kernel
theorem dX5_roomsOf_1 : decode cX5_roomsOf 1 = .ok (.iload_n 1, 1) := by decide +kernel
theorem dX5_roomsOf_2 : decode cX5_roomsOf 2 = .ok (.invokevirtual 136, 3) := by decide +kernel
theorem dX5_roomsOf_5 : decode cX5_roomsOf 5 = .ok (.aload_n 0, 1) := by decide +kernel
theorem dX5_roomsOf_6 : decode cX5_roomsOf 6 = .ok (.getfield 33, 3) := by decide +kernel
theorem dX5_roomsOf_9 : decode cX5_roomsOf 9 = .ok (.getfield 204, 3) := by decide +kernel
theorem dX5_roomsOf_12 : decode cX5_roomsOf 12 = .ok (.iload_n 1, 1) := by decide +kernel
theorem dX5_roomsOf_13 : decode cX5_roomsOf 13 = .ok (.iaload, 1) := by decide +kernel
theorem dX5_roomsOf_14 : decode cX5_roomsOf 14 = .ok (.ireturn, 1) := by decide +kernel
theorem dX5_roomOf_0 : decode cX5_roomOf 0 = .ok (.aload_n 0, 1) := by decide +kernel
theorem dX5_roomOf_1 : decode cX5_roomOf 1 = .ok (.iload_n 1, 1) := by decide +kernel
theorem dX5_roomOf_2 : decode cX5_roomOf 2 = .ok (.iload_n 2, 1) := by decide +kernel
theorem dX5_roomOf_3 : decode cX5_roomOf 3 = .ok (.invokevirtual 207, 3) := by decide +kernel
theorem dX5_roomOf_6 : decode cX5_roomOf 6 = .ok (.bipush 10, 2) := by decide +kernel
theorem dX5_roomOf_8 : decode cX5_roomOf 8 = .ok (.idiv, 1) := by decide +kernel
theorem dX5_roomOf_9 : decode cX5_roomOf 9 = .ok (.ireturn, 1) := by decide +kernel
theorem dX5_bedOf_0 : decode cX5_bedOf 0 = .ok (.aload_n 0, 1) := by decide +kernel
theorem dX5_bedOf_1 : decode cX5_bedOf 1 = .ok (.iload_n 1, 1) := by decide +kernel
theorem dX5_bedOf_2 : decode cX5_bedOf 2 = .ok (.iload_n 2, 1) := by decide +kernel
theorem dX5_bedOf_3 : decode cX5_bedOf 3 = .ok (.invokevirtual 207, 3) := by decide +kernel
theorem dX5_bedOf_6 : decode cX5_bedOf 6 = .ok (.bipush 10, 2) := by decide +kernel
theorem dX5_bedOf_8 : decode cX5_bedOf 8 = .ok (.irem, 1) := by decide +kernel
theorem dX5_bedOf_9 : decode cX5_bedOf 9 = .ok (.ireturn, 1) := by decide +kernel
theorem dX5_bedOfPerson_0 : decode cX5_bedOfPerson 0 = .ok (.aload_n 0, 1) := by decide +kernel
theorem dX5_bedOfPerson_1 : decode cX5_bedOfPerson 1 = .ok (.iload_n 1, 1) := by decide +kernel
theorem dX5_bedOfPerson_2 : decode cX5_bedOfPerson 2 = .ok (.invokevirtual 136, 3) := by decide +kernel
theorem dX5_bedOfPerson_5 : decode cX5_bedOfPerson 5 = .ok (.iload_n 2, 1) := by decide +kernel
theorem dX5_bedOfPerson_6 : decode cX5_bedOfPerson 6 = .ok (.ifCond .lt 19, 3) := by decide +kernel
theorem dX5_bedOfPerson_9 : decode cX5_bedOfPerson 9 = .ok (.iload_n 2, 1) := by decide +kernel
theorem dX5_bedOfPerson_10 : decode cX5_bedOfPerson 10 = .ok (.aload_n 0, 1) := by decide +kernel
theorem dX5_bedOfPerson_11 : decode cX5_bedOfPerson 11 = .ok (.getfield 23, 3) := by decide +kernel
theorem dX5_bedOfPerson_14 : decode cX5_bedOfPerson 14 = .ok (.getfield 139, 3) := by decide +kernel
theorem dX5_bedOfPerson_17 : decode cX5_bedOfPerson 17 = .ok (.iload_n 1, 1) := by decide +kernel
theorem dX5_bedOfPerson_18 : decode cX5_bedOfPerson 18 = .ok (.aaload, 1) := by decide +kernel
theorem dX5_bedOfPerson_19 : decode cX5_bedOfPerson 19 = .ok (.getfield 211, 3) := by decide +kernel
theorem dX5_bedOfPerson_22 : decode cX5_bedOfPerson 22 = .ok (.if_icmp .lt 13, 3) := by decide +kernel
theorem dX5_bedOfPerson_25 : decode cX5_bedOfPerson 25 = .ok (.new 192, 3) := by decide +kernel
theorem dX5_bedOfPerson_28 : decode cX5_bedOfPerson 28 = .ok (.dup, 1) := by decide +kernel
theorem dX5_bedOfPerson_29 : decode cX5_bedOfPerson 29 = .ok (.ldc 214, 2) := by decide +kernel
theorem dX5_bedOfPerson_31 : decode cX5_bedOfPerson 31 = .ok (.invokespecial 196, 3) := by decide +kernel
theorem dX5_bedOfPerson_34 : decode cX5_bedOfPerson 34 = .ok (.athrow, 1) := by decide +kernel
theorem dX5_bedOfPerson_35 : decode cX5_bedOfPerson 35 = .ok (.aload_n 0, 1) := by decide +kernel
theorem dX5_bedOfPerson_36 : decode cX5_bedOfPerson 36 = .ok (.getfield 33, 3) := by decide +kernel
theorem dX5_bedOfPerson_39 : decode cX5_bedOfPerson 39 = .ok (.iload_n 1, 1) := by decide +kernel
theorem dX5_bedOfPerson_40 : decode cX5_bedOfPerson 40 = .ok (.invokevirtual 216, 3) := by decide +kernel
theorem dX5_bedOfPerson_43 : decode cX5_bedOfPerson 43 = .ok (.ifCond .ne 13, 3) := by decide +kernel
theorem dX5_bedOfPerson_46 : decode cX5_bedOfPerson 46 = .ok (.new 181, 3) := by decide +kernel
theorem dX5_bedOfPerson_49 : decode cX5_bedOfPerson 49 = .ok (.dup, 1) := by decide +kernel
theorem dX5_bedOfPerson_50 : decode cX5_bedOfPerson 50 = .ok (.ldc 220, 2) := by decide +kernel
theorem dX5_bedOfPerson_52 : decode cX5_bedOfPerson 52 = .ok (.invokespecial 185, 3) := by decide +kernel
theorem dX5_bedOfPerson_55 : decode cX5_bedOfPerson 55 = .ok (.athrow, 1) := by decide +kernel
theorem dX5_bedOfPerson_56 : decode cX5_bedOfPerson 56 = .ok (.aload_n 0, 1) := by decide +kernel
theorem dX5_bedOfPerson_57 : decode cX5_bedOfPerson 57 = .ok (.getfield 33, 3) := by decide +kernel
theorem dX5_bedOfPerson_60 : decode cX5_bedOfPerson 60 = .ok (.getfield 222, 3) := by decide +kernel
theorem dX5_bedOfPerson_63 : decode cX5_bedOfPerson 63 = .ok (.iload_n 1, 1) := by decide +kernel
theorem dX5_bedOfPerson_64 : decode cX5_bedOfPerson 64 = .ok (.bipush 12, 2) := by decide +kernel
theorem dX5_bedOfPerson_66 : decode cX5_bedOfPerson 66 = .ok (.imul, 1) := by decide +kernel
theorem dX5_bedOfPerson_67 : decode cX5_bedOfPerson 67 = .ok (.iload_n 2, 1) := by decide +kernel
theorem dX5_bedOfPerson_68 : decode cX5_bedOfPerson 68 = .ok (.iadd, 1) := by decide +kernel
theorem dX5_bedOfPerson_69 : decode cX5_bedOfPerson 69 = .ok (.iaload, 1) := by decide +kernel
theorem dX5_bedOfPerson_70 : decode cX5_bedOfPerson 70 = .ok (.ireturn, 1) := by decide +kernel
theorem dX5_occupant_0 : decode cX5_occupant 0 = .ok (.aload_n 0, 1) := by decide +kernel
theorem dX5_occupant_1 : decode cX5_occupant 1 = .ok (.iload_n 1, 1) := by decide +kernel
theorem dX5_occupant_2 : decode cX5_occupant 2 = .ok (.iload_n 2, 1) := by decide +kernel
theorem dX5_occupant_3 : decode cX5_occupant 3 = .ok (.invokevirtual 224, 3) := by decide +kernel
theorem dX5_occupant_6 : decode cX5_occupant 6 = .ok (.iload_n 3, 1) := by decide +kernel
theorem dX5_occupant_7 : decode cX5_occupant 7 = .ok (.invokestatic 228, 3) := by decide +kernel
theorem dX5_occupant_10 : decode cX5_occupant 10 = .ok (.iload_n 1, 1) := by decide +kernel
theorem dX5_occupant_11 : decode cX5_occupant 11 = .ok (.bipush 10, 2) := by decide +kernel
theorem dX5_occupant_13 : decode cX5_occupant 13 = .ok (.imul, 1) := by decide +kernel
theorem dX5_occupant_14 : decode cX5_occupant 14 = .ok (.iload_n 2, 1) := by decide +kernel
theorem dX5_occupant_15 : decode cX5_occupant 15 = .ok (.iadd, 1) := by decide +kernel
theorem dX5_occupant_16 : decode cX5_occupant 16 = .ok (.istore 4, 2) := by decide +kernel
theorem dX5_occupant_18 : decode cX5_occupant 18 = .ok (.iconst 0, 1) := by decide +kernel
theorem dX5_occupant_19 : decode cX5_occupant 19 = .ok (.istore 5, 2) := by decide +kernel
theorem dX5_occupant_21 : decode cX5_occupant 21 = .ok (.iload 5, 2) := by decide +kernel
theorem dX5_occupant_23 : decode cX5_occupant 23 = .ok (.aload_n 0, 1) := by decide +kernel
theorem dX5_occupant_24 : decode cX5_occupant 24 = .ok (.getfield 23, 3) := by decide +kernel
theorem dX5_occupant_27 : decode cX5_occupant 27 = .ok (.getfield 84, 3) := by decide +kernel
theorem dX5_occupant_30 : decode cX5_occupant 30 = .ok (.if_icmp .ge 56, 3) := by decide +kernel
theorem dX5_occupant_33 : decode cX5_occupant 33 = .ok (.aload_n 0, 1) := by decide +kernel
theorem dX5_occupant_34 : decode cX5_occupant 34 = .ok (.getfield 23, 3) := by decide +kernel
theorem dX5_occupant_37 : decode cX5_occupant 37 = .ok (.getfield 139, 3) := by decide +kernel
theorem dX5_occupant_40 : decode cX5_occupant 40 = .ok (.iload 5, 2) := by decide +kernel
theorem dX5_occupant_42 : decode cX5_occupant 42 = .ok (.aaload, 1) := by decide +kernel
theorem dX5_occupant_43 : decode cX5_occupant 43 = .ok (.iload_n 3, 1) := by decide +kernel
theorem dX5_occupant_44 : decode cX5_occupant 44 = .ok (.invokevirtual 231, 3) := by decide +kernel
theorem dX5_occupant_47 : decode cX5_occupant 47 = .ok (.ifCond .eq 33, 3) := by decide +kernel
theorem dX5_occupant_50 : decode cX5_occupant 50 = .ok (.aload_n 0, 1) := by decide +kernel
theorem dX5_occupant_51 : decode cX5_occupant 51 = .ok (.getfield 33, 3) := by decide +kernel
theorem dX5_occupant_54 : decode cX5_occupant 54 = .ok (.iload 5, 2) := by decide +kernel
theorem dX5_occupant_56 : decode cX5_occupant 56 = .ok (.aload_n 0, 1) := by decide +kernel
theorem dX5_occupant_57 : decode cX5_occupant 57 = .ok (.getfield 23, 3) := by decide +kernel
theorem dX5_occupant_60 : decode cX5_occupant 60 = .ok (.getfield 139, 3) := by decide +kernel
theorem dX5_occupant_63 : decode cX5_occupant 63 = .ok (.iload 5, 2) := by decide +kernel
theorem dX5_occupant_65 : decode cX5_occupant 65 = .ok (.aaload, 1) := by decide +kernel
theorem dX5_occupant_66 : decode cX5_occupant 66 = .ok (.getfield 211, 3) := by decide +kernel
theorem dX5_occupant_69 : decode cX5_occupant 69 = .ok (.iload 4, 2) := by decide +kernel
theorem dX5_occupant_71 : decode cX5_occupant 71 = .ok (.invokevirtual 234, 3) := by decide +kernel
theorem dX5_occupant_74 : decode cX5_occupant 74 = .ok (.ifCond .eq 6, 3) := by decide +kernel
theorem dX5_occupant_77 : decode cX5_occupant 77 = .ok (.iload 5, 2) := by decide +kernel
theorem dX5_occupant_79 : decode cX5_occupant 79 = .ok (.ireturn, 1) := by decide +kernel
theorem dX5_occupant_80 : decode cX5_occupant 80 = .ok (.iinc 5 1, 3) := by decide +kernel
theorem dX5_occupant_83 : decode cX5_occupant 83 = .ok (.goto (-62), 3) := by decide +kernel
theorem dX5_occupant_86 : decode cX5_occupant 86 = .ok (.iconst (-1), 1) := by decide +kernel
theorem dX5_occupant_87 : decode cX5_occupant 87 = .ok (.ireturn, 1) := by decide +kernel
theorem dX5_occupied_0 : decode cX5_occupied 0 = .ok (.iload_n 1, 1) := by decide +kernel
theorem dX5_occupied_1 : decode cX5_occupied 1 = .ok (.invokestatic 228, 3) := by decide +kernel
theorem dX5_occupied_4 : decode cX5_occupied 4 = .ok (.aload_n 0, 1) := by decide +kernel
theorem dX5_occupied_5 : decode cX5_occupied 5 = .ok (.iload_n 1, 1) := by decide +kernel
theorem dX5_occupied_6 : decode cX5_occupied 6 = .ok (.invokevirtual 241, 3) := by decide +kernel
theorem dX5_occupied_9 : decode cX5_occupied 9 = .ok (.ireturn, 1) := by decide +kernel
theorem dX5_takenBeds_0 : decode cX5_takenBeds 0 = .ok (.iconst 0, 1) := by decide +kernel
theorem dX5_takenBeds_1 : decode cX5_takenBeds 1 = .ok (.istore_n 2, 1) := by decide +kernel
theorem dX5_takenBeds_2 : decode cX5_takenBeds 2 = .ok (.iconst 0, 1) := by decide +kernel
theorem dX5_takenBeds_3 : decode cX5_takenBeds 3 = .ok (.istore_n 3, 1) := by decide +kernel
theorem dX5_takenBeds_4 : decode cX5_takenBeds 4 = .ok (.iload_n 3, 1) := by decide +kernel
theorem dX5_takenBeds_5 : decode cX5_takenBeds 5 = .ok (.aload_n 0, 1) := by decide +kernel
theorem dX5_takenBeds_6 : decode cX5_takenBeds 6 = .ok (.getfield 23, 3) := by decide +kernel
theorem dX5_takenBeds_9 : decode cX5_takenBeds 9 = .ok (.getfield 87, 3) := by decide +kernel
theorem dX5_takenBeds_12 : decode cX5_takenBeds 12 = .ok (.if_icmp .ge 21, 3) := by decide +kernel
theorem dX5_takenBeds_15 : decode cX5_takenBeds 15 = .ok (.iload_n 2, 1) := by decide +kernel
theorem dX5_takenBeds_16 : decode cX5_takenBeds 16 = .ok (.aload_n 0, 1) := by decide +kernel
theorem dX5_takenBeds_17 : decode cX5_takenBeds 17 = .ok (.getfield 33, 3) := by decide +kernel
theorem dX5_takenBeds_20 : decode cX5_takenBeds 20 = .ok (.iload_n 3, 1) := by decide +kernel
theorem dX5_takenBeds_21 : decode cX5_takenBeds 21 = .ok (.iload_n 1, 1) := by decide +kernel
theorem dX5_takenBeds_22 : decode cX5_takenBeds 22 = .ok (.invokevirtual 238, 3) := by decide +kernel
theorem dX5_takenBeds_25 : decode cX5_takenBeds 25 = .ok (.iadd, 1) := by decide +kernel
theorem dX5_takenBeds_26 : decode cX5_takenBeds 26 = .ok (.istore_n 2, 1) := by decide +kernel
theorem dX5_takenBeds_27 : decode cX5_takenBeds 27 = .ok (.iinc 3 1, 3) := by decide +kernel
theorem dX5_takenBeds_30 : decode cX5_takenBeds 30 = .ok (.goto (-26), 3) := by decide +kernel
theorem dX5_takenBeds_33 : decode cX5_takenBeds 33 = .ok (.iload_n 2, 1) := by decide +kernel
theorem dX5_takenBeds_34 : decode cX5_takenBeds 34 = .ok (.ireturn, 1) := by decide +kernel
theorem dX5_booked_0 : decode cX5_booked 0 = .ok (.iload_n 1, 1) := by decide +kernel
theorem dX5_booked_1 : decode cX5_booked 1 = .ok (.invokestatic 228, 3) := by decide +kernel
theorem dX5_booked_4 : decode cX5_booked 4 = .ok (.aload_n 0, 1) := by decide +kernel
theorem dX5_booked_5 : decode cX5_booked 5 = .ok (.getfield 23, 3) := by decide +kernel
theorem dX5_booked_8 : decode cX5_booked 8 = .ok (.getfield 244, 3) := by decide +kernel
theorem dX5_booked_11 : decode cX5_booked 11 = .ok (.iload_n 1, 1) := by decide +kernel
theorem dX5_booked_12 : decode cX5_booked 12 = .ok (.iaload, 1) := by decide +kernel
theorem dX5_booked_13 : decode cX5_booked 13 = .ok (.ireturn, 1) := by decide +kernel
theorem dX5_fullNights_0 : decode cX5_fullNights 0 = .ok (.iconst 0, 1) := by decide +kernel
theorem dX5_fullNights_1 : decode cX5_fullNights 1 = .ok (.istore_n 1, 1) := by decide +kernel
theorem dX5_fullNights_2 : decode cX5_fullNights 2 = .ok (.iconst 0, 1) := by decide +kernel
theorem dX5_fullNights_3 : decode cX5_fullNights 3 = .ok (.istore_n 2, 1) := by decide +kernel
theorem dX5_fullNights_4 : decode cX5_fullNights 4 = .ok (.iload_n 2, 1) := by decide +kernel
theorem dX5_fullNights_5 : decode cX5_fullNights 5 = .ok (.bipush 30, 2) := by decide +kernel
theorem dX5_fullNights_7 : decode cX5_fullNights 7 = .ok (.if_icmp .ge 37, 3) := by decide +kernel
theorem dX5_fullNights_10 : decode cX5_fullNights 10 = .ok (.aload_n 0, 1) := by decide +kernel
theorem dX5_fullNights_11 : decode cX5_fullNights 11 = .ok (.getfield 23, 3) := by decide +kernel
theorem dX5_fullNights_14 : decode cX5_fullNights 14 = .ok (.getfield 87, 3) := by decide +kernel
theorem dX5_fullNights_17 : decode cX5_fullNights 17 = .ok (.ifCond .le 21, 3) := by decide +kernel
theorem dX5_fullNights_20 : decode cX5_fullNights 20 = .ok (.aload_n 0, 1) := by decide +kernel
theorem dX5_fullNights_21 : decode cX5_fullNights 21 = .ok (.iload_n 2, 1) := by decide +kernel
theorem dX5_fullNights_22 : decode cX5_fullNights 22 = .ok (.invokevirtual 241, 3) := by decide +kernel
theorem dX5_fullNights_25 : decode cX5_fullNights 25 = .ok (.aload_n 0, 1) := by decide +kernel
theorem dX5_fullNights_26 : decode cX5_fullNights 26 = .ok (.getfield 23, 3) := by decide +kernel
theorem dX5_fullNights_29 : decode cX5_fullNights 29 = .ok (.getfield 90, 3) := by decide +kernel
theorem dX5_fullNights_32 : decode cX5_fullNights 32 = .ok (.if_icmp .ne 6, 3) := by decide +kernel
theorem dX5_fullNights_35 : decode cX5_fullNights 35 = .ok (.iinc 1 1, 3) := by decide +kernel
theorem dX5_fullNights_38 : decode cX5_fullNights 38 = .ok (.iinc 2 1, 3) := by decide +kernel
theorem dX5_fullNights_41 : decode cX5_fullNights 41 = .ok (.goto (-37), 3) := by decide +kernel
theorem dX5_fullNights_44 : decode cX5_fullNights 44 = .ok (.iload_n 1, 1) := by decide +kernel
theorem dX5_fullNights_45 : decode cX5_fullNights 45 = .ok (.ireturn, 1) := by decide +kernel
theorem dX5_pays_0 : decode cX5_pays 0 = .ok (.aload_n 0, 1) := by decide +kernel
theorem dX5_pays_1 : decode cX5_pays 1 = .ok (.iload_n 1, 1) := by decide +kernel
theorem dX5_pays_2 : decode cX5_pays 2 = .ok (.invokevirtual 136, 3) := by decide +kernel
theorem dX5_pays_5 : decode cX5_pays 5 = .ok (.aload_n 0, 1) := by decide +kernel
theorem dX5_pays_6 : decode cX5_pays 6 = .ok (.getfield 33, 3) := by decide +kernel
theorem dX5_pays_9 : decode cX5_pays 9 = .ok (.getfield 262, 3) := by decide +kernel
theorem dX5_pays_12 : decode cX5_pays 12 = .ok (.iload_n 1, 1) := by decide +kernel
theorem dX5_pays_13 : decode cX5_pays 13 = .ok (.iaload, 1) := by decide +kernel
theorem dX5_pays_14 : decode cX5_pays 14 = .ok (.ireturn, 1) := by decide +kernel
theorem dX5_net_0 : decode cX5_net 0 = .ok (.aload_n 0, 1) := by decide +kernel
theorem dX5_net_1 : decode cX5_net 1 = .ok (.getfield 33, 3) := by decide +kernel
theorem dX5_net_4 : decode cX5_net 4 = .ok (.getfield 268, 3) := by decide +kernel
theorem dX5_net_7 : decode cX5_net 7 = .ok (.aload_n 0, 1) := by decide +kernel
theorem dX5_net_8 : decode cX5_net 8 = .ok (.getfield 33, 3) := by decide +kernel
theorem dX5_net_11 : decode cX5_net 11 = .ok (.getfield 265, 3) := by decide +kernel
theorem dX5_net_14 : decode cX5_net 14 = .ok (.isub, 1) := by decide +kernel
theorem dX5_net_15 : decode cX5_net 15 = .ok (.ireturn, 1) := by decide +kernel
theorem dX5_chance_0 : decode cX5_chance 0 = .ok (.iload_n 1, 1) := by decide +kernel
theorem dX5_chance_1 : decode cX5_chance 1 = .ok (.invokestatic 228, 3) := by decide +kernel
theorem dX5_chance_4 : decode cX5_chance 4 = .ok (.aload_n 0, 1) := by decide +kernel
theorem dX5_chance_5 : decode cX5_chance 5 = .ok (.iload_n 1, 1) := by decide +kernel
theorem dX5_chance_6 : decode cX5_chance 6 = .ok (.invokevirtual 271, 3) := by decide +kernel
theorem dX5_chance_9 : decode cX5_chance 9 = .ok (.iload_n 2, 1) := by decide +kernel
theorem dX5_chance_10 : decode cX5_chance 10 = .ok (.ifCond .lt 21, 3) := by decide +kernel
theorem dX5_chance_13 : decode cX5_chance 13 = .ok (.iload_n 2, 1) := by decide +kernel
theorem dX5_chance_14 : decode cX5_chance 14 = .ok (.aload_n 0, 1) := by decide +kernel
theorem dX5_chance_15 : decode cX5_chance 15 = .ok (.getfield 44, 3) := by decide +kernel
theorem dX5_chance_18 : decode cX5_chance 18 = .ok (.arraylength, 1) := by decide +kernel
theorem dX5_chance_19 : decode cX5_chance 19 = .ok (.if_icmp .ge 12, 3) := by decide +kernel
theorem dX5_chance_22 : decode cX5_chance 22 = .ok (.aload_n 0, 1) := by decide +kernel
theorem dX5_chance_23 : decode cX5_chance 23 = .ok (.getfield 44, 3) := by decide +kernel
theorem dX5_chance_26 : decode cX5_chance 26 = .ok (.iload_n 2, 1) := by decide +kernel
theorem dX5_chance_27 : decode cX5_chance 27 = .ok (.daload, 1) := by decide +kernel
theorem dX5_chance_28 : decode cX5_chance 28 = .ok (.goto 4, 3) := by decide +kernel
theorem dX5_chance_31 : decode cX5_chance 31 = .ok (.dconst 0, 1) := by decide +kernel
theorem dX5_chance_32 : decode cX5_chance 32 = .ok (.dreturn, 1) := by decide +kernel
theorem dX5_risk_0 : decode cX5_risk 0 = .ok (.iload_n 1, 1) := by decide +kernel
theorem dX5_risk_1 : decode cX5_risk 1 = .ok (.invokestatic 228, 3) := by decide +kernel
theorem dX5_risk_4 : decode cX5_risk 4 = .ok (.aload_n 0, 1) := by decide +kernel
theorem dX5_risk_5 : decode cX5_risk 5 = .ok (.iload_n 1, 1) := by decide +kernel
theorem dX5_risk_6 : decode cX5_risk 6 = .ok (.invokevirtual 271, 3) := by decide +kernel
theorem dX5_risk_9 : decode cX5_risk 9 = .ok (.dconst 0, 1) := by decide +kernel
theorem dX5_risk_10 : decode cX5_risk 10 = .ok (.dstore_n 2, 1) := by decide +kernel
theorem dX5_risk_11 : decode cX5_risk 11 = .ok (.aload_n 0, 1) := by decide +kernel
theorem dX5_risk_12 : decode cX5_risk 12 = .ok (.getfield 23, 3) := by decide +kernel
theorem dX5_risk_15 : decode cX5_risk 15 = .ok (.getfield 90, 3) := by decide +kernel
theorem dX5_risk_18 : decode cX5_risk 18 = .ok (.iconst 1, 1) := by decide +kernel
theorem dX5_risk_19 : decode cX5_risk 19 = .ok (.iadd, 1) := by decide +kernel
theorem dX5_risk_20 : decode cX5_risk 20 = .ok (.istore 4, 2) := by decide +kernel
theorem dX5_risk_22 : decode cX5_risk 22 = .ok (.iload 4, 2) := by decide +kernel
theorem dX5_risk_24 : decode cX5_risk 24 = .ok (.aload_n 0, 1) := by decide +kernel
theorem dX5_risk_25 : decode cX5_risk 25 = .ok (.getfield 44, 3) := by decide +kernel
theorem dX5_risk_28 : decode cX5_risk 28 = .ok (.arraylength, 1) := by decide +kernel
theorem dX5_risk_29 : decode cX5_risk 29 = .ok (.if_icmp .ge 19, 3) := by decide +kernel
theorem dX5_risk_32 : decode cX5_risk 32 = .ok (.dload_n 2, 1) := by decide +kernel
theorem dX5_risk_33 : decode cX5_risk 33 = .ok (.aload_n 0, 1) := by decide +kernel
theorem dX5_risk_34 : decode cX5_risk 34 = .ok (.getfield 44, 3) := by decide +kernel
theorem dX5_risk_37 : decode cX5_risk 37 = .ok (.iload 4, 2) := by decide +kernel
theorem dX5_risk_39 : decode cX5_risk 39 = .ok (.daload, 1) := by decide +kernel
theorem dX5_risk_40 : decode cX5_risk 40 = .ok (.dadd, 1) := by decide +kernel
theorem dX5_risk_41 : decode cX5_risk 41 = .ok (.dstore_n 2, 1) := by decide +kernel
theorem dX5_risk_42 : decode cX5_risk 42 = .ok (.iinc 4 1, 3) := by decide +kernel
theorem dX5_risk_45 : decode cX5_risk 45 = .ok (.goto (-23), 3) := by decide +kernel
theorem dX5_risk_48 : decode cX5_risk 48 = .ok (.dload_n 2, 1) := by decide +kernel
theorem dX5_risk_49 : decode cX5_risk 49 = .ok (.dreturn, 1) := by decide +kernel
theorem dX5_expectedWalks_0 : decode cX5_expectedWalks 0 = .ok (.iload_n 1, 1) := by decide +kernel
theorem dX5_expectedWalks_1 : decode cX5_expectedWalks 1 = .ok (.invokestatic 228, 3) := by decide +kernel
theorem dX5_expectedWalks_4 : decode cX5_expectedWalks 4 = .ok (.aload_n 0, 1) := by decide +kernel
theorem dX5_expectedWalks_5 : decode cX5_expectedWalks 5 = .ok (.iload_n 1, 1) := by decide +kernel
theorem dX5_expectedWalks_6 : decode cX5_expectedWalks 6 = .ok (.invokevirtual 271, 3) := by decide +kernel
theorem dX5_expectedWalks_9 : decode cX5_expectedWalks 9 = .ok (.dconst 0, 1) := by decide +kernel
theorem dX5_expectedWalks_10 : decode cX5_expectedWalks 10 = .ok (.dstore_n 2, 1) := by decide +kernel
theorem dX5_expectedWalks_11 : decode cX5_expectedWalks 11 = .ok (.aload_n 0, 1) := by decide +kernel
theorem dX5_expectedWalks_12 : decode cX5_expectedWalks 12 = .ok (.getfield 23, 3) := by decide +kernel
theorem dX5_expectedWalks_15 : decode cX5_expectedWalks 15 = .ok (.getfield 90, 3) := by decide +kernel
theorem dX5_expectedWalks_18 : decode cX5_expectedWalks 18 = .ok (.iconst 1, 1) := by decide +kernel
theorem dX5_expectedWalks_19 : decode cX5_expectedWalks 19 = .ok (.iadd, 1) := by decide +kernel
theorem dX5_expectedWalks_20 : decode cX5_expectedWalks 20 = .ok (.istore 4, 2) := by decide +kernel
theorem dX5_expectedWalks_22 : decode cX5_expectedWalks 22 = .ok (.iload 4, 2) := by decide +kernel
theorem dX5_expectedWalks_24 : decode cX5_expectedWalks 24 = .ok (.aload_n 0, 1) := by decide +kernel
theorem dX5_expectedWalks_25 : decode cX5_expectedWalks 25 = .ok (.getfield 44, 3) := by decide +kernel
theorem dX5_expectedWalks_28 : decode cX5_expectedWalks 28 = .ok (.arraylength, 1) := by decide +kernel
theorem dX5_expectedWalks_29 : decode cX5_expectedWalks 29 = .ok (.if_icmp .ge 31, 3) := by decide +kernel
theorem dX5_expectedWalks_32 : decode cX5_expectedWalks 32 = .ok (.dload_n 2, 1) := by decide +kernel
theorem dX5_expectedWalks_33 : decode cX5_expectedWalks 33 = .ok (.iload 4, 2) := by decide +kernel
theorem dX5_expectedWalks_35 : decode cX5_expectedWalks 35 = .ok (.aload_n 0, 1) := by decide +kernel
theorem dX5_expectedWalks_36 : decode cX5_expectedWalks 36 = .ok (.getfield 23, 3) := by decide +kernel
theorem dX5_expectedWalks_39 : decode cX5_expectedWalks 39 = .ok (.getfield 90, 3) := by decide +kernel
theorem dX5_expectedWalks_42 : decode cX5_expectedWalks 42 = .ok (.isub, 1) := by decide +kernel
theorem dX5_expectedWalks_43 : decode cX5_expectedWalks 43 = .ok (.i2d, 1) := by decide +kernel
theorem dX5_expectedWalks_44 : decode cX5_expectedWalks 44 = .ok (.aload_n 0, 1) := by decide +kernel
theorem dX5_expectedWalks_45 : decode cX5_expectedWalks 45 = .ok (.getfield 44, 3) := by decide +kernel
theorem dX5_expectedWalks_48 : decode cX5_expectedWalks 48 = .ok (.iload 4, 2) := by decide +kernel
theorem dX5_expectedWalks_50 : decode cX5_expectedWalks 50 = .ok (.daload, 1) := by decide +kernel
theorem dX5_expectedWalks_51 : decode cX5_expectedWalks 51 = .ok (.dmul, 1) := by decide +kernel
theorem dX5_expectedWalks_52 : decode cX5_expectedWalks 52 = .ok (.dadd, 1) := by decide +kernel
theorem dX5_expectedWalks_53 : decode cX5_expectedWalks 53 = .ok (.dstore_n 2, 1) := by decide +kernel
theorem dX5_expectedWalks_54 : decode cX5_expectedWalks 54 = .ok (.iinc 4 1, 3) := by decide +kernel
theorem dX5_expectedWalks_57 : decode cX5_expectedWalks 57 = .ok (.goto (-35), 3) := by decide +kernel
theorem dX5_expectedWalks_60 : decode cX5_expectedWalks 60 = .ok (.dload_n 2, 1) := by decide +kernel
theorem dX5_expectedWalks_61 : decode cX5_expectedWalks 61 = .ok (.dreturn, 1) := by decide +kernel
theorem dX5_fillOdds_0 : decode cX5_fillOdds 0 = .ok (.aload_n 0, 1) := by decide +kernel
theorem dX5_fillOdds_1 : decode cX5_fillOdds 1 = .ok (.getfield 44, 3) := by decide +kernel
theorem dX5_fillOdds_4 : decode cX5_fillOdds 4 = .ok (.iconst 0, 1) := by decide +kernel
theorem dX5_fillOdds_5 : decode cX5_fillOdds 5 = .ok (.dconst 1, 1) := by decide +kernel
theorem dX5_fillOdds_6 : decode cX5_fillOdds 6 = .ok (.dastore, 1) := by decide +kernel
theorem dX5_fillOdds_7 : decode cX5_fillOdds 7 = .ok (.iconst 1, 1) := by decide +kernel
theorem dX5_fillOdds_8 : decode cX5_fillOdds 8 = .ok (.istore_n 2, 1) := by decide +kernel
theorem dX5_fillOdds_9 : decode cX5_fillOdds 9 = .ok (.iload_n 2, 1) := by decide +kernel
theorem dX5_fillOdds_10 : decode cX5_fillOdds 10 = .ok (.aload_n 0, 1) := by decide +kernel
theorem dX5_fillOdds_11 : decode cX5_fillOdds 11 = .ok (.getfield 44, 3) := by decide +kernel
theorem dX5_fillOdds_14 : decode cX5_fillOdds 14 = .ok (.arraylength, 1) := by decide +kernel
theorem dX5_fillOdds_15 : decode cX5_fillOdds 15 = .ok (.if_icmp .ge 16, 3) := by decide +kernel
theorem dX5_fillOdds_18 : decode cX5_fillOdds 18 = .ok (.aload_n 0, 1) := by decide +kernel
theorem dX5_fillOdds_19 : decode cX5_fillOdds 19 = .ok (.getfield 44, 3) := by decide +kernel
theorem dX5_fillOdds_22 : decode cX5_fillOdds 22 = .ok (.iload_n 2, 1) := by decide +kernel
theorem dX5_fillOdds_23 : decode cX5_fillOdds 23 = .ok (.dconst 0, 1) := by decide +kernel
theorem dX5_fillOdds_24 : decode cX5_fillOdds 24 = .ok (.dastore, 1) := by decide +kernel
theorem dX5_fillOdds_25 : decode cX5_fillOdds 25 = .ok (.iinc 2 1, 3) := by decide +kernel
theorem dX5_fillOdds_28 : decode cX5_fillOdds 28 = .ok (.goto (-19), 3) := by decide +kernel
theorem dX5_fillOdds_31 : decode cX5_fillOdds 31 = .ok (.iconst 0, 1) := by decide +kernel
theorem dX5_fillOdds_32 : decode cX5_fillOdds 32 = .ok (.istore_n 2, 1) := by decide +kernel
theorem dX5_fillOdds_33 : decode cX5_fillOdds 33 = .ok (.iload_n 2, 1) := by decide +kernel
theorem dX5_fillOdds_34 : decode cX5_fillOdds 34 = .ok (.aload_n 0, 1) := by decide +kernel
theorem dX5_fillOdds_35 : decode cX5_fillOdds 35 = .ok (.getfield 23, 3) := by decide +kernel
theorem dX5_fillOdds_38 : decode cX5_fillOdds 38 = .ok (.getfield 84, 3) := by decide +kernel
theorem dX5_fillOdds_41 : decode cX5_fillOdds 41 = .ok (.if_icmp .ge 52, 3) := by decide +kernel
theorem dX5_fillOdds_44 : decode cX5_fillOdds 44 = .ok (.aload_n 0, 1) := by decide +kernel
theorem dX5_fillOdds_45 : decode cX5_fillOdds 45 = .ok (.getfield 23, 3) := by decide +kernel
theorem dX5_fillOdds_48 : decode cX5_fillOdds 48 = .ok (.getfield 139, 3) := by decide +kernel
theorem dX5_fillOdds_51 : decode cX5_fillOdds 51 = .ok (.iload_n 2, 1) := by decide +kernel
theorem dX5_fillOdds_52 : decode cX5_fillOdds 52 = .ok (.aaload, 1) := by decide +kernel
theorem dX5_fillOdds_53 : decode cX5_fillOdds 53 = .ok (.astore_n 3, 1) := by decide +kernel
theorem dX5_fillOdds_54 : decode cX5_fillOdds 54 = .ok (.aload_n 3, 1) := by decide +kernel
theorem dX5_fillOdds_55 : decode cX5_fillOdds 55 = .ok (.getfield 186, 3) := by decide +kernel
theorem dX5_fillOdds_58 : decode cX5_fillOdds 58 = .ok (.iconst 1, 1) := by decide +kernel
theorem dX5_fillOdds_59 : decode cX5_fillOdds 59 = .ok (.if_icmp .ne 28, 3) := by decide +kernel
theorem dX5_fillOdds_62 : decode cX5_fillOdds 62 = .ok (.aload_n 3, 1) := by decide +kernel
theorem dX5_fillOdds_63 : decode cX5_fillOdds 63 = .ok (.iload_n 1, 1) := by decide +kernel
theorem dX5_fillOdds_64 : decode cX5_fillOdds 64 = .ok (.invokevirtual 231, 3) := by decide +kernel
theorem dX5_fillOdds_67 : decode cX5_fillOdds 67 = .ok (.ifCond .eq 20, 3) := by decide +kernel
theorem dX5_fillOdds_70 : decode cX5_fillOdds 70 = .ok (.aload_n 0, 1) := by decide +kernel
theorem dX5_fillOdds_71 : decode cX5_fillOdds 71 = .ok (.aload_n 3, 1) := by decide +kernel
theorem dX5_fillOdds_72 : decode cX5_fillOdds 72 = .ok (.getfield 211, 3) := by decide +kernel
theorem dX5_fillOdds_75 : decode cX5_fillOdds 75 = .ok (.aload_n 3, 1) := by decide +kernel
theorem dX5_fillOdds_76 : decode cX5_fillOdds 76 = .ok (.getfield 158, 3) := by decide +kernel
theorem dX5_fillOdds_79 : decode cX5_fillOdds 79 = .ok (.i2d, 1) := by decide +kernel
theorem dX5_fillOdds_80 : decode cX5_fillOdds 80 = .ok (.ldc2_w 274, 3) := by decide +kernel
theorem dX5_fillOdds_83 : decode cX5_fillOdds 83 = .ok (.ddiv, 1) := by decide +kernel
theorem dX5_fillOdds_84 : decode cX5_fillOdds 84 = .ok (.invokevirtual 276, 3) := by decide +kernel
theorem dX5_fillOdds_87 : decode cX5_fillOdds 87 = .ok (.iinc 2 1, 3) := by decide +kernel
theorem dX5_fillOdds_90 : decode cX5_fillOdds 90 = .ok (.goto (-57), 3) := by decide +kernel
theorem dX5_fillOdds_93 : decode cX5_fillOdds 93 = .ok (.return_, 1) := by decide +kernel
theorem dX5_addToOdds_0 : decode cX5_addToOdds 0 = .ok (.aload_n 0, 1) := by decide +kernel
theorem dX5_addToOdds_1 : decode cX5_addToOdds 1 = .ok (.getfield 44, 3) := by decide +kernel
theorem dX5_addToOdds_4 : decode cX5_addToOdds 4 = .ok (.arraylength, 1) := by decide +kernel
theorem dX5_addToOdds_5 : decode cX5_addToOdds 5 = .ok (.iconst 1, 1) := by decide +kernel
theorem dX5_addToOdds_6 : decode cX5_addToOdds 6 = .ok (.isub, 1) := by decide +kernel
theorem dX5_addToOdds_7 : decode cX5_addToOdds 7 = .ok (.istore 4, 2) := by decide +kernel
theorem dX5_addToOdds_9 : decode cX5_addToOdds 9 = .ok (.iload 4, 2) := by decide +kernel
theorem dX5_addToOdds_11 : decode cX5_addToOdds 11 = .ok (.ifCond .lt 53, 3) := by decide +kernel
theorem dX5_addToOdds_14 : decode cX5_addToOdds 14 = .ok (.iload 4, 2) := by decide +kernel
theorem dX5_addToOdds_16 : decode cX5_addToOdds 16 = .ok (.iload_n 1, 1) := by decide +kernel
theorem dX5_addToOdds_17 : decode cX5_addToOdds 17 = .ok (.if_icmp .lt 15, 3) := by decide +kernel
theorem dX5_addToOdds_20 : decode cX5_addToOdds 20 = .ok (.aload_n 0, 1) := by decide +kernel
theorem dX5_addToOdds_21 : decode cX5_addToOdds 21 = .ok (.getfield 44, 3) := by decide +kernel
theorem dX5_addToOdds_24 : decode cX5_addToOdds 24 = .ok (.iload 4, 2) := by decide +kernel
theorem dX5_addToOdds_26 : decode cX5_addToOdds 26 = .ok (.iload_n 1, 1) := by decide +kernel
theorem dX5_addToOdds_27 : decode cX5_addToOdds 27 = .ok (.isub, 1) := by decide +kernel
theorem dX5_addToOdds_28 : decode cX5_addToOdds 28 = .ok (.daload, 1) := by decide +kernel
theorem dX5_addToOdds_29 : decode cX5_addToOdds 29 = .ok (.goto 4, 3) := by decide +kernel
theorem dX5_addToOdds_32 : decode cX5_addToOdds 32 = .ok (.dconst 0, 1) := by decide +kernel
theorem dX5_addToOdds_33 : decode cX5_addToOdds 33 = .ok (.dstore 5, 2) := by decide +kernel
theorem dX5_addToOdds_35 : decode cX5_addToOdds 35 = .ok (.aload_n 0, 1) := by decide +kernel
theorem dX5_addToOdds_36 : decode cX5_addToOdds 36 = .ok (.getfield 44, 3) := by decide +kernel
theorem dX5_addToOdds_39 : decode cX5_addToOdds 39 = .ok (.iload 4, 2) := by decide +kernel
theorem dX5_addToOdds_41 : decode cX5_addToOdds 41 = .ok (.aload_n 0, 1) := by decide +kernel
theorem dX5_addToOdds_42 : decode cX5_addToOdds 42 = .ok (.getfield 44, 3) := by decide +kernel
theorem dX5_addToOdds_45 : decode cX5_addToOdds 45 = .ok (.iload 4, 2) := by decide +kernel
theorem dX5_addToOdds_47 : decode cX5_addToOdds 47 = .ok (.daload, 1) := by decide +kernel
theorem dX5_addToOdds_48 : decode cX5_addToOdds 48 = .ok (.dconst 1, 1) := by decide +kernel
theorem dX5_addToOdds_49 : decode cX5_addToOdds 49 = .ok (.dload_n 2, 1) := by decide +kernel
theorem dX5_addToOdds_50 : decode cX5_addToOdds 50 = .ok (.dsub, 1) := by decide +kernel
theorem dX5_addToOdds_51 : decode cX5_addToOdds 51 = .ok (.dmul, 1) := by decide +kernel
theorem dX5_addToOdds_52 : decode cX5_addToOdds 52 = .ok (.dload 5, 2) := by decide +kernel
theorem dX5_addToOdds_54 : decode cX5_addToOdds 54 = .ok (.dload_n 2, 1) := by decide +kernel
theorem dX5_addToOdds_55 : decode cX5_addToOdds 55 = .ok (.dmul, 1) := by decide +kernel
theorem dX5_addToOdds_56 : decode cX5_addToOdds 56 = .ok (.dadd, 1) := by decide +kernel
theorem dX5_addToOdds_57 : decode cX5_addToOdds 57 = .ok (.dastore, 1) := by decide +kernel
theorem dX5_addToOdds_58 : decode cX5_addToOdds 58 = .ok (.iinc 4 (-1), 3) := by decide +kernel
theorem dX5_addToOdds_61 : decode cX5_addToOdds 61 = .ok (.goto (-52), 3) := by decide +kernel
theorem dX5_addToOdds_64 : decode cX5_addToOdds 64 = .ok (.return_, 1) := by decide +kernel
theorem dX5_checkRoom_0 : decode cX5_checkRoom 0 = .ok (.iload_n 1, 1) := by decide +kernel
theorem dX5_checkRoom_1 : decode cX5_checkRoom 1 = .ok (.ifCond .lt 14, 3) := by decide +kernel
theorem dX5_checkRoom_4 : decode cX5_checkRoom 4 = .ok (.iload_n 1, 1) := by decide +kernel
theorem dX5_checkRoom_5 : decode cX5_checkRoom 5 = .ok (.aload_n 0, 1) := by decide +kernel
theorem dX5_checkRoom_6 : decode cX5_checkRoom 6 = .ok (.getfield 23, 3) := by decide +kernel
theorem dX5_checkRoom_9 : decode cX5_checkRoom 9 = .ok (.getfield 87, 3) := by decide +kernel
theorem dX5_checkRoom_12 : decode cX5_checkRoom 12 = .ok (.if_icmp .lt 14, 3) := by decide +kernel
theorem dX5_checkRoom_15 : decode cX5_checkRoom 15 = .ok (.new 192, 3) := by decide +kernel
theorem dX5_checkRoom_18 : decode cX5_checkRoom 18 = .ok (.dup, 1) := by decide +kernel
theorem dX5_checkRoom_19 : decode cX5_checkRoom 19 = .ok (.ldc_w 350, 3) := by decide +kernel
theorem dX5_checkRoom_22 : decode cX5_checkRoom 22 = .ok (.invokespecial 196, 3) := by decide +kernel
theorem dX5_checkRoom_25 : decode cX5_checkRoom 25 = .ok (.athrow, 1) := by decide +kernel
theorem dX5_checkRoom_26 : decode cX5_checkRoom 26 = .ok (.return_, 1) := by decide +kernel
theorem dX5_checkBed_0 : decode cX5_checkBed 0 = .ok (.aload_n 0, 1) := by decide +kernel
theorem dX5_checkBed_1 : decode cX5_checkBed 1 = .ok (.iload_n 1, 1) := by decide +kernel
theorem dX5_checkBed_2 : decode cX5_checkBed 2 = .ok (.invokevirtual 113, 3) := by decide +kernel
theorem dX5_checkBed_5 : decode cX5_checkBed 5 = .ok (.iload_n 2, 1) := by decide +kernel
theorem dX5_checkBed_6 : decode cX5_checkBed 6 = .ok (.ifCond .lt 19, 3) := by decide +kernel
theorem dX5_checkBed_9 : decode cX5_checkBed 9 = .ok (.iload_n 2, 1) := by decide +kernel
theorem dX5_checkBed_10 : decode cX5_checkBed 10 = .ok (.aload_n 0, 1) := by decide +kernel
theorem dX5_checkBed_11 : decode cX5_checkBed 11 = .ok (.getfield 23, 3) := by decide +kernel
theorem dX5_checkBed_14 : decode cX5_checkBed 14 = .ok (.getfield 116, 3) := by decide +kernel
theorem dX5_checkBed_17 : decode cX5_checkBed 17 = .ok (.iload_n 1, 1) := by decide +kernel
theorem dX5_checkBed_18 : decode cX5_checkBed 18 = .ok (.aaload, 1) := by decide +kernel
theorem dX5_checkBed_19 : decode cX5_checkBed 19 = .ok (.getfield 125, 3) := by decide +kernel
theorem dX5_checkBed_22 : decode cX5_checkBed 22 = .ok (.if_icmp .lt 14, 3) := by decide +kernel
theorem dX5_checkBed_25 : decode cX5_checkBed 25 = .ok (.new 192, 3) := by decide +kernel
theorem dX5_checkBed_28 : decode cX5_checkBed 28 = .ok (.dup, 1) := by decide +kernel
theorem dX5_checkBed_29 : decode cX5_checkBed 29 = .ok (.ldc_w 352, 3) := by decide +kernel
theorem dX5_checkBed_32 : decode cX5_checkBed 32 = .ok (.invokespecial 196, 3) := by decide +kernel
theorem dX5_checkBed_35 : decode cX5_checkBed 35 = .ok (.athrow, 1) := by decide +kernel
theorem dX5_checkBed_36 : decode cX5_checkBed 36 = .ok (.return_, 1) := by decide +kernel
theorem dX5_checkBooking_0 : decode cX5_checkBooking 0 = .ok (.iload_n 1, 1) := by decide +kernel
theorem dX5_checkBooking_1 : decode cX5_checkBooking 1 = .ok (.ifCond .lt 14, 3) := by decide +kernel
theorem dX5_checkBooking_4 : decode cX5_checkBooking 4 = .ok (.iload_n 1, 1) := by decide +kernel
theorem dX5_checkBooking_5 : decode cX5_checkBooking 5 = .ok (.aload_n 0, 1) := by decide +kernel
theorem dX5_checkBooking_6 : decode cX5_checkBooking 6 = .ok (.getfield 23, 3) := by decide +kernel
theorem dX5_checkBooking_9 : decode cX5_checkBooking 9 = .ok (.getfield 84, 3) := by decide +kernel
theorem dX5_checkBooking_12 : decode cX5_checkBooking 12 = .ok (.if_icmp .lt 14, 3) := by decide +kernel
theorem dX5_checkBooking_15 : decode cX5_checkBooking 15 = .ok (.new 192, 3) := by decide +kernel
theorem dX5_checkBooking_18 : decode cX5_checkBooking 18 = .ok (.dup, 1) := by decide +kernel
theorem dX5_checkBooking_19 : decode cX5_checkBooking 19 = .ok (.ldc_w 354, 3) := by decide +kernel
theorem dX5_checkBooking_22 : decode cX5_checkBooking 22 = .ok (.invokespecial 196, 3) := by decide +kernel
theorem dX5_checkBooking_25 : decode cX5_checkBooking 25 = .ok (.athrow, 1) := by decide +kernel
theorem dX5_checkBooking_26 : decode cX5_checkBooking 26 = .ok (.return_, 1) := by decide +kernel
theorem dX5_checkNight_0 : decode cX5_checkNight 0 = .ok (.iload_n 0, 1) := by decide +kernel
theorem dX5_checkNight_1 : decode cX5_checkNight 1 = .ok (.ifCond .lt 9, 3) := by decide +kernel
theorem dX5_checkNight_4 : decode cX5_checkNight 4 = .ok (.iload_n 0, 1) := by decide +kernel
theorem dX5_checkNight_5 : decode cX5_checkNight 5 = .ok (.bipush 30, 2) := by decide +kernel
theorem dX5_checkNight_7 : decode cX5_checkNight 7 = .ok (.if_icmp .lt 14, 3) := by decide +kernel
theorem dX5_checkNight_10 : decode cX5_checkNight 10 = .ok (.new 192, 3) := by decide +kernel
theorem dX5_checkNight_13 : decode cX5_checkNight 13 = .ok (.dup, 1) := by decide +kernel
theorem dX5_checkNight_14 : decode cX5_checkNight 14 = .ok (.ldc_w 356, 3) := by decide +kernel
theorem dX5_checkNight_17 : decode cX5_checkNight 17 = .ok (.invokespecial 196, 3) := by decide +kernel
theorem dX5_checkNight_20 : decode cX5_checkNight 20 = .ok (.athrow, 1) := by decide +kernel
theorem dX5_checkNight_21 : decode cX5_checkNight 21 = .ok (.return_, 1) := by decide +kernel
theorem dJ5_init_d00df_0 : decode cJ5_init_d00df 0 = .ok (.aload_n 0, 1) := by decide +kernel
theorem dJ5_init_d00df_1 : decode cJ5_init_d00df 1 = .ok (.invokespecial 3, 3) := by decide +kernel
theorem dJ5_init_d00df_4 : decode cJ5_init_d00df 4 = .ok (.getstatic 18, 3) := by decide +kernel
theorem dJ5_init_d00df_7 : decode cJ5_init_d00df 7 = .ok (.ifCond .eq 18, 3) := by decide +kernel
theorem dJ5_init_d00df_10 : decode cJ5_init_d00df 10 = .ok (.aload_n 0, 1) := by decide +kernel
theorem dJ5_init_d00df_11 : decode cJ5_init_d00df 11 = .ok (.iload_n 1, 1) := by decide +kernel
theorem dJ5_init_d00df_12 : decode cJ5_init_d00df 12 = .ok (.newarray .byte, 2) := by decide +kernel
theorem dJ5_init_d00df_14 : decode cJ5_init_d00df 14 = .ok (.putfield 15, 3) := by decide +kernel
theorem dJ5_init_d00df_17 : decode cJ5_init_d00df 17 = .ok (.aload_n 0, 1) := by decide +kernel
theorem dJ5_init_d00df_18 : decode cJ5_init_d00df 18 = .ok (.iconst 0, 1) := by decide +kernel
theorem dJ5_init_d00df_19 : decode cJ5_init_d00df 19 = .ok (.putfield 22, 3) := by decide +kernel
theorem dJ5_init_d00df_22 : decode cJ5_init_d00df 22 = .ok (.goto 16, 3) := by decide +kernel
theorem dJ5_init_d00df_25 : decode cJ5_init_d00df 25 = .ok (.aload_n 0, 1) := by decide +kernel
theorem dJ5_init_d00df_26 : decode cJ5_init_d00df 26 = .ok (.iload_n 1, 1) := by decide +kernel
theorem dJ5_init_d00df_27 : decode cJ5_init_d00df 27 = .ok (.invokestatic 26, 3) := by decide +kernel
theorem dJ5_init_d00df_30 : decode cJ5_init_d00df 30 = .ok (.putfield 15, 3) := by decide +kernel
theorem dJ5_init_d00df_33 : decode cJ5_init_d00df 33 = .ok (.aload_n 0, 1) := by decide +kernel
theorem dJ5_init_d00df_34 : decode cJ5_init_d00df 34 = .ok (.iconst 1, 1) := by decide +kernel
theorem dJ5_init_d00df_35 : decode cJ5_init_d00df 35 = .ok (.putfield 22, 3) := by decide +kernel
theorem dJ5_init_d00df_38 : decode cJ5_init_d00df 38 = .ok (.return_, 1) := by decide +kernel
theorem dJ5_length_8abf5_0 : decode cJ5_length_8abf5 0 = .ok (.aload_n 0, 1) := by decide +kernel
theorem dJ5_length_8abf5_1 : decode cJ5_length_8abf5 1 = .ok (.getfield 79, 3) := by decide +kernel
theorem dJ5_length_8abf5_4 : decode cJ5_length_8abf5 4 = .ok (.ireturn, 1) := by decide +kernel
theorem dJ5_ensureCapacityInternal_d00df_0 : decode cJ5_ensureCapacityInternal_d00df 0 = .ok (.aload_n 0, 1) := by decide +kernel
theorem dJ5_ensureCapacityInternal_d00df_1 : decode cJ5_ensureCapacityInternal_d00df 1 = .ok (.getfield 15, 3) := by decide +kernel
theorem dJ5_ensureCapacityInternal_d00df_4 : decode cJ5_ensureCapacityInternal_d00df 4 = .ok (.arraylength, 1) := by decide +kernel
theorem dJ5_ensureCapacityInternal_d00df_5 : decode cJ5_ensureCapacityInternal_d00df 5 = .ok (.aload_n 0, 1) := by decide +kernel
theorem dJ5_ensureCapacityInternal_d00df_6 : decode cJ5_ensureCapacityInternal_d00df 6 = .ok (.getfield 22, 3) := by decide +kernel
theorem dJ5_ensureCapacityInternal_d00df_9 : decode cJ5_ensureCapacityInternal_d00df 9 = .ok (.ishr, 1) := by decide +kernel
theorem dJ5_ensureCapacityInternal_d00df_10 : decode cJ5_ensureCapacityInternal_d00df 10 = .ok (.istore_n 2, 1) := by decide +kernel
theorem dJ5_ensureCapacityInternal_d00df_11 : decode cJ5_ensureCapacityInternal_d00df 11 = .ok (.iload_n 1, 1) := by decide +kernel
theorem dJ5_ensureCapacityInternal_d00df_12 : decode cJ5_ensureCapacityInternal_d00df 12 = .ok (.iload_n 2, 1) := by decide +kernel
theorem dJ5_ensureCapacityInternal_d00df_13 : decode cJ5_ensureCapacityInternal_d00df 13 = .ok (.isub, 1) := by decide +kernel
theorem dJ5_ensureCapacityInternal_d00df_14 : decode cJ5_ensureCapacityInternal_d00df 14 = .ok (.ifCond .le 24, 3) := by decide +kernel
theorem dJ5_ensureCapacityInternal_d00df_17 : decode cJ5_ensureCapacityInternal_d00df 17 = .ok (.aload_n 0, 1) := by decide +kernel
theorem dJ5_ensureCapacityInternal_d00df_18 : decode cJ5_ensureCapacityInternal_d00df 18 = .ok (.aload_n 0, 1) := by decide +kernel
theorem dJ5_ensureCapacityInternal_d00df_19 : decode cJ5_ensureCapacityInternal_d00df 19 = .ok (.getfield 15, 3) := by decide +kernel
theorem dJ5_ensureCapacityInternal_d00df_22 : decode cJ5_ensureCapacityInternal_d00df 22 = .ok (.aload_n 0, 1) := by decide +kernel
theorem dJ5_ensureCapacityInternal_d00df_23 : decode cJ5_ensureCapacityInternal_d00df 23 = .ok (.iload_n 1, 1) := by decide +kernel
theorem dJ5_ensureCapacityInternal_d00df_24 : decode cJ5_ensureCapacityInternal_d00df 24 = .ok (.invokevirtual 104, 3) := by decide +kernel
theorem dJ5_ensureCapacityInternal_d00df_27 : decode cJ5_ensureCapacityInternal_d00df 27 = .ok (.aload_n 0, 1) := by decide +kernel
theorem dJ5_ensureCapacityInternal_d00df_28 : decode cJ5_ensureCapacityInternal_d00df 28 = .ok (.getfield 22, 3) := by decide +kernel
theorem dJ5_ensureCapacityInternal_d00df_31 : decode cJ5_ensureCapacityInternal_d00df 31 = .ok (.ishl, 1) := by decide +kernel
theorem dJ5_ensureCapacityInternal_d00df_32 : decode cJ5_ensureCapacityInternal_d00df 32 = .ok (.invokestatic 108, 3) := by decide +kernel
theorem dJ5_ensureCapacityInternal_d00df_35 : decode cJ5_ensureCapacityInternal_d00df 35 = .ok (.putfield 15, 3) := by decide +kernel
theorem dJ5_ensureCapacityInternal_d00df_38 : decode cJ5_ensureCapacityInternal_d00df 38 = .ok (.return_, 1) := by decide +kernel
theorem dJ5_newCapacity_0f7a4_0 : decode cJ5_newCapacity_0f7a4 0 = .ok (.aload_n 0, 1) := by decide +kernel
theorem dJ5_newCapacity_0f7a4_1 : decode cJ5_newCapacity_0f7a4 1 = .ok (.getfield 15, 3) := by decide +kernel
theorem dJ5_newCapacity_0f7a4_4 : decode cJ5_newCapacity_0f7a4 4 = .ok (.arraylength, 1) := by decide +kernel
theorem dJ5_newCapacity_0f7a4_5 : decode cJ5_newCapacity_0f7a4 5 = .ok (.istore_n 2, 1) := by decide +kernel
theorem dJ5_newCapacity_0f7a4_6 : decode cJ5_newCapacity_0f7a4 6 = .ok (.iload_n 1, 1) := by decide +kernel
theorem dJ5_newCapacity_0f7a4_7 : decode cJ5_newCapacity_0f7a4 7 = .ok (.aload_n 0, 1) := by decide +kernel
theorem dJ5_newCapacity_0f7a4_8 : decode cJ5_newCapacity_0f7a4 8 = .ok (.getfield 22, 3) := by decide +kernel
theorem dJ5_newCapacity_0f7a4_11 : decode cJ5_newCapacity_0f7a4 11 = .ok (.ishl, 1) := by decide +kernel
theorem dJ5_newCapacity_0f7a4_12 : decode cJ5_newCapacity_0f7a4 12 = .ok (.istore_n 3, 1) := by decide +kernel
theorem dJ5_newCapacity_0f7a4_13 : decode cJ5_newCapacity_0f7a4 13 = .ok (.iload_n 3, 1) := by decide +kernel
theorem dJ5_newCapacity_0f7a4_14 : decode cJ5_newCapacity_0f7a4 14 = .ok (.iload_n 2, 1) := by decide +kernel
theorem dJ5_newCapacity_0f7a4_15 : decode cJ5_newCapacity_0f7a4 15 = .ok (.isub, 1) := by decide +kernel
theorem dJ5_newCapacity_0f7a4_16 : decode cJ5_newCapacity_0f7a4 16 = .ok (.istore 4, 2) := by decide +kernel
theorem dJ5_newCapacity_0f7a4_18 : decode cJ5_newCapacity_0f7a4 18 = .ok (.iload_n 2, 1) := by decide +kernel
theorem dJ5_newCapacity_0f7a4_19 : decode cJ5_newCapacity_0f7a4 19 = .ok (.iload 4, 2) := by decide +kernel
theorem dJ5_newCapacity_0f7a4_21 : decode cJ5_newCapacity_0f7a4 21 = .ok (.iload_n 2, 1) := by decide +kernel
theorem dJ5_newCapacity_0f7a4_22 : decode cJ5_newCapacity_0f7a4 22 = .ok (.iconst 2, 1) := by decide +kernel
theorem dJ5_newCapacity_0f7a4_23 : decode cJ5_newCapacity_0f7a4 23 = .ok (.aload_n 0, 1) := by decide +kernel
theorem dJ5_newCapacity_0f7a4_24 : decode cJ5_newCapacity_0f7a4 24 = .ok (.getfield 22, 3) := by decide +kernel
theorem dJ5_newCapacity_0f7a4_27 : decode cJ5_newCapacity_0f7a4 27 = .ok (.ishl, 1) := by decide +kernel
theorem dJ5_newCapacity_0f7a4_28 : decode cJ5_newCapacity_0f7a4 28 = .ok (.iadd, 1) := by decide +kernel
theorem dJ5_newCapacity_0f7a4_29 : decode cJ5_newCapacity_0f7a4 29 = .ok (.invokestatic 114, 3) := by decide +kernel
theorem dJ5_newCapacity_0f7a4_32 : decode cJ5_newCapacity_0f7a4 32 = .ok (.istore 5, 2) := by decide +kernel
theorem dJ5_newCapacity_0f7a4_34 : decode cJ5_newCapacity_0f7a4 34 = .ok (.iload 5, 2) := by decide +kernel
theorem dJ5_newCapacity_0f7a4_36 : decode cJ5_newCapacity_0f7a4 36 = .ok (.ldc 39, 2) := by decide +kernel
theorem dJ5_newCapacity_0f7a4_38 : decode cJ5_newCapacity_0f7a4 38 = .ok (.if_icmp .ne 13, 3) := by decide +kernel
theorem dJ5_newCapacity_0f7a4_41 : decode cJ5_newCapacity_0f7a4 41 = .ok (.new 120, 3) := by decide +kernel
theorem dJ5_newCapacity_0f7a4_44 : decode cJ5_newCapacity_0f7a4 44 = .ok (.dup, 1) := by decide +kernel
theorem dJ5_newCapacity_0f7a4_45 : decode cJ5_newCapacity_0f7a4 45 = .ok (.ldc 122, 2) := by decide +kernel
theorem dJ5_newCapacity_0f7a4_47 : decode cJ5_newCapacity_0f7a4 47 = .ok (.invokespecial 124, 3) := by decide +kernel
theorem dJ5_newCapacity_0f7a4_50 : decode cJ5_newCapacity_0f7a4 50 = .ok (.athrow, 1) := by decide +kernel
theorem dJ5_newCapacity_0f7a4_51 : decode cJ5_newCapacity_0f7a4 51 = .ok (.iload 5, 2) := by decide +kernel
theorem dJ5_newCapacity_0f7a4_53 : decode cJ5_newCapacity_0f7a4 53 = .ok (.aload_n 0, 1) := by decide +kernel
theorem dJ5_newCapacity_0f7a4_54 : decode cJ5_newCapacity_0f7a4 54 = .ok (.getfield 22, 3) := by decide +kernel
theorem dJ5_newCapacity_0f7a4_57 : decode cJ5_newCapacity_0f7a4 57 = .ok (.ishr, 1) := by decide +kernel
theorem dJ5_newCapacity_0f7a4_58 : decode cJ5_newCapacity_0f7a4 58 = .ok (.ireturn, 1) := by decide +kernel
theorem dJ5_inflate_da8c8_0 : decode cJ5_inflate_da8c8 0 = .ok (.aload_n 0, 1) := by decide +kernel
theorem dJ5_inflate_da8c8_1 : decode cJ5_inflate_da8c8 1 = .ok (.invokevirtual 83, 3) := by decide +kernel
theorem dJ5_inflate_da8c8_4 : decode cJ5_inflate_da8c8 4 = .ok (.ifCond .ne 4, 3) := by decide +kernel
theorem dJ5_inflate_da8c8_7 : decode cJ5_inflate_da8c8 7 = .ok (.return_, 1) := by decide +kernel
theorem dJ5_inflate_da8c8_8 : decode cJ5_inflate_da8c8 8 = .ok (.aload_n 0, 1) := by decide +kernel
theorem dJ5_inflate_da8c8_9 : decode cJ5_inflate_da8c8 9 = .ok (.getfield 15, 3) := by decide +kernel
theorem dJ5_inflate_da8c8_12 : decode cJ5_inflate_da8c8 12 = .ok (.arraylength, 1) := by decide +kernel
theorem dJ5_inflate_da8c8_13 : decode cJ5_inflate_da8c8 13 = .ok (.invokestatic 26, 3) := by decide +kernel
theorem dJ5_inflate_da8c8_16 : decode cJ5_inflate_da8c8 16 = .ok (.astore_n 1, 1) := by decide +kernel
theorem dJ5_inflate_da8c8_17 : decode cJ5_inflate_da8c8 17 = .ok (.aload_n 0, 1) := by decide +kernel
theorem dJ5_inflate_da8c8_18 : decode cJ5_inflate_da8c8 18 = .ok (.getfield 15, 3) := by decide +kernel
theorem dJ5_inflate_da8c8_21 : decode cJ5_inflate_da8c8 21 = .ok (.iconst 0, 1) := by decide +kernel
theorem dJ5_inflate_da8c8_22 : decode cJ5_inflate_da8c8 22 = .ok (.aload_n 1, 1) := by decide +kernel
theorem dJ5_inflate_da8c8_23 : decode cJ5_inflate_da8c8 23 = .ok (.iconst 0, 1) := by decide +kernel
theorem dJ5_inflate_da8c8_24 : decode cJ5_inflate_da8c8 24 = .ok (.aload_n 0, 1) := by decide +kernel
theorem dJ5_inflate_da8c8_25 : decode cJ5_inflate_da8c8 25 = .ok (.getfield 79, 3) := by decide +kernel
theorem dJ5_inflate_da8c8_28 : decode cJ5_inflate_da8c8 28 = .ok (.invokestatic 125, 3) := by decide +kernel
theorem dJ5_inflate_da8c8_31 : decode cJ5_inflate_da8c8 31 = .ok (.aload_n 0, 1) := by decide +kernel
theorem dJ5_inflate_da8c8_32 : decode cJ5_inflate_da8c8 32 = .ok (.aload_n 1, 1) := by decide +kernel
theorem dJ5_inflate_da8c8_33 : decode cJ5_inflate_da8c8 33 = .ok (.putfield 15, 3) := by decide +kernel
theorem dJ5_inflate_da8c8_36 : decode cJ5_inflate_da8c8 36 = .ok (.aload_n 0, 1) := by decide +kernel
theorem dJ5_inflate_da8c8_37 : decode cJ5_inflate_da8c8 37 = .ok (.iconst 1, 1) := by decide +kernel
theorem dJ5_inflate_da8c8_38 : decode cJ5_inflate_da8c8 38 = .ok (.putfield 22, 3) := by decide +kernel
theorem dJ5_inflate_da8c8_41 : decode cJ5_inflate_da8c8 41 = .ok (.return_, 1) := by decide +kernel
theorem dJ5_append_cf1ce_0 : decode cJ5_append_cf1ce 0 = .ok (.aload_n 1, 1) := by decide +kernel
theorem dJ5_append_cf1ce_1 : decode cJ5_append_cf1ce 1 = .ok (.ifnonnull 8, 3) := by decide +kernel
theorem dJ5_append_cf1ce_4 : decode cJ5_append_cf1ce 4 = .ok (.aload_n 0, 1) := by decide +kernel
theorem dJ5_append_cf1ce_5 : decode cJ5_append_cf1ce 5 = .ok (.invokevirtual 204, 3) := by decide +kernel
theorem dJ5_append_cf1ce_8 : decode cJ5_append_cf1ce 8 = .ok (.areturn, 1) := by decide +kernel
theorem dJ5_append_cf1ce_9 : decode cJ5_append_cf1ce 9 = .ok (.aload_n 1, 1) := by decide +kernel
theorem dJ5_append_cf1ce_10 : decode cJ5_append_cf1ce 10 = .ok (.invokevirtual 32, 3) := by decide +kernel
theorem dJ5_append_cf1ce_13 : decode cJ5_append_cf1ce 13 = .ok (.istore_n 2, 1) := by decide +kernel
theorem dJ5_append_cf1ce_14 : decode cJ5_append_cf1ce 14 = .ok (.aload_n 0, 1) := by decide +kernel
theorem dJ5_append_cf1ce_15 : decode cJ5_append_cf1ce 15 = .ok (.aload_n 0, 1) := by decide +kernel
theorem dJ5_append_cf1ce_16 : decode cJ5_append_cf1ce 16 = .ok (.getfield 79, 3) := by decide +kernel
theorem dJ5_append_cf1ce_19 : decode cJ5_append_cf1ce 19 = .ok (.iload_n 2, 1) := by decide +kernel
theorem dJ5_append_cf1ce_20 : decode cJ5_append_cf1ce 20 = .ok (.iadd, 1) := by decide +kernel
theorem dJ5_append_cf1ce_21 : decode cJ5_append_cf1ce 21 = .ok (.invokevirtual 100, 3) := by decide +kernel
theorem dJ5_append_cf1ce_24 : decode cJ5_append_cf1ce 24 = .ok (.aload_n 0, 1) := by decide +kernel
theorem dJ5_append_cf1ce_25 : decode cJ5_append_cf1ce 25 = .ok (.aload_n 0, 1) := by decide +kernel
theorem dJ5_append_cf1ce_26 : decode cJ5_append_cf1ce 26 = .ok (.getfield 79, 3) := by decide +kernel
theorem dJ5_append_cf1ce_29 : decode cJ5_append_cf1ce 29 = .ok (.aload_n 1, 1) := by decide +kernel
theorem dJ5_append_cf1ce_30 : decode cJ5_append_cf1ce 30 = .ok (.invokevirtual 208, 3) := by decide +kernel
theorem dJ5_append_cf1ce_33 : decode cJ5_append_cf1ce 33 = .ok (.aload_n 0, 1) := by decide +kernel
theorem dJ5_append_cf1ce_34 : decode cJ5_append_cf1ce 34 = .ok (.dup, 1) := by decide +kernel
theorem dJ5_append_cf1ce_35 : decode cJ5_append_cf1ce 35 = .ok (.getfield 79, 3) := by decide +kernel
theorem dJ5_append_cf1ce_38 : decode cJ5_append_cf1ce 38 = .ok (.iload_n 2, 1) := by decide +kernel
theorem dJ5_append_cf1ce_39 : decode cJ5_append_cf1ce 39 = .ok (.iadd, 1) := by decide +kernel
theorem dJ5_append_cf1ce_40 : decode cJ5_append_cf1ce 40 = .ok (.putfield 79, 3) := by decide +kernel
theorem dJ5_append_cf1ce_43 : decode cJ5_append_cf1ce 43 = .ok (.aload_n 0, 1) := by decide +kernel
theorem dJ5_append_cf1ce_44 : decode cJ5_append_cf1ce 44 = .ok (.areturn, 1) := by decide +kernel
theorem dJ5_appendNull_278bc_0 : decode cJ5_appendNull_278bc 0 = .ok (.aload_n 0, 1) := by decide +kernel
theorem dJ5_appendNull_278bc_1 : decode cJ5_appendNull_278bc 1 = .ok (.aload_n 0, 1) := by decide +kernel
theorem dJ5_appendNull_278bc_2 : decode cJ5_appendNull_278bc 2 = .ok (.getfield 79, 3) := by decide +kernel
theorem dJ5_appendNull_278bc_5 : decode cJ5_appendNull_278bc 5 = .ok (.iconst 4, 1) := by decide +kernel
theorem dJ5_appendNull_278bc_6 : decode cJ5_appendNull_278bc 6 = .ok (.iadd, 1) := by decide +kernel
theorem dJ5_appendNull_278bc_7 : decode cJ5_appendNull_278bc 7 = .ok (.invokevirtual 100, 3) := by decide +kernel
theorem dJ5_appendNull_278bc_10 : decode cJ5_appendNull_278bc 10 = .ok (.aload_n 0, 1) := by decide +kernel
theorem dJ5_appendNull_278bc_11 : decode cJ5_appendNull_278bc 11 = .ok (.getfield 79, 3) := by decide +kernel
theorem dJ5_appendNull_278bc_14 : decode cJ5_appendNull_278bc 14 = .ok (.istore_n 1, 1) := by decide +kernel
theorem dJ5_appendNull_278bc_15 : decode cJ5_appendNull_278bc 15 = .ok (.aload_n 0, 1) := by decide +kernel
theorem dJ5_appendNull_278bc_16 : decode cJ5_appendNull_278bc 16 = .ok (.getfield 15, 3) := by decide +kernel
theorem dJ5_appendNull_278bc_19 : decode cJ5_appendNull_278bc 19 = .ok (.astore_n 2, 1) := by decide +kernel
theorem dJ5_appendNull_278bc_20 : decode cJ5_appendNull_278bc 20 = .ok (.aload_n 0, 1) := by decide +kernel
theorem dJ5_appendNull_278bc_21 : decode cJ5_appendNull_278bc 21 = .ok (.invokevirtual 83, 3) := by decide +kernel
theorem dJ5_appendNull_278bc_24 : decode cJ5_appendNull_278bc 24 = .ok (.ifCond .eq 38, 3) := by decide +kernel
theorem dJ5_appendNull_278bc_27 : decode cJ5_appendNull_278bc 27 = .ok (.aload_n 2, 1) := by decide +kernel
theorem dJ5_appendNull_278bc_28 : decode cJ5_appendNull_278bc 28 = .ok (.iload_n 1, 1) := by decide +kernel
theorem dJ5_appendNull_278bc_29 : decode cJ5_appendNull_278bc 29 = .ok (.iinc 1 1, 3) := by decide +kernel
theorem dJ5_appendNull_278bc_32 : decode cJ5_appendNull_278bc 32 = .ok (.bipush 110, 2) := by decide +kernel
theorem dJ5_appendNull_278bc_34 : decode cJ5_appendNull_278bc 34 = .ok (.bastore, 1) := by decide +kernel
theorem dJ5_appendNull_278bc_35 : decode cJ5_appendNull_278bc 35 = .ok (.aload_n 2, 1) := by decide +kernel
theorem dJ5_appendNull_278bc_36 : decode cJ5_appendNull_278bc 36 = .ok (.iload_n 1, 1) := by decide +kernel
theorem dJ5_appendNull_278bc_37 : decode cJ5_appendNull_278bc 37 = .ok (.iinc 1 1, 3) := by decide +kernel
theorem dJ5_appendNull_278bc_40 : decode cJ5_appendNull_278bc 40 = .ok (.bipush 117, 2) := by decide +kernel
theorem dJ5_appendNull_278bc_42 : decode cJ5_appendNull_278bc 42 = .ok (.bastore, 1) := by decide +kernel
theorem dJ5_appendNull_278bc_43 : decode cJ5_appendNull_278bc 43 = .ok (.aload_n 2, 1) := by decide +kernel
theorem dJ5_appendNull_278bc_44 : decode cJ5_appendNull_278bc 44 = .ok (.iload_n 1, 1) := by decide +kernel
theorem dJ5_appendNull_278bc_45 : decode cJ5_appendNull_278bc 45 = .ok (.iinc 1 1, 3) := by decide +kernel
theorem dJ5_appendNull_278bc_48 : decode cJ5_appendNull_278bc 48 = .ok (.bipush 108, 2) := by decide +kernel
theorem dJ5_appendNull_278bc_50 : decode cJ5_appendNull_278bc 50 = .ok (.bastore, 1) := by decide +kernel
theorem dJ5_appendNull_278bc_51 : decode cJ5_appendNull_278bc 51 = .ok (.aload_n 2, 1) := by decide +kernel
theorem dJ5_appendNull_278bc_52 : decode cJ5_appendNull_278bc 52 = .ok (.iload_n 1, 1) := by decide +kernel
theorem dJ5_appendNull_278bc_53 : decode cJ5_appendNull_278bc 53 = .ok (.iinc 1 1, 3) := by decide +kernel
theorem dJ5_appendNull_278bc_56 : decode cJ5_appendNull_278bc 56 = .ok (.bipush 108, 2) := by decide +kernel
theorem dJ5_appendNull_278bc_58 : decode cJ5_appendNull_278bc 58 = .ok (.bastore, 1) := by decide +kernel
theorem dJ5_appendNull_278bc_59 : decode cJ5_appendNull_278bc 59 = .ok (.goto 17, 3) := by decide +kernel
theorem dJ5_appendNull_278bc_62 : decode cJ5_appendNull_278bc 62 = .ok (.aload_n 2, 1) := by decide +kernel
theorem dJ5_appendNull_278bc_63 : decode cJ5_appendNull_278bc 63 = .ok (.iload_n 1, 1) := by decide +kernel
theorem dJ5_appendNull_278bc_64 : decode cJ5_appendNull_278bc 64 = .ok (.bipush 110, 2) := by decide +kernel
theorem dJ5_appendNull_278bc_66 : decode cJ5_appendNull_278bc 66 = .ok (.bipush 117, 2) := by decide +kernel
theorem dJ5_appendNull_278bc_68 : decode cJ5_appendNull_278bc 68 = .ok (.bipush 108, 2) := by decide +kernel
theorem dJ5_appendNull_278bc_70 : decode cJ5_appendNull_278bc 70 = .ok (.bipush 108, 2) := by decide +kernel
theorem dJ5_appendNull_278bc_72 : decode cJ5_appendNull_278bc 72 = .ok (.invokestatic 226, 3) := by decide +kernel
theorem dJ5_appendNull_278bc_75 : decode cJ5_appendNull_278bc 75 = .ok (.istore_n 1, 1) := by decide +kernel
theorem dJ5_appendNull_278bc_76 : decode cJ5_appendNull_278bc 76 = .ok (.aload_n 0, 1) := by decide +kernel
theorem dJ5_appendNull_278bc_77 : decode cJ5_appendNull_278bc 77 = .ok (.iload_n 1, 1) := by decide +kernel
theorem dJ5_appendNull_278bc_78 : decode cJ5_appendNull_278bc 78 = .ok (.putfield 79, 3) := by decide +kernel
theorem dJ5_appendNull_278bc_81 : decode cJ5_appendNull_278bc 81 = .ok (.aload_n 0, 1) := by decide +kernel
theorem dJ5_appendNull_278bc_82 : decode cJ5_appendNull_278bc 82 = .ok (.areturn, 1) := by decide +kernel
theorem dJ5_append_3fe6f_0 : decode cJ5_append_3fe6f 0 = .ok (.aload_n 0, 1) := by decide +kernel
theorem dJ5_append_3fe6f_1 : decode cJ5_append_3fe6f 1 = .ok (.aload_n 0, 1) := by decide +kernel
theorem dJ5_append_3fe6f_2 : decode cJ5_append_3fe6f 2 = .ok (.getfield 79, 3) := by decide +kernel
theorem dJ5_append_3fe6f_5 : decode cJ5_append_3fe6f 5 = .ok (.iconst 1, 1) := by decide +kernel
theorem dJ5_append_3fe6f_6 : decode cJ5_append_3fe6f 6 = .ok (.iadd, 1) := by decide +kernel
theorem dJ5_append_3fe6f_7 : decode cJ5_append_3fe6f 7 = .ok (.invokevirtual 100, 3) := by decide +kernel
theorem dJ5_append_3fe6f_10 : decode cJ5_append_3fe6f 10 = .ok (.aload_n 0, 1) := by decide +kernel
theorem dJ5_append_3fe6f_11 : decode cJ5_append_3fe6f 11 = .ok (.invokevirtual 83, 3) := by decide +kernel
theorem dJ5_append_3fe6f_14 : decode cJ5_append_3fe6f 14 = .ok (.ifCond .eq 31, 3) := by decide +kernel
theorem dJ5_append_3fe6f_17 : decode cJ5_append_3fe6f 17 = .ok (.iload_n 1, 1) := by decide +kernel
theorem dJ5_append_3fe6f_18 : decode cJ5_append_3fe6f 18 = .ok (.invokestatic 191, 3) := by decide +kernel
theorem dJ5_append_3fe6f_21 : decode cJ5_append_3fe6f 21 = .ok (.ifCond .eq 24, 3) := by decide +kernel
theorem dJ5_append_3fe6f_24 : decode cJ5_append_3fe6f 24 = .ok (.aload_n 0, 1) := by decide +kernel
theorem dJ5_append_3fe6f_25 : decode cJ5_append_3fe6f 25 = .ok (.getfield 15, 3) := by decide +kernel
theorem dJ5_append_3fe6f_28 : decode cJ5_append_3fe6f 28 = .ok (.aload_n 0, 1) := by decide +kernel
theorem dJ5_append_3fe6f_29 : decode cJ5_append_3fe6f 29 = .ok (.dup, 1) := by decide +kernel
theorem dJ5_append_3fe6f_30 : decode cJ5_append_3fe6f 30 = .ok (.getfield 79, 3) := by decide +kernel
theorem dJ5_append_3fe6f_33 : decode cJ5_append_3fe6f 33 = .ok (.dup_x1, 1) := by decide +kernel
theorem dJ5_append_3fe6f_34 : decode cJ5_append_3fe6f 34 = .ok (.iconst 1, 1) := by decide +kernel
theorem dJ5_append_3fe6f_35 : decode cJ5_append_3fe6f 35 = .ok (.iadd, 1) := by decide +kernel
theorem dJ5_append_3fe6f_36 : decode cJ5_append_3fe6f 36 = .ok (.putfield 79, 3) := by decide +kernel
theorem dJ5_append_3fe6f_39 : decode cJ5_append_3fe6f 39 = .ok (.iload_n 1, 1) := by decide +kernel
theorem dJ5_append_3fe6f_40 : decode cJ5_append_3fe6f 40 = .ok (.i2b, 1) := by decide +kernel
theorem dJ5_append_3fe6f_41 : decode cJ5_append_3fe6f 41 = .ok (.bastore, 1) := by decide +kernel
theorem dJ5_append_3fe6f_42 : decode cJ5_append_3fe6f 42 = .ok (.goto 33, 3) := by decide +kernel
theorem dJ5_append_3fe6f_45 : decode cJ5_append_3fe6f 45 = .ok (.aload_n 0, 1) := by decide +kernel
theorem dJ5_append_3fe6f_46 : decode cJ5_append_3fe6f 46 = .ok (.invokevirtual 83, 3) := by decide +kernel
theorem dJ5_append_3fe6f_49 : decode cJ5_append_3fe6f 49 = .ok (.ifCond .eq 7, 3) := by decide +kernel
theorem dJ5_append_3fe6f_52 : decode cJ5_append_3fe6f 52 = .ok (.aload_n 0, 1) := by decide +kernel
theorem dJ5_append_3fe6f_53 : decode cJ5_append_3fe6f 53 = .ok (.invokevirtual 195, 3) := by decide +kernel
theorem dJ5_append_3fe6f_56 : decode cJ5_append_3fe6f 56 = .ok (.aload_n 0, 1) := by decide +kernel
theorem dJ5_append_3fe6f_57 : decode cJ5_append_3fe6f 57 = .ok (.getfield 15, 3) := by decide +kernel
theorem dJ5_append_3fe6f_60 : decode cJ5_append_3fe6f 60 = .ok (.aload_n 0, 1) := by decide +kernel
theorem dJ5_append_3fe6f_61 : decode cJ5_append_3fe6f 61 = .ok (.dup, 1) := by decide +kernel
theorem dJ5_append_3fe6f_62 : decode cJ5_append_3fe6f 62 = .ok (.getfield 79, 3) := by decide +kernel
theorem dJ5_append_3fe6f_65 : decode cJ5_append_3fe6f 65 = .ok (.dup_x1, 1) := by decide +kernel
theorem dJ5_append_3fe6f_66 : decode cJ5_append_3fe6f 66 = .ok (.iconst 1, 1) := by decide +kernel
theorem dJ5_append_3fe6f_67 : decode cJ5_append_3fe6f 67 = .ok (.iadd, 1) := by decide +kernel
theorem dJ5_append_3fe6f_68 : decode cJ5_append_3fe6f 68 = .ok (.putfield 79, 3) := by decide +kernel
theorem dJ5_append_3fe6f_71 : decode cJ5_append_3fe6f 71 = .ok (.iload_n 1, 1) := by decide +kernel
theorem dJ5_append_3fe6f_72 : decode cJ5_append_3fe6f 72 = .ok (.invokestatic 197, 3) := by decide +kernel
theorem dJ5_append_3fe6f_75 : decode cJ5_append_3fe6f 75 = .ok (.aload_n 0, 1) := by decide +kernel
theorem dJ5_append_3fe6f_76 : decode cJ5_append_3fe6f 76 = .ok (.areturn, 1) := by decide +kernel
theorem dJ5_append_c97b9_0 : decode cJ5_append_c97b9 0 = .ok (.aload_n 0, 1) := by decide +kernel
theorem dJ5_append_c97b9_1 : decode cJ5_append_c97b9 1 = .ok (.getfield 79, 3) := by decide +kernel
theorem dJ5_append_c97b9_4 : decode cJ5_append_c97b9 4 = .ok (.istore_n 2, 1) := by decide +kernel
theorem dJ5_append_c97b9_5 : decode cJ5_append_c97b9 5 = .ok (.iload_n 2, 1) := by decide +kernel
theorem dJ5_append_c97b9_6 : decode cJ5_append_c97b9 6 = .ok (.iload_n 1, 1) := by decide +kernel
theorem dJ5_append_c97b9_7 : decode cJ5_append_c97b9 7 = .ok (.invokestatic 245, 3) := by decide +kernel
theorem dJ5_append_c97b9_10 : decode cJ5_append_c97b9 10 = .ok (.iadd, 1) := by decide +kernel
theorem dJ5_append_c97b9_11 : decode cJ5_append_c97b9 11 = .ok (.istore_n 3, 1) := by decide +kernel
theorem dJ5_append_c97b9_12 : decode cJ5_append_c97b9 12 = .ok (.aload_n 0, 1) := by decide +kernel
theorem dJ5_append_c97b9_13 : decode cJ5_append_c97b9 13 = .ok (.iload_n 3, 1) := by decide +kernel
theorem dJ5_append_c97b9_14 : decode cJ5_append_c97b9 14 = .ok (.invokevirtual 100, 3) := by decide +kernel
theorem dJ5_append_c97b9_17 : decode cJ5_append_c97b9 17 = .ok (.aload_n 0, 1) := by decide +kernel
theorem dJ5_append_c97b9_18 : decode cJ5_append_c97b9 18 = .ok (.invokevirtual 83, 3) := by decide +kernel
theorem dJ5_append_c97b9_21 : decode cJ5_append_c97b9 21 = .ok (.ifCond .eq 16, 3) := by decide +kernel
theorem dJ5_append_c97b9_24 : decode cJ5_append_c97b9 24 = .ok (.iload_n 1, 1) := by decide +kernel
theorem dJ5_append_c97b9_25 : decode cJ5_append_c97b9 25 = .ok (.iload_n 3, 1) := by decide +kernel
theorem dJ5_append_c97b9_26 : decode cJ5_append_c97b9 26 = .ok (.aload_n 0, 1) := by decide +kernel
theorem dJ5_append_c97b9_27 : decode cJ5_append_c97b9 27 = .ok (.getfield 15, 3) := by decide +kernel
theorem dJ5_append_c97b9_30 : decode cJ5_append_c97b9 30 = .ok (.invokestatic 248, 3) := by decide +kernel
theorem dJ5_append_c97b9_33 : decode cJ5_append_c97b9 33 = .ok (.pop, 1) := by decide +kernel
theorem dJ5_append_c97b9_34 : decode cJ5_append_c97b9 34 = .ok (.goto 14, 3) := by decide +kernel
theorem dJ5_append_c97b9_37 : decode cJ5_append_c97b9 37 = .ok (.iload_n 1, 1) := by decide +kernel
theorem dJ5_append_c97b9_38 : decode cJ5_append_c97b9 38 = .ok (.iload_n 2, 1) := by decide +kernel
theorem dJ5_append_c97b9_39 : decode cJ5_append_c97b9 39 = .ok (.iload_n 3, 1) := by decide +kernel
theorem dJ5_append_c97b9_40 : decode cJ5_append_c97b9 40 = .ok (.aload_n 0, 1) := by decide +kernel
theorem dJ5_append_c97b9_41 : decode cJ5_append_c97b9 41 = .ok (.getfield 15, 3) := by decide +kernel
theorem dJ5_append_c97b9_44 : decode cJ5_append_c97b9 44 = .ok (.invokestatic 251, 3) := by decide +kernel
theorem dJ5_append_c97b9_47 : decode cJ5_append_c97b9 47 = .ok (.pop, 1) := by decide +kernel
theorem dJ5_append_c97b9_48 : decode cJ5_append_c97b9 48 = .ok (.aload_n 0, 1) := by decide +kernel
theorem dJ5_append_c97b9_49 : decode cJ5_append_c97b9 49 = .ok (.iload_n 3, 1) := by decide +kernel
theorem dJ5_append_c97b9_50 : decode cJ5_append_c97b9 50 = .ok (.putfield 79, 3) := by decide +kernel
theorem dJ5_append_c97b9_53 : decode cJ5_append_c97b9 53 = .ok (.aload_n 0, 1) := by decide +kernel
theorem dJ5_append_c97b9_54 : decode cJ5_append_c97b9 54 = .ok (.areturn, 1) := by decide +kernel
theorem dJ5_getValue_6d5f1_0 : decode cJ5_getValue_6d5f1 0 = .ok (.aload_n 0, 1) := by decide +kernel
theorem dJ5_getValue_6d5f1_1 : decode cJ5_getValue_6d5f1 1 = .ok (.getfield 15, 3) := by decide +kernel
theorem dJ5_getValue_6d5f1_4 : decode cJ5_getValue_6d5f1 4 = .ok (.areturn, 1) := by decide +kernel
theorem dJ5_isLatin1_aae02_0 : decode cJ5_isLatin1_aae02 0 = .ok (.getstatic 18, 3) := by decide +kernel
theorem dJ5_isLatin1_aae02_3 : decode cJ5_isLatin1_aae02 3 = .ok (.ifCond .eq 14, 3) := by decide +kernel
theorem dJ5_isLatin1_aae02_6 : decode cJ5_isLatin1_aae02 6 = .ok (.aload_n 0, 1) := by decide +kernel
theorem dJ5_isLatin1_aae02_7 : decode cJ5_isLatin1_aae02 7 = .ok (.getfield 22, 3) := by decide +kernel
theorem dJ5_isLatin1_aae02_10 : decode cJ5_isLatin1_aae02 10 = .ok (.ifCond .ne 7, 3) := by decide +kernel
theorem dJ5_isLatin1_aae02_13 : decode cJ5_isLatin1_aae02 13 = .ok (.iconst 1, 1) := by decide +kernel
theorem dJ5_isLatin1_aae02_14 : decode cJ5_isLatin1_aae02 14 = .ok (.goto 4, 3) := by decide +kernel
theorem dJ5_isLatin1_aae02_17 : decode cJ5_isLatin1_aae02 17 = .ok (.iconst 0, 1) := by decide +kernel
theorem dJ5_isLatin1_aae02_18 : decode cJ5_isLatin1_aae02 18 = .ok (.ireturn, 1) := by decide +kernel
theorem dJ5_inflateIfNeededFor_a7421_0 : decode cJ5_inflateIfNeededFor_a7421 0 = .ok (.getstatic 18, 3) := by decide +kernel
theorem dJ5_inflateIfNeededFor_a7421_3 : decode cJ5_inflateIfNeededFor_a7421 3 = .ok (.ifCond .eq 18, 3) := by decide +kernel
theorem dJ5_inflateIfNeededFor_a7421_6 : decode cJ5_inflateIfNeededFor_a7421 6 = .ok (.aload_n 0, 1) := by decide +kernel
theorem dJ5_inflateIfNeededFor_a7421_7 : decode cJ5_inflateIfNeededFor_a7421 7 = .ok (.getfield 22, 3) := by decide +kernel
theorem dJ5_inflateIfNeededFor_a7421_10 : decode cJ5_inflateIfNeededFor_a7421 10 = .ok (.aload_n 1, 1) := by decide +kernel
theorem dJ5_inflateIfNeededFor_a7421_11 : decode cJ5_inflateIfNeededFor_a7421 11 = .ok (.invokevirtual 40, 3) := by decide +kernel
theorem dJ5_inflateIfNeededFor_a7421_14 : decode cJ5_inflateIfNeededFor_a7421 14 = .ok (.if_icmp .eq 7, 3) := by decide +kernel
theorem dJ5_inflateIfNeededFor_a7421_17 : decode cJ5_inflateIfNeededFor_a7421 17 = .ok (.aload_n 0, 1) := by decide +kernel
theorem dJ5_inflateIfNeededFor_a7421_18 : decode cJ5_inflateIfNeededFor_a7421 18 = .ok (.invokevirtual 195, 3) := by decide +kernel
theorem dJ5_inflateIfNeededFor_a7421_21 : decode cJ5_inflateIfNeededFor_a7421 21 = .ok (.return_, 1) := by decide +kernel
theorem dJ5_putStringAt_47b60_0 : decode cJ5_putStringAt_47b60 0 = .ok (.aload_n 0, 1) := by decide +kernel
theorem dJ5_putStringAt_47b60_1 : decode cJ5_putStringAt_47b60 1 = .ok (.aload_n 2, 1) := by decide +kernel
theorem dJ5_putStringAt_47b60_2 : decode cJ5_putStringAt_47b60 2 = .ok (.invokevirtual 397, 3) := by decide +kernel
theorem dJ5_putStringAt_47b60_5 : decode cJ5_putStringAt_47b60 5 = .ok (.aload_n 2, 1) := by decide +kernel
theorem dJ5_putStringAt_47b60_6 : decode cJ5_putStringAt_47b60 6 = .ok (.aload_n 0, 1) := by decide +kernel
theorem dJ5_putStringAt_47b60_7 : decode cJ5_putStringAt_47b60 7 = .ok (.getfield 15, 3) := by decide +kernel
theorem dJ5_putStringAt_47b60_10 : decode cJ5_putStringAt_47b60 10 = .ok (.iload_n 1, 1) := by decide +kernel
theorem dJ5_putStringAt_47b60_11 : decode cJ5_putStringAt_47b60 11 = .ok (.aload_n 0, 1) := by decide +kernel
theorem dJ5_putStringAt_47b60_12 : decode cJ5_putStringAt_47b60 12 = .ok (.getfield 22, 3) := by decide +kernel
theorem dJ5_putStringAt_47b60_15 : decode cJ5_putStringAt_47b60 15 = .ok (.invokevirtual 399, 3) := by decide +kernel
theorem dJ5_putStringAt_47b60_18 : decode cJ5_putStringAt_47b60 18 = .ok (.return_, 1) := by decide +kernel
theorem dJ6_getChars_ba4f3_0 : decode cJ6_getChars_ba4f3 0 = .ok (.iload_n 1, 1) := by decide +kernel
theorem dJ6_getChars_ba4f3_1 : decode cJ6_getChars_ba4f3 1 = .ok (.istore 5, 2) := by decide +kernel
theorem dJ6_getChars_ba4f3_3 : decode cJ6_getChars_ba4f3 3 = .ok (.iload_n 0, 1) := by decide +kernel
theorem dJ6_getChars_ba4f3_4 : decode cJ6_getChars_ba4f3 4 = .ok (.ifCond .ge 7, 3) := by decide +kernel
theorem dJ6_getChars_ba4f3_7 : decode cJ6_getChars_ba4f3 7 = .ok (.iconst 1, 1) := by decide +kernel
theorem dJ6_getChars_ba4f3_8 : decode cJ6_getChars_ba4f3 8 = .ok (.goto 4, 3) := by decide +kernel
theorem dJ6_getChars_ba4f3_11 : decode cJ6_getChars_ba4f3 11 = .ok (.iconst 0, 1) := by decide +kernel
theorem dJ6_getChars_ba4f3_12 : decode cJ6_getChars_ba4f3 12 = .ok (.istore 6, 2) := by decide +kernel
theorem dJ6_getChars_ba4f3_14 : decode cJ6_getChars_ba4f3 14 = .ok (.iload 6, 2) := by decide +kernel
theorem dJ6_getChars_ba4f3_16 : decode cJ6_getChars_ba4f3 16 = .ok (.ifCond .ne 6, 3) := by decide +kernel
theorem dJ6_getChars_ba4f3_19 : decode cJ6_getChars_ba4f3 19 = .ok (.iload_n 0, 1) := by decide +kernel
theorem dJ6_getChars_ba4f3_20 : decode cJ6_getChars_ba4f3 20 = .ok (.ineg, 1) := by decide +kernel
theorem dJ6_getChars_ba4f3_21 : decode cJ6_getChars_ba4f3 21 = .ok (.istore_n 0, 1) := by decide +kernel
theorem dJ6_getChars_ba4f3_22 : decode cJ6_getChars_ba4f3 22 = .ok (.iload_n 0, 1) := by decide +kernel
theorem dJ6_getChars_ba4f3_23 : decode cJ6_getChars_ba4f3 23 = .ok (.bipush (-100), 2) := by decide +kernel
theorem dJ6_getChars_ba4f3_25 : decode cJ6_getChars_ba4f3 25 = .ok (.if_icmp .gt 47, 3) := by decide +kernel
theorem dJ6_getChars_ba4f3_28 : decode cJ6_getChars_ba4f3 28 = .ok (.iload_n 0, 1) := by decide +kernel
theorem dJ6_getChars_ba4f3_29 : decode cJ6_getChars_ba4f3 29 = .ok (.bipush 100, 2) := by decide +kernel
theorem dJ6_getChars_ba4f3_31 : decode cJ6_getChars_ba4f3 31 = .ok (.idiv, 1) := by decide +kernel
theorem dJ6_getChars_ba4f3_32 : decode cJ6_getChars_ba4f3 32 = .ok (.istore_n 3, 1) := by decide +kernel
theorem dJ6_getChars_ba4f3_33 : decode cJ6_getChars_ba4f3 33 = .ok (.iload_n 3, 1) := by decide +kernel
theorem dJ6_getChars_ba4f3_34 : decode cJ6_getChars_ba4f3 34 = .ok (.bipush 100, 2) := by decide +kernel
theorem dJ6_getChars_ba4f3_36 : decode cJ6_getChars_ba4f3 36 = .ok (.imul, 1) := by decide +kernel
theorem dJ6_getChars_ba4f3_37 : decode cJ6_getChars_ba4f3 37 = .ok (.iload_n 0, 1) := by decide +kernel
theorem dJ6_getChars_ba4f3_38 : decode cJ6_getChars_ba4f3 38 = .ok (.isub, 1) := by decide +kernel
theorem dJ6_getChars_ba4f3_39 : decode cJ6_getChars_ba4f3 39 = .ok (.istore 4, 2) := by decide +kernel
theorem dJ6_getChars_ba4f3_41 : decode cJ6_getChars_ba4f3 41 = .ok (.iload_n 3, 1) := by decide +kernel
theorem dJ6_getChars_ba4f3_42 : decode cJ6_getChars_ba4f3 42 = .ok (.istore_n 0, 1) := by decide +kernel
theorem dJ6_getChars_ba4f3_43 : decode cJ6_getChars_ba4f3 43 = .ok (.aload_n 2, 1) := by decide +kernel
theorem dJ6_getChars_ba4f3_44 : decode cJ6_getChars_ba4f3 44 = .ok (.iinc 5 (-1), 3) := by decide +kernel
theorem dJ6_getChars_ba4f3_47 : decode cJ6_getChars_ba4f3 47 = .ok (.iload 5, 2) := by decide +kernel
theorem dJ6_getChars_ba4f3_49 : decode cJ6_getChars_ba4f3 49 = .ok (.getstatic 83, 3) := by decide +kernel
theorem dJ6_getChars_ba4f3_52 : decode cJ6_getChars_ba4f3 52 = .ok (.iload 4, 2) := by decide +kernel
theorem dJ6_getChars_ba4f3_54 : decode cJ6_getChars_ba4f3 54 = .ok (.baload, 1) := by decide +kernel
theorem dJ6_getChars_ba4f3_55 : decode cJ6_getChars_ba4f3 55 = .ok (.bastore, 1) := by decide +kernel
theorem dJ6_getChars_ba4f3_56 : decode cJ6_getChars_ba4f3 56 = .ok (.aload_n 2, 1) := by decide +kernel
theorem dJ6_getChars_ba4f3_57 : decode cJ6_getChars_ba4f3 57 = .ok (.iinc 5 (-1), 3) := by decide +kernel
theorem dJ6_getChars_ba4f3_60 : decode cJ6_getChars_ba4f3 60 = .ok (.iload 5, 2) := by decide +kernel
theorem dJ6_getChars_ba4f3_62 : decode cJ6_getChars_ba4f3 62 = .ok (.getstatic 87, 3) := by decide +kernel
theorem dJ6_getChars_ba4f3_65 : decode cJ6_getChars_ba4f3 65 = .ok (.iload 4, 2) := by decide +kernel
theorem dJ6_getChars_ba4f3_67 : decode cJ6_getChars_ba4f3 67 = .ok (.baload, 1) := by decide +kernel
theorem dJ6_getChars_ba4f3_68 : decode cJ6_getChars_ba4f3 68 = .ok (.bastore, 1) := by decide +kernel
theorem dJ6_getChars_ba4f3_69 : decode cJ6_getChars_ba4f3 69 = .ok (.goto (-47), 3) := by decide +kernel
theorem dJ6_getChars_ba4f3_72 : decode cJ6_getChars_ba4f3 72 = .ok (.aload_n 2, 1) := by decide +kernel
theorem dJ6_getChars_ba4f3_73 : decode cJ6_getChars_ba4f3 73 = .ok (.iinc 5 (-1), 3) := by decide +kernel
theorem dJ6_getChars_ba4f3_76 : decode cJ6_getChars_ba4f3 76 = .ok (.iload 5, 2) := by decide +kernel
theorem dJ6_getChars_ba4f3_78 : decode cJ6_getChars_ba4f3 78 = .ok (.getstatic 83, 3) := by decide +kernel
theorem dJ6_getChars_ba4f3_81 : decode cJ6_getChars_ba4f3 81 = .ok (.iload_n 0, 1) := by decide +kernel
theorem dJ6_getChars_ba4f3_82 : decode cJ6_getChars_ba4f3 82 = .ok (.ineg, 1) := by decide +kernel
theorem dJ6_getChars_ba4f3_83 : decode cJ6_getChars_ba4f3 83 = .ok (.baload, 1) := by decide +kernel
theorem dJ6_getChars_ba4f3_84 : decode cJ6_getChars_ba4f3 84 = .ok (.bastore, 1) := by decide +kernel
theorem dJ6_getChars_ba4f3_85 : decode cJ6_getChars_ba4f3 85 = .ok (.iload_n 0, 1) := by decide +kernel
theorem dJ6_getChars_ba4f3_86 : decode cJ6_getChars_ba4f3 86 = .ok (.bipush (-9), 2) := by decide +kernel
theorem dJ6_getChars_ba4f3_88 : decode cJ6_getChars_ba4f3 88 = .ok (.if_icmp .ge 16, 3) := by decide +kernel
theorem dJ6_getChars_ba4f3_91 : decode cJ6_getChars_ba4f3 91 = .ok (.aload_n 2, 1) := by decide +kernel
theorem dJ6_getChars_ba4f3_92 : decode cJ6_getChars_ba4f3 92 = .ok (.iinc 5 (-1), 3) := by decide +kernel
theorem dJ6_getChars_ba4f3_95 : decode cJ6_getChars_ba4f3 95 = .ok (.iload 5, 2) := by decide +kernel
theorem dJ6_getChars_ba4f3_97 : decode cJ6_getChars_ba4f3 97 = .ok (.getstatic 87, 3) := by decide +kernel
theorem dJ6_getChars_ba4f3_100 : decode cJ6_getChars_ba4f3 100 = .ok (.iload_n 0, 1) := by decide +kernel
theorem dJ6_getChars_ba4f3_101 : decode cJ6_getChars_ba4f3 101 = .ok (.ineg, 1) := by decide +kernel
theorem dJ6_getChars_ba4f3_102 : decode cJ6_getChars_ba4f3 102 = .ok (.baload, 1) := by decide +kernel
theorem dJ6_getChars_ba4f3_103 : decode cJ6_getChars_ba4f3 103 = .ok (.bastore, 1) := by decide +kernel
theorem dJ6_getChars_ba4f3_104 : decode cJ6_getChars_ba4f3 104 = .ok (.iload 6, 2) := by decide +kernel
theorem dJ6_getChars_ba4f3_106 : decode cJ6_getChars_ba4f3 106 = .ok (.ifCond .eq 12, 3) := by decide +kernel
theorem dJ6_getChars_ba4f3_109 : decode cJ6_getChars_ba4f3 109 = .ok (.aload_n 2, 1) := by decide +kernel
theorem dJ6_getChars_ba4f3_110 : decode cJ6_getChars_ba4f3 110 = .ok (.iinc 5 (-1), 3) := by decide +kernel
theorem dJ6_getChars_ba4f3_113 : decode cJ6_getChars_ba4f3 113 = .ok (.iload 5, 2) := by decide +kernel
theorem dJ6_getChars_ba4f3_115 : decode cJ6_getChars_ba4f3 115 = .ok (.bipush 45, 2) := by decide +kernel
theorem dJ6_getChars_ba4f3_117 : decode cJ6_getChars_ba4f3 117 = .ok (.bastore, 1) := by decide +kernel
theorem dJ6_getChars_ba4f3_118 : decode cJ6_getChars_ba4f3 118 = .ok (.iload 5, 2) := by decide +kernel
theorem dJ6_getChars_ba4f3_120 : decode cJ6_getChars_ba4f3 120 = .ok (.ireturn, 1) := by decide +kernel
theorem dJ6_stringSize_0f7a4_0 : decode cJ6_stringSize_0f7a4 0 = .ok (.iconst 1, 1) := by decide +kernel
theorem dJ6_stringSize_0f7a4_1 : decode cJ6_stringSize_0f7a4 1 = .ok (.istore_n 1, 1) := by decide +kernel
theorem dJ6_stringSize_0f7a4_2 : decode cJ6_stringSize_0f7a4 2 = .ok (.iload_n 0, 1) := by decide +kernel
theorem dJ6_stringSize_0f7a4_3 : decode cJ6_stringSize_0f7a4 3 = .ok (.ifCond .lt 8, 3) := by decide +kernel
theorem dJ6_stringSize_0f7a4_6 : decode cJ6_stringSize_0f7a4 6 = .ok (.iconst 0, 1) := by decide +kernel
theorem dJ6_stringSize_0f7a4_7 : decode cJ6_stringSize_0f7a4 7 = .ok (.istore_n 1, 1) := by decide +kernel
theorem dJ6_stringSize_0f7a4_8 : decode cJ6_stringSize_0f7a4 8 = .ok (.iload_n 0, 1) := by decide +kernel
theorem dJ6_stringSize_0f7a4_9 : decode cJ6_stringSize_0f7a4 9 = .ok (.ineg, 1) := by decide +kernel
theorem dJ6_stringSize_0f7a4_10 : decode cJ6_stringSize_0f7a4 10 = .ok (.istore_n 0, 1) := by decide +kernel
theorem dJ6_stringSize_0f7a4_11 : decode cJ6_stringSize_0f7a4 11 = .ok (.bipush (-10), 2) := by decide +kernel
theorem dJ6_stringSize_0f7a4_13 : decode cJ6_stringSize_0f7a4 13 = .ok (.istore_n 2, 1) := by decide +kernel
theorem dJ6_stringSize_0f7a4_14 : decode cJ6_stringSize_0f7a4 14 = .ok (.iconst 1, 1) := by decide +kernel
theorem dJ6_stringSize_0f7a4_15 : decode cJ6_stringSize_0f7a4 15 = .ok (.istore_n 3, 1) := by decide +kernel
theorem dJ6_stringSize_0f7a4_16 : decode cJ6_stringSize_0f7a4 16 = .ok (.iload_n 3, 1) := by decide +kernel
theorem dJ6_stringSize_0f7a4_17 : decode cJ6_stringSize_0f7a4 17 = .ok (.bipush 10, 2) := by decide +kernel
theorem dJ6_stringSize_0f7a4_19 : decode cJ6_stringSize_0f7a4 19 = .ok (.if_icmp .ge 23, 3) := by decide +kernel
theorem dJ6_stringSize_0f7a4_22 : decode cJ6_stringSize_0f7a4 22 = .ok (.iload_n 0, 1) := by decide +kernel
theorem dJ6_stringSize_0f7a4_23 : decode cJ6_stringSize_0f7a4 23 = .ok (.iload_n 2, 1) := by decide +kernel
theorem dJ6_stringSize_0f7a4_24 : decode cJ6_stringSize_0f7a4 24 = .ok (.if_icmp .le 7, 3) := by decide +kernel
theorem dJ6_stringSize_0f7a4_27 : decode cJ6_stringSize_0f7a4 27 = .ok (.iload_n 3, 1) := by decide +kernel
theorem dJ6_stringSize_0f7a4_28 : decode cJ6_stringSize_0f7a4 28 = .ok (.iload_n 1, 1) := by decide +kernel
theorem dJ6_stringSize_0f7a4_29 : decode cJ6_stringSize_0f7a4 29 = .ok (.iadd, 1) := by decide +kernel
theorem dJ6_stringSize_0f7a4_30 : decode cJ6_stringSize_0f7a4 30 = .ok (.ireturn, 1) := by decide +kernel
theorem dJ6_stringSize_0f7a4_31 : decode cJ6_stringSize_0f7a4 31 = .ok (.bipush 10, 2) := by decide +kernel
theorem dJ6_stringSize_0f7a4_33 : decode cJ6_stringSize_0f7a4 33 = .ok (.iload_n 2, 1) := by decide +kernel
theorem dJ6_stringSize_0f7a4_34 : decode cJ6_stringSize_0f7a4 34 = .ok (.imul, 1) := by decide +kernel
theorem dJ6_stringSize_0f7a4_35 : decode cJ6_stringSize_0f7a4 35 = .ok (.istore_n 2, 1) := by decide +kernel
theorem dJ6_stringSize_0f7a4_36 : decode cJ6_stringSize_0f7a4 36 = .ok (.iinc 3 1, 3) := by decide +kernel
theorem dJ6_stringSize_0f7a4_39 : decode cJ6_stringSize_0f7a4 39 = .ok (.goto (-23), 3) := by decide +kernel
theorem dJ6_stringSize_0f7a4_42 : decode cJ6_stringSize_0f7a4 42 = .ok (.bipush 10, 2) := by decide +kernel
theorem dJ6_stringSize_0f7a4_44 : decode cJ6_stringSize_0f7a4 44 = .ok (.iload_n 1, 1) := by decide +kernel
theorem dJ6_stringSize_0f7a4_45 : decode cJ6_stringSize_0f7a4 45 = .ok (.iadd, 1) := by decide +kernel
theorem dJ6_stringSize_0f7a4_46 : decode cJ6_stringSize_0f7a4 46 = .ok (.ireturn, 1) := by decide +kernel
theorem dJ6_bitCount_0f7a4_0 : decode cJ6_bitCount_0f7a4 0 = .ok (.iload_n 0, 1) := by decide +kernel
theorem dJ6_bitCount_0f7a4_1 : decode cJ6_bitCount_0f7a4 1 = .ok (.iload_n 0, 1) := by decide +kernel
theorem dJ6_bitCount_0f7a4_2 : decode cJ6_bitCount_0f7a4 2 = .ok (.iconst 1, 1) := by decide +kernel
theorem dJ6_bitCount_0f7a4_3 : decode cJ6_bitCount_0f7a4 3 = .ok (.iushr, 1) := by decide +kernel
theorem dJ6_bitCount_0f7a4_4 : decode cJ6_bitCount_0f7a4 4 = .ok (.ldc_w 265, 3) := by decide +kernel
theorem dJ6_bitCount_0f7a4_7 : decode cJ6_bitCount_0f7a4 7 = .ok (.iand, 1) := by decide +kernel
theorem dJ6_bitCount_0f7a4_8 : decode cJ6_bitCount_0f7a4 8 = .ok (.isub, 1) := by decide +kernel
theorem dJ6_bitCount_0f7a4_9 : decode cJ6_bitCount_0f7a4 9 = .ok (.istore_n 0, 1) := by decide +kernel
theorem dJ6_bitCount_0f7a4_10 : decode cJ6_bitCount_0f7a4 10 = .ok (.iload_n 0, 1) := by decide +kernel
theorem dJ6_bitCount_0f7a4_11 : decode cJ6_bitCount_0f7a4 11 = .ok (.ldc_w 266, 3) := by decide +kernel
theorem dJ6_bitCount_0f7a4_14 : decode cJ6_bitCount_0f7a4 14 = .ok (.iand, 1) := by decide +kernel
theorem dJ6_bitCount_0f7a4_15 : decode cJ6_bitCount_0f7a4 15 = .ok (.iload_n 0, 1) := by decide +kernel
theorem dJ6_bitCount_0f7a4_16 : decode cJ6_bitCount_0f7a4 16 = .ok (.iconst 2, 1) := by decide +kernel
theorem dJ6_bitCount_0f7a4_17 : decode cJ6_bitCount_0f7a4 17 = .ok (.iushr, 1) := by decide +kernel
theorem dJ6_bitCount_0f7a4_18 : decode cJ6_bitCount_0f7a4 18 = .ok (.ldc_w 266, 3) := by decide +kernel
theorem dJ6_bitCount_0f7a4_21 : decode cJ6_bitCount_0f7a4 21 = .ok (.iand, 1) := by decide +kernel
theorem dJ6_bitCount_0f7a4_22 : decode cJ6_bitCount_0f7a4 22 = .ok (.iadd, 1) := by decide +kernel
theorem dJ6_bitCount_0f7a4_23 : decode cJ6_bitCount_0f7a4 23 = .ok (.istore_n 0, 1) := by decide +kernel
theorem dJ6_bitCount_0f7a4_24 : decode cJ6_bitCount_0f7a4 24 = .ok (.iload_n 0, 1) := by decide +kernel
theorem dJ6_bitCount_0f7a4_25 : decode cJ6_bitCount_0f7a4 25 = .ok (.iload_n 0, 1) := by decide +kernel
theorem dJ6_bitCount_0f7a4_26 : decode cJ6_bitCount_0f7a4 26 = .ok (.iconst 4, 1) := by decide +kernel
theorem dJ6_bitCount_0f7a4_27 : decode cJ6_bitCount_0f7a4 27 = .ok (.iushr, 1) := by decide +kernel
theorem dJ6_bitCount_0f7a4_28 : decode cJ6_bitCount_0f7a4 28 = .ok (.iadd, 1) := by decide +kernel
theorem dJ6_bitCount_0f7a4_29 : decode cJ6_bitCount_0f7a4 29 = .ok (.ldc_w 267, 3) := by decide +kernel
theorem dJ6_bitCount_0f7a4_32 : decode cJ6_bitCount_0f7a4 32 = .ok (.iand, 1) := by decide +kernel
theorem dJ6_bitCount_0f7a4_33 : decode cJ6_bitCount_0f7a4 33 = .ok (.istore_n 0, 1) := by decide +kernel
theorem dJ6_bitCount_0f7a4_34 : decode cJ6_bitCount_0f7a4 34 = .ok (.iload_n 0, 1) := by decide +kernel
theorem dJ6_bitCount_0f7a4_35 : decode cJ6_bitCount_0f7a4 35 = .ok (.iload_n 0, 1) := by decide +kernel
theorem dJ6_bitCount_0f7a4_36 : decode cJ6_bitCount_0f7a4 36 = .ok (.bipush 8, 2) := by decide +kernel
theorem dJ6_bitCount_0f7a4_38 : decode cJ6_bitCount_0f7a4 38 = .ok (.iushr, 1) := by decide +kernel
theorem dJ6_bitCount_0f7a4_39 : decode cJ6_bitCount_0f7a4 39 = .ok (.iadd, 1) := by decide +kernel
theorem dJ6_bitCount_0f7a4_40 : decode cJ6_bitCount_0f7a4 40 = .ok (.istore_n 0, 1) := by decide +kernel
theorem dJ6_bitCount_0f7a4_41 : decode cJ6_bitCount_0f7a4 41 = .ok (.iload_n 0, 1) := by decide +kernel
theorem dJ6_bitCount_0f7a4_42 : decode cJ6_bitCount_0f7a4 42 = .ok (.iload_n 0, 1) := by decide +kernel
theorem dJ6_bitCount_0f7a4_43 : decode cJ6_bitCount_0f7a4 43 = .ok (.bipush 16, 2) := by decide +kernel
theorem dJ6_bitCount_0f7a4_45 : decode cJ6_bitCount_0f7a4 45 = .ok (.iushr, 1) := by decide +kernel
theorem dJ6_bitCount_0f7a4_46 : decode cJ6_bitCount_0f7a4 46 = .ok (.iadd, 1) := by decide +kernel
theorem dJ6_bitCount_0f7a4_47 : decode cJ6_bitCount_0f7a4 47 = .ok (.istore_n 0, 1) := by decide +kernel
theorem dJ6_bitCount_0f7a4_48 : decode cJ6_bitCount_0f7a4 48 = .ok (.iload_n 0, 1) := by decide +kernel
theorem dJ6_bitCount_0f7a4_49 : decode cJ6_bitCount_0f7a4 49 = .ok (.bipush 63, 2) := by decide +kernel
theorem dJ6_bitCount_0f7a4_51 : decode cJ6_bitCount_0f7a4 51 = .ok (.iand, 1) := by decide +kernel
theorem dJ6_bitCount_0f7a4_52 : decode cJ6_bitCount_0f7a4 52 = .ok (.ireturn, 1) := by decide +kernel
theorem dJ9_max_7cf53_0 : decode cJ9_max_7cf53 0 = .ok (.iload_n 0, 1) := by decide +kernel
theorem dJ9_max_7cf53_1 : decode cJ9_max_7cf53 1 = .ok (.iload_n 1, 1) := by decide +kernel
theorem dJ9_max_7cf53_2 : decode cJ9_max_7cf53 2 = .ok (.if_icmp .lt 7, 3) := by decide +kernel
theorem dJ9_max_7cf53_5 : decode cJ9_max_7cf53 5 = .ok (.iload_n 0, 1) := by decide +kernel
theorem dJ9_max_7cf53_6 : decode cJ9_max_7cf53 6 = .ok (.goto 4, 3) := by decide +kernel
theorem dJ9_max_7cf53_9 : decode cJ9_max_7cf53 9 = .ok (.iload_n 1, 1) := by decide +kernel
theorem dJ9_max_7cf53_10 : decode cJ9_max_7cf53 10 = .ok (.ireturn, 1) := by decide +kernel
theorem dJ9_min_7cf53_0 : decode cJ9_min_7cf53 0 = .ok (.iload_n 0, 1) := by decide +kernel
theorem dJ9_min_7cf53_1 : decode cJ9_min_7cf53 1 = .ok (.iload_n 1, 1) := by decide +kernel
theorem dJ9_min_7cf53_2 : decode cJ9_min_7cf53 2 = .ok (.if_icmp .gt 7, 3) := by decide +kernel
theorem dJ9_min_7cf53_5 : decode cJ9_min_7cf53 5 = .ok (.iload_n 0, 1) := by decide +kernel
theorem dJ9_min_7cf53_6 : decode cJ9_min_7cf53 6 = .ok (.goto 4, 3) := by decide +kernel
theorem dJ9_min_7cf53_9 : decode cJ9_min_7cf53 9 = .ok (.iload_n 1, 1) := by decide +kernel
theorem dJ9_min_7cf53_10 : decode cJ9_min_7cf53 10 = .ok (.ireturn, 1) := by decide +kernel
theorem dJ0_init_81219_0 : decode cJ0_init_81219 0 = .ok (.aload_n 0, 1) := by decide +kernel
theorem dJ0_init_81219_1 : decode cJ0_init_81219 1 = .ok (.aload_n 1, 1) := by decide +kernel
theorem dJ0_init_81219_2 : decode cJ0_init_81219 2 = .ok (.aconst_null, 1) := by decide +kernel
theorem dJ0_init_81219_3 : decode cJ0_init_81219 3 = .ok (.invokespecial 489, 3) := by decide +kernel
theorem dJ0_init_81219_6 : decode cJ0_init_81219 6 = .ok (.return_, 1) := by decide +kernel
theorem dJ0_length_8abf5_0 : decode cJ0_length_8abf5 0 = .ok (.aload_n 0, 1) := by decide +kernel
theorem dJ0_length_8abf5_1 : decode cJ0_length_8abf5 1 = .ok (.getfield 9, 3) := by decide +kernel
theorem dJ0_length_8abf5_4 : decode cJ0_length_8abf5 4 = .ok (.arraylength, 1) := by decide +kernel
theorem dJ0_length_8abf5_5 : decode cJ0_length_8abf5 5 = .ok (.aload_n 0, 1) := by decide +kernel
theorem dJ0_length_8abf5_6 : decode cJ0_length_8abf5 6 = .ok (.invokevirtual 335, 3) := by decide +kernel
theorem dJ0_length_8abf5_9 : decode cJ0_length_8abf5 9 = .ok (.ishr, 1) := by decide +kernel
theorem dJ0_length_8abf5_10 : decode cJ0_length_8abf5 10 = .ok (.ireturn, 1) := by decide +kernel
theorem dJ0_charAt_5068e_0 : decode cJ0_charAt_5068e 0 = .ok (.aload_n 0, 1) := by decide +kernel
theorem dJ0_charAt_5068e_1 : decode cJ0_charAt_5068e 1 = .ok (.invokevirtual 492, 3) := by decide +kernel
theorem dJ0_charAt_5068e_4 : decode cJ0_charAt_5068e 4 = .ok (.ifCond .eq 12, 3) := by decide +kernel
theorem dJ0_charAt_5068e_7 : decode cJ0_charAt_5068e 7 = .ok (.aload_n 0, 1) := by decide +kernel
theorem dJ0_charAt_5068e_8 : decode cJ0_charAt_5068e 8 = .ok (.getfield 9, 3) := by decide +kernel
theorem dJ0_charAt_5068e_11 : decode cJ0_charAt_5068e 11 = .ok (.iload_n 1, 1) := by decide +kernel
theorem dJ0_charAt_5068e_12 : decode cJ0_charAt_5068e 12 = .ok (.invokestatic 495, 3) := by decide +kernel
theorem dJ0_charAt_5068e_15 : decode cJ0_charAt_5068e 15 = .ok (.ireturn, 1) := by decide +kernel
theorem dJ0_charAt_5068e_16 : decode cJ0_charAt_5068e 16 = .ok (.aload_n 0, 1) := by decide +kernel
theorem dJ0_charAt_5068e_17 : decode cJ0_charAt_5068e 17 = .ok (.getfield 9, 3) := by decide +kernel
theorem dJ0_charAt_5068e_20 : decode cJ0_charAt_5068e 20 = .ok (.iload_n 1, 1) := by decide +kernel
theorem dJ0_charAt_5068e_21 : decode cJ0_charAt_5068e 21 = .ok (.invokestatic 498, 3) := by decide +kernel
theorem dJ0_charAt_5068e_24 : decode cJ0_charAt_5068e 24 = .ok (.ireturn, 1) := by decide +kernel
theorem dJ0_getBytes_840e7_0 : decode cJ0_getBytes_840e7 0 = .ok (.aload_n 0, 1) := by decide +kernel
theorem dJ0_getBytes_840e7_1 : decode cJ0_getBytes_840e7 1 = .ok (.invokevirtual 335, 3) := by decide +kernel
theorem dJ0_getBytes_840e7_4 : decode cJ0_getBytes_840e7 4 = .ok (.iload_n 3, 1) := by decide +kernel
theorem dJ0_getBytes_840e7_5 : decode cJ0_getBytes_840e7 5 = .ok (.if_icmp .ne 23, 3) := by decide +kernel
theorem dJ0_getBytes_840e7_8 : decode cJ0_getBytes_840e7 8 = .ok (.aload_n 0, 1) := by decide +kernel
theorem dJ0_getBytes_840e7_9 : decode cJ0_getBytes_840e7 9 = .ok (.getfield 9, 3) := by decide +kernel
theorem dJ0_getBytes_840e7_12 : decode cJ0_getBytes_840e7 12 = .ok (.iconst 0, 1) := by decide +kernel
theorem dJ0_getBytes_840e7_13 : decode cJ0_getBytes_840e7 13 = .ok (.aload_n 1, 1) := by decide +kernel
theorem dJ0_getBytes_840e7_14 : decode cJ0_getBytes_840e7 14 = .ok (.iload_n 2, 1) := by decide +kernel
theorem dJ0_getBytes_840e7_15 : decode cJ0_getBytes_840e7 15 = .ok (.iload_n 3, 1) := by decide +kernel
theorem dJ0_getBytes_840e7_16 : decode cJ0_getBytes_840e7 16 = .ok (.ishl, 1) := by decide +kernel
theorem dJ0_getBytes_840e7_17 : decode cJ0_getBytes_840e7 17 = .ok (.aload_n 0, 1) := by decide +kernel
theorem dJ0_getBytes_840e7_18 : decode cJ0_getBytes_840e7 18 = .ok (.getfield 9, 3) := by decide +kernel
theorem dJ0_getBytes_840e7_21 : decode cJ0_getBytes_840e7 21 = .ok (.arraylength, 1) := by decide +kernel
theorem dJ0_getBytes_840e7_22 : decode cJ0_getBytes_840e7 22 = .ok (.invokestatic 212, 3) := by decide +kernel
theorem dJ0_getBytes_840e7_25 : decode cJ0_getBytes_840e7 25 = .ok (.goto 18, 3) := by decide +kernel
theorem dJ0_getBytes_840e7_28 : decode cJ0_getBytes_840e7 28 = .ok (.aload_n 0, 1) := by decide +kernel
theorem dJ0_getBytes_840e7_29 : decode cJ0_getBytes_840e7 29 = .ok (.getfield 9, 3) := by decide +kernel
theorem dJ0_getBytes_840e7_32 : decode cJ0_getBytes_840e7 32 = .ok (.iconst 0, 1) := by decide +kernel
theorem dJ0_getBytes_840e7_33 : decode cJ0_getBytes_840e7 33 = .ok (.aload_n 1, 1) := by decide +kernel
theorem dJ0_getBytes_840e7_34 : decode cJ0_getBytes_840e7 34 = .ok (.iload_n 2, 1) := by decide +kernel
theorem dJ0_getBytes_840e7_35 : decode cJ0_getBytes_840e7 35 = .ok (.aload_n 0, 1) := by decide +kernel
theorem dJ0_getBytes_840e7_36 : decode cJ0_getBytes_840e7 36 = .ok (.getfield 9, 3) := by decide +kernel
theorem dJ0_getBytes_840e7_39 : decode cJ0_getBytes_840e7 39 = .ok (.arraylength, 1) := by decide +kernel
theorem dJ0_getBytes_840e7_40 : decode cJ0_getBytes_840e7 40 = .ok (.invokestatic 106, 3) := by decide +kernel
theorem dJ0_getBytes_840e7_43 : decode cJ0_getBytes_840e7 43 = .ok (.return_, 1) := by decide +kernel
theorem dJ0_init_db425_0 : decode cJ0_init_db425 0 = .ok (.aload_n 0, 1) := by decide +kernel
theorem dJ0_init_db425_1 : decode cJ0_init_db425 1 = .ok (.invokespecial 1, 3) := by decide +kernel
theorem dJ0_init_db425_4 : decode cJ0_init_db425 4 = .ok (.aload_n 1, 1) := by decide +kernel
theorem dJ0_init_db425_5 : decode cJ0_init_db425 5 = .ok (.invokevirtual 552, 3) := by decide +kernel
theorem dJ0_init_db425_8 : decode cJ0_init_db425 8 = .ok (.astore_n 3, 1) := by decide +kernel
theorem dJ0_init_db425_9 : decode cJ0_init_db425 9 = .ok (.aload_n 1, 1) := by decide +kernel
theorem dJ0_init_db425_10 : decode cJ0_init_db425 10 = .ok (.invokevirtual 549, 3) := by decide +kernel
theorem dJ0_init_db425_13 : decode cJ0_init_db425 13 = .ok (.istore 4, 2) := by decide +kernel
theorem dJ0_init_db425_15 : decode cJ0_init_db425 15 = .ok (.aload_n 1, 1) := by decide +kernel
theorem dJ0_init_db425_16 : decode cJ0_init_db425 16 = .ok (.invokevirtual 1047, 3) := by decide +kernel
theorem dJ0_init_db425_19 : decode cJ0_init_db425 19 = .ok (.ifCond .eq 22, 3) := by decide +kernel
theorem dJ0_init_db425_22 : decode cJ0_init_db425 22 = .ok (.aload_n 0, 1) := by decide +kernel
theorem dJ0_init_db425_23 : decode cJ0_init_db425 23 = .ok (.iconst 0, 1) := by decide +kernel
theorem dJ0_init_db425_24 : decode cJ0_init_db425 24 = .ok (.putfield 15, 3) := by decide +kernel
theorem dJ0_init_db425_27 : decode cJ0_init_db425 27 = .ok (.aload_n 0, 1) := by decide +kernel
theorem dJ0_init_db425_28 : decode cJ0_init_db425 28 = .ok (.aload_n 3, 1) := by decide +kernel
theorem dJ0_init_db425_29 : decode cJ0_init_db425 29 = .ok (.iconst 0, 1) := by decide +kernel
theorem dJ0_init_db425_30 : decode cJ0_init_db425 30 = .ok (.iload 4, 2) := by decide +kernel
theorem dJ0_init_db425_32 : decode cJ0_init_db425 32 = .ok (.invokestatic 54, 3) := by decide +kernel
theorem dJ0_init_db425_35 : decode cJ0_init_db425 35 = .ok (.putfield 9, 3) := by decide +kernel
theorem dJ0_init_db425_38 : decode cJ0_init_db425 38 = .ok (.goto 59, 3) := by decide +kernel
theorem dJ0_init_db425_41 : decode cJ0_init_db425 41 = .ok (.getstatic 38, 3) := by decide +kernel
theorem dJ0_init_db425_44 : decode cJ0_init_db425 44 = .ok (.ifCond .eq 35, 3) := by decide +kernel
theorem dJ0_init_db425_47 : decode cJ0_init_db425 47 = .ok (.aload_n 1, 1) := by decide +kernel
theorem dJ0_init_db425_48 : decode cJ0_init_db425 48 = .ok (.getfield 1048, 3) := by decide +kernel
theorem dJ0_init_db425_51 : decode cJ0_init_db425 51 = .ok (.ifCond .eq 28, 3) := by decide +kernel
theorem dJ0_init_db425_54 : decode cJ0_init_db425 54 = .ok (.aload_n 0, 1) := by decide +kernel
theorem dJ0_init_db425_55 : decode cJ0_init_db425 55 = .ok (.aload_n 3, 1) := by decide +kernel
theorem dJ0_init_db425_56 : decode cJ0_init_db425 56 = .ok (.iconst 0, 1) := by decide +kernel
theorem dJ0_init_db425_57 : decode cJ0_init_db425 57 = .ok (.iload 4, 2) := by decide +kernel
theorem dJ0_init_db425_59 : decode cJ0_init_db425 59 = .ok (.invokestatic 1051, 3) := by decide +kernel
theorem dJ0_init_db425_62 : decode cJ0_init_db425 62 = .ok (.putfield 9, 3) := by decide +kernel
theorem dJ0_init_db425_65 : decode cJ0_init_db425 65 = .ok (.aload_n 0, 1) := by decide +kernel
theorem dJ0_init_db425_66 : decode cJ0_init_db425 66 = .ok (.aload_n 0, 1) := by decide +kernel
theorem dJ0_init_db425_67 : decode cJ0_init_db425 67 = .ok (.getfield 9, 3) := by decide +kernel
theorem dJ0_init_db425_70 : decode cJ0_init_db425 70 = .ok (.iload 4, 2) := by decide +kernel
theorem dJ0_init_db425_72 : decode cJ0_init_db425 72 = .ok (.invokestatic 47, 3) := by decide +kernel
theorem dJ0_init_db425_75 : decode cJ0_init_db425 75 = .ok (.putfield 15, 3) := by decide +kernel
theorem dJ0_init_db425_78 : decode cJ0_init_db425 78 = .ok (.return_, 1) := by decide +kernel
theorem dJ0_init_db425_79 : decode cJ0_init_db425 79 = .ok (.aload_n 0, 1) := by decide +kernel
theorem dJ0_init_db425_80 : decode cJ0_init_db425 80 = .ok (.iconst 1, 1) := by decide +kernel
theorem dJ0_init_db425_81 : decode cJ0_init_db425 81 = .ok (.putfield 15, 3) := by decide +kernel
theorem dJ0_init_db425_84 : decode cJ0_init_db425 84 = .ok (.aload_n 0, 1) := by decide +kernel
theorem dJ0_init_db425_85 : decode cJ0_init_db425 85 = .ok (.aload_n 3, 1) := by decide +kernel
theorem dJ0_init_db425_86 : decode cJ0_init_db425 86 = .ok (.iconst 0, 1) := by decide +kernel
theorem dJ0_init_db425_87 : decode cJ0_init_db425 87 = .ok (.iload 4, 2) := by decide +kernel
theorem dJ0_init_db425_89 : decode cJ0_init_db425 89 = .ok (.iconst 1, 1) := by decide +kernel
theorem dJ0_init_db425_90 : decode cJ0_init_db425 90 = .ok (.ishl, 1) := by decide +kernel
theorem dJ0_init_db425_91 : decode cJ0_init_db425 91 = .ok (.invokestatic 54, 3) := by decide +kernel
theorem dJ0_init_db425_94 : decode cJ0_init_db425 94 = .ok (.putfield 9, 3) := by decide +kernel
theorem dJ0_init_db425_97 : decode cJ0_init_db425 97 = .ok (.return_, 1) := by decide +kernel
theorem dJ0_coder_7d493_0 : decode cJ0_coder_7d493 0 = .ok (.getstatic 38, 3) := by decide +kernel
theorem dJ0_coder_7d493_3 : decode cJ0_coder_7d493 3 = .ok (.ifCond .eq 10, 3) := by decide +kernel
theorem dJ0_coder_7d493_6 : decode cJ0_coder_7d493 6 = .ok (.aload_n 0, 1) := by decide +kernel
theorem dJ0_coder_7d493_7 : decode cJ0_coder_7d493 7 = .ok (.getfield 15, 3) := by decide +kernel
theorem dJ0_coder_7d493_10 : decode cJ0_coder_7d493 10 = .ok (.goto 4, 3) := by decide +kernel
theorem dJ0_coder_7d493_13 : decode cJ0_coder_7d493 13 = .ok (.iconst 1, 1) := by decide +kernel
theorem dJ0_coder_7d493_14 : decode cJ0_coder_7d493 14 = .ok (.ireturn, 1) := by decide +kernel
theorem dJ0_isLatin1_aae02_0 : decode cJ0_isLatin1_aae02 0 = .ok (.getstatic 38, 3) := by decide +kernel
theorem dJ0_isLatin1_aae02_3 : decode cJ0_isLatin1_aae02 3 = .ok (.ifCond .eq 14, 3) := by decide +kernel
theorem dJ0_isLatin1_aae02_6 : decode cJ0_isLatin1_aae02 6 = .ok (.aload_n 0, 1) := by decide +kernel
theorem dJ0_isLatin1_aae02_7 : decode cJ0_isLatin1_aae02 7 = .ok (.getfield 15, 3) := by decide +kernel
theorem dJ0_isLatin1_aae02_10 : decode cJ0_isLatin1_aae02 10 = .ok (.ifCond .ne 7, 3) := by decide +kernel
theorem dJ0_isLatin1_aae02_13 : decode cJ0_isLatin1_aae02 13 = .ok (.iconst 1, 1) := by decide +kernel
theorem dJ0_isLatin1_aae02_14 : decode cJ0_isLatin1_aae02 14 = .ok (.goto 4, 3) := by decide +kernel
theorem dJ0_isLatin1_aae02_17 : decode cJ0_isLatin1_aae02 17 = .ok (.iconst 0, 1) := by decide +kernel
theorem dJ0_isLatin1_aae02_18 : decode cJ0_isLatin1_aae02 18 = .ok (.ireturn, 1) := by decide +kernel
theorem dJ0_checkIndex_df160_0 : decode cJ0_checkIndex_df160 0 = .ok (.iload_n 0, 1) := by decide +kernel
theorem dJ0_checkIndex_df160_1 : decode cJ0_checkIndex_df160 1 = .ok (.iload_n 1, 1) := by decide +kernel
theorem dJ0_checkIndex_df160_2 : decode cJ0_checkIndex_df160 2 = .ok (.getstatic 1053, 3) := by decide +kernel
theorem dJ0_checkIndex_df160_5 : decode cJ0_checkIndex_df160 5 = .ok (.invokestatic 1059, 3) := by decide +kernel
theorem dJ0_checkIndex_df160_8 : decode cJ0_checkIndex_df160 8 = .ok (.pop, 1) := by decide +kernel
theorem dJ0_checkIndex_df160_9 : decode cJ0_checkIndex_df160 9 = .ok (.return_, 1) := by decide +kernel
theorem dJ0_checkBoundsOffCount_cabcc_0 : decode cJ0_checkBoundsOffCount_cabcc 0 = .ok (.iload_n 0, 1) := by decide +kernel
theorem dJ0_checkBoundsOffCount_cabcc_1 : decode cJ0_checkBoundsOffCount_cabcc 1 = .ok (.iload_n 1, 1) := by decide +kernel
theorem dJ0_checkBoundsOffCount_cabcc_2 : decode cJ0_checkBoundsOffCount_cabcc 2 = .ok (.iload_n 2, 1) := by decide +kernel
theorem dJ0_checkBoundsOffCount_cabcc_3 : decode cJ0_checkBoundsOffCount_cabcc 3 = .ok (.getstatic 1053, 3) := by decide +kernel
theorem dJ0_checkBoundsOffCount_cabcc_6 : decode cJ0_checkBoundsOffCount_cabcc 6 = .ok (.invokestatic 1065, 3) := by decide +kernel
theorem dJ0_checkBoundsOffCount_cabcc_9 : decode cJ0_checkBoundsOffCount_cabcc 9 = .ok (.ireturn, 1) := by decide +kernel
theorem dJ0_checkBoundsBeginEnd_23922_0 : decode cJ0_checkBoundsBeginEnd_23922 0 = .ok (.iload_n 0, 1) := by decide +kernel
theorem dJ0_checkBoundsBeginEnd_23922_1 : decode cJ0_checkBoundsBeginEnd_23922 1 = .ok (.iload_n 1, 1) := by decide +kernel
theorem dJ0_checkBoundsBeginEnd_23922_2 : decode cJ0_checkBoundsBeginEnd_23922 2 = .ok (.iload_n 2, 1) := by decide +kernel
theorem dJ0_checkBoundsBeginEnd_23922_3 : decode cJ0_checkBoundsBeginEnd_23922 3 = .ok (.getstatic 1053, 3) := by decide +kernel
theorem dJ0_checkBoundsBeginEnd_23922_6 : decode cJ0_checkBoundsBeginEnd_23922 6 = .ok (.invokestatic 1062, 3) := by decide +kernel
theorem dJ0_checkBoundsBeginEnd_23922_9 : decode cJ0_checkBoundsBeginEnd_23922 9 = .ok (.pop, 1) := by decide +kernel
theorem dJ0_checkBoundsBeginEnd_23922_10 : decode cJ0_checkBoundsBeginEnd_23922 10 = .ok (.return_, 1) := by decide +kernel
theorem dJ4_init_da8c8_0 : decode cJ4_init_da8c8 0 = .ok (.aload_n 0, 1) := by decide +kernel
theorem dJ4_init_da8c8_1 : decode cJ4_init_da8c8 1 = .ok (.bipush 16, 2) := by decide +kernel
theorem dJ4_init_da8c8_3 : decode cJ4_init_da8c8 3 = .ok (.invokespecial 1, 3) := by decide +kernel
theorem dJ4_init_da8c8_6 : decode cJ4_init_da8c8 6 = .ok (.return_, 1) := by decide +kernel
theorem dJ4_append_15ec4_0 : decode cJ4_append_15ec4 0 = .ok (.aload_n 0, 1) := by decide +kernel
theorem dJ4_append_15ec4_1 : decode cJ4_append_15ec4 1 = .ok (.aload_n 1, 1) := by decide +kernel
theorem dJ4_append_15ec4_2 : decode cJ4_append_15ec4 2 = .ok (.invokespecial 29, 3) := by decide +kernel
theorem dJ4_append_15ec4_5 : decode cJ4_append_15ec4 5 = .ok (.pop, 1) := by decide +kernel
theorem dJ4_append_15ec4_6 : decode cJ4_append_15ec4 6 = .ok (.aload_n 0, 1) := by decide +kernel
theorem dJ4_append_15ec4_7 : decode cJ4_append_15ec4 7 = .ok (.areturn, 1) := by decide +kernel
theorem dJ4_append_cf468_0 : decode cJ4_append_cf468 0 = .ok (.aload_n 0, 1) := by decide +kernel
theorem dJ4_append_cf468_1 : decode cJ4_append_cf468 1 = .ok (.iload_n 1, 1) := by decide +kernel
theorem dJ4_append_cf468_2 : decode cJ4_append_cf468 2 = .ok (.invokespecial 50, 3) := by decide +kernel
theorem dJ4_append_cf468_5 : decode cJ4_append_cf468 5 = .ok (.pop, 1) := by decide +kernel
theorem dJ4_append_cf468_6 : decode cJ4_append_cf468 6 = .ok (.aload_n 0, 1) := by decide +kernel
theorem dJ4_append_cf468_7 : decode cJ4_append_cf468 7 = .ok (.areturn, 1) := by decide +kernel
theorem dJ4_append_bf812_0 : decode cJ4_append_bf812 0 = .ok (.aload_n 0, 1) := by decide +kernel
theorem dJ4_append_bf812_1 : decode cJ4_append_bf812 1 = .ok (.iload_n 1, 1) := by decide +kernel
theorem dJ4_append_bf812_2 : decode cJ4_append_bf812 2 = .ok (.invokespecial 53, 3) := by decide +kernel
theorem dJ4_append_bf812_5 : decode cJ4_append_bf812 5 = .ok (.pop, 1) := by decide +kernel
theorem dJ4_append_bf812_6 : decode cJ4_append_bf812 6 = .ok (.aload_n 0, 1) := by decide +kernel
theorem dJ4_append_bf812_7 : decode cJ4_append_bf812 7 = .ok (.areturn, 1) := by decide +kernel
theorem dJ4_toString_0e30d_0 : decode cJ4_toString_0e30d 0 = .ok (.new 18, 3) := by decide +kernel
theorem dJ4_toString_0e30d_3 : decode cJ4_toString_0e30d 3 = .ok (.dup, 1) := by decide +kernel
theorem dJ4_toString_0e30d_4 : decode cJ4_toString_0e30d 4 = .ok (.aload_n 0, 1) := by decide +kernel
theorem dJ4_toString_0e30d_5 : decode cJ4_toString_0e30d 5 = .ok (.invokespecial 137, 3) := by decide +kernel
theorem dJ4_toString_0e30d_8 : decode cJ4_toString_0e30d 8 = .ok (.areturn, 1) := by decide +kernel
theorem dJ4_length_8abf5_0 : decode cJ4_length_8abf5 0 = .ok (.aload_n 0, 1) := by decide +kernel
theorem dJ4_length_8abf5_1 : decode cJ4_length_8abf5 1 = .ok (.invokespecial 343, 3) := by decide +kernel
theorem dJ4_length_8abf5_4 : decode cJ4_length_8abf5 4 = .ok (.ireturn, 1) := by decide +kernel
theorem dJ1_charAt_3b067_0 : decode cJ1_charAt_3b067 0 = .ok (.iload_n 1, 1) := by decide +kernel
theorem dJ1_charAt_3b067_1 : decode cJ1_charAt_3b067 1 = .ok (.aload_n 0, 1) := by decide +kernel
theorem dJ1_charAt_3b067_2 : decode cJ1_charAt_3b067 2 = .ok (.arraylength, 1) := by decide +kernel
theorem dJ1_charAt_3b067_3 : decode cJ1_charAt_3b067 3 = .ok (.invokestatic 9, 3) := by decide +kernel
theorem dJ1_charAt_3b067_6 : decode cJ1_charAt_3b067 6 = .ok (.aload_n 0, 1) := by decide +kernel
theorem dJ1_charAt_3b067_7 : decode cJ1_charAt_3b067 7 = .ok (.iload_n 1, 1) := by decide +kernel
theorem dJ1_charAt_3b067_8 : decode cJ1_charAt_3b067 8 = .ok (.baload, 1) := by decide +kernel
theorem dJ1_charAt_3b067_9 : decode cJ1_charAt_3b067 9 = .ok (.sipush 255, 3) := by decide +kernel
theorem dJ1_charAt_3b067_12 : decode cJ1_charAt_3b067 12 = .ok (.iand, 1) := by decide +kernel
theorem dJ1_charAt_3b067_13 : decode cJ1_charAt_3b067 13 = .ok (.i2c, 1) := by decide +kernel
theorem dJ1_charAt_3b067_14 : decode cJ1_charAt_3b067 14 = .ok (.ireturn, 1) := by decide +kernel
theorem dJ1_canEncode_fc78d_0 : decode cJ1_canEncode_fc78d 0 = .ok (.iload_n 0, 1) := by decide +kernel
theorem dJ1_canEncode_fc78d_1 : decode cJ1_canEncode_fc78d 1 = .ok (.sipush 255, 3) := by decide +kernel
theorem dJ1_canEncode_fc78d_4 : decode cJ1_canEncode_fc78d 4 = .ok (.if_icmp .gt 7, 3) := by decide +kernel
theorem dJ1_canEncode_fc78d_7 : decode cJ1_canEncode_fc78d 7 = .ok (.iconst 1, 1) := by decide +kernel
theorem dJ1_canEncode_fc78d_8 : decode cJ1_canEncode_fc78d 8 = .ok (.goto 4, 3) := by decide +kernel
theorem dJ1_canEncode_fc78d_11 : decode cJ1_canEncode_fc78d 11 = .ok (.iconst 0, 1) := by decide +kernel
theorem dJ1_canEncode_fc78d_12 : decode cJ1_canEncode_fc78d 12 = .ok (.ireturn, 1) := by decide +kernel
theorem dJ1_inflate_0e8fd_0 : decode cJ1_inflate_0e8fd 0 = .ok (.aload_n 0, 1) := by decide +kernel
theorem dJ1_inflate_0e8fd_1 : decode cJ1_inflate_0e8fd 1 = .ok (.iload_n 1, 1) := by decide +kernel
theorem dJ1_inflate_0e8fd_2 : decode cJ1_inflate_0e8fd 2 = .ok (.aload_n 2, 1) := by decide +kernel
theorem dJ1_inflate_0e8fd_3 : decode cJ1_inflate_0e8fd 3 = .ok (.iload_n 3, 1) := by decide +kernel
theorem dJ1_inflate_0e8fd_4 : decode cJ1_inflate_0e8fd 4 = .ok (.iload 4, 2) := by decide +kernel
theorem dJ1_inflate_0e8fd_6 : decode cJ1_inflate_0e8fd 6 = .ok (.invokestatic 240, 3) := by decide +kernel
theorem dJ1_inflate_0e8fd_9 : decode cJ1_inflate_0e8fd 9 = .ok (.return_, 1) := by decide +kernel
theorem dJ2_newBytesFor_77867_0 : decode cJ2_newBytesFor_77867 0 = .ok (.iload_n 0, 1) := by decide +kernel
theorem dJ2_newBytesFor_77867_1 : decode cJ2_newBytesFor_77867 1 = .ok (.invokestatic 11, 3) := by decide +kernel
theorem dJ2_newBytesFor_77867_4 : decode cJ2_newBytesFor_77867 4 = .ok (.newarray .byte, 2) := by decide +kernel
theorem dJ2_newBytesFor_77867_6 : decode cJ2_newBytesFor_77867 6 = .ok (.areturn, 1) := by decide +kernel
theorem dJ2_newBytesLength_0f7a4_0 : decode cJ2_newBytesLength_0f7a4 0 = .ok (.iload_n 0, 1) := by decide +kernel
theorem dJ2_newBytesLength_0f7a4_1 : decode cJ2_newBytesLength_0f7a4 1 = .ok (.ifCond .ge 11, 3) := by decide +kernel
theorem dJ2_newBytesLength_0f7a4_4 : decode cJ2_newBytesLength_0f7a4 4 = .ok (.new 17, 3) := by decide +kernel
theorem dJ2_newBytesLength_0f7a4_7 : decode cJ2_newBytesLength_0f7a4 7 = .ok (.dup, 1) := by decide +kernel
theorem dJ2_newBytesLength_0f7a4_8 : decode cJ2_newBytesLength_0f7a4 8 = .ok (.invokespecial 19, 3) := by decide +kernel
theorem dJ2_newBytesLength_0f7a4_11 : decode cJ2_newBytesLength_0f7a4 11 = .ok (.athrow, 1) := by decide +kernel
theorem dJ2_newBytesLength_0f7a4_12 : decode cJ2_newBytesLength_0f7a4 12 = .ok (.iload_n 0, 1) := by decide +kernel
theorem dJ2_newBytesLength_0f7a4_13 : decode cJ2_newBytesLength_0f7a4 13 = .ok (.ldc 20, 2) := by decide +kernel
theorem dJ2_newBytesLength_0f7a4_15 : decode cJ2_newBytesLength_0f7a4 15 = .ok (.if_icmp .lt 40, 3) := by decide +kernel
theorem dJ2_newBytesLength_0f7a4_18 : decode cJ2_newBytesLength_0f7a4 18 = .ok (.new 21, 3) := by decide +kernel
theorem dJ2_newBytesLength_0f7a4_21 : decode cJ2_newBytesLength_0f7a4 21 = .ok (.dup, 1) := by decide +kernel
theorem dJ2_newBytesLength_0f7a4_22 : decode cJ2_newBytesLength_0f7a4 22 = .ok (.new 23, 3) := by decide +kernel
theorem dJ2_newBytesLength_0f7a4_25 : decode cJ2_newBytesLength_0f7a4 25 = .ok (.dup, 1) := by decide +kernel
theorem dJ2_newBytesLength_0f7a4_26 : decode cJ2_newBytesLength_0f7a4 26 = .ok (.invokespecial 25, 3) := by decide +kernel
theorem dJ2_newBytesLength_0f7a4_29 : decode cJ2_newBytesLength_0f7a4 29 = .ok (.ldc 26, 2) := by decide +kernel
theorem dJ2_newBytesLength_0f7a4_31 : decode cJ2_newBytesLength_0f7a4 31 = .ok (.invokevirtual 28, 3) := by decide +kernel
theorem dJ2_newBytesLength_0f7a4_34 : decode cJ2_newBytesLength_0f7a4 34 = .ok (.iload_n 0, 1) := by decide +kernel
theorem dJ2_newBytesLength_0f7a4_35 : decode cJ2_newBytesLength_0f7a4 35 = .ok (.invokevirtual 32, 3) := by decide +kernel
theorem dJ2_newBytesLength_0f7a4_38 : decode cJ2_newBytesLength_0f7a4 38 = .ok (.ldc 35, 2) := by decide +kernel
theorem dJ2_newBytesLength_0f7a4_40 : decode cJ2_newBytesLength_0f7a4 40 = .ok (.invokevirtual 28, 3) := by decide +kernel
theorem dJ2_newBytesLength_0f7a4_43 : decode cJ2_newBytesLength_0f7a4 43 = .ok (.ldc 20, 2) := by decide +kernel
theorem dJ2_newBytesLength_0f7a4_45 : decode cJ2_newBytesLength_0f7a4 45 = .ok (.invokevirtual 32, 3) := by decide +kernel
theorem dJ2_newBytesLength_0f7a4_48 : decode cJ2_newBytesLength_0f7a4 48 = .ok (.invokevirtual 37, 3) := by decide +kernel
theorem dJ2_newBytesLength_0f7a4_51 : decode cJ2_newBytesLength_0f7a4 51 = .ok (.invokespecial 41, 3) := by decide +kernel
theorem dJ2_newBytesLength_0f7a4_54 : decode cJ2_newBytesLength_0f7a4 54 = .ok (.athrow, 1) := by decide +kernel
theorem dJ2_newBytesLength_0f7a4_55 : decode cJ2_newBytesLength_0f7a4 55 = .ok (.iload_n 0, 1) := by decide +kernel
theorem dJ2_newBytesLength_0f7a4_56 : decode cJ2_newBytesLength_0f7a4 56 = .ok (.iconst 1, 1) := by decide +kernel
theorem dJ2_newBytesLength_0f7a4_57 : decode cJ2_newBytesLength_0f7a4 57 = .ok (.ishl, 1) := by decide +kernel
theorem dJ2_newBytesLength_0f7a4_58 : decode cJ2_newBytesLength_0f7a4 58 = .ok (.ireturn, 1) := by decide +kernel
theorem dJ2_putChar_b72d1_0 : decode cJ2_putChar_b72d1 0 = .ok (.getstatic 44, 3) := by decide +kernel
theorem dJ2_putChar_b72d1_3 : decode cJ2_putChar_b72d1 3 = .ok (.ifCond .ne 25, 3) := by decide +kernel
theorem dJ2_putChar_b72d1_6 : decode cJ2_putChar_b72d1 6 = .ok (.iload_n 1, 1) := by decide +kernel
theorem dJ2_putChar_b72d1_7 : decode cJ2_putChar_b72d1 7 = .ok (.ifCond .lt 11, 3) := by decide +kernel
theorem dJ2_putChar_b72d1_10 : decode cJ2_putChar_b72d1 10 = .ok (.iload_n 1, 1) := by decide +kernel
theorem dJ2_putChar_b72d1_11 : decode cJ2_putChar_b72d1 11 = .ok (.aload_n 0, 1) := by decide +kernel
theorem dJ2_putChar_b72d1_12 : decode cJ2_putChar_b72d1 12 = .ok (.invokestatic 48, 3) := by decide +kernel
theorem dJ2_putChar_b72d1_15 : decode cJ2_putChar_b72d1 15 = .ok (.if_icmp .lt 13, 3) := by decide +kernel
theorem dJ2_putChar_b72d1_18 : decode cJ2_putChar_b72d1 18 = .ok (.new 52, 3) := by decide +kernel
theorem dJ2_putChar_b72d1_21 : decode cJ2_putChar_b72d1 21 = .ok (.dup, 1) := by decide +kernel
theorem dJ2_putChar_b72d1_22 : decode cJ2_putChar_b72d1 22 = .ok (.ldc 54, 2) := by decide +kernel
theorem dJ2_putChar_b72d1_24 : decode cJ2_putChar_b72d1 24 = .ok (.invokespecial 56, 3) := by decide +kernel
theorem dJ2_putChar_b72d1_27 : decode cJ2_putChar_b72d1 27 = .ok (.athrow, 1) := by decide +kernel
theorem dJ2_putChar_b72d1_28 : decode cJ2_putChar_b72d1 28 = .ok (.iload_n 1, 1) := by decide +kernel
theorem dJ2_putChar_b72d1_29 : decode cJ2_putChar_b72d1 29 = .ok (.iconst 1, 1) := by decide +kernel
theorem dJ2_putChar_b72d1_30 : decode cJ2_putChar_b72d1 30 = .ok (.ishl, 1) := by decide +kernel
theorem dJ2_putChar_b72d1_31 : decode cJ2_putChar_b72d1 31 = .ok (.istore_n 1, 1) := by decide +kernel
theorem dJ2_putChar_b72d1_32 : decode cJ2_putChar_b72d1 32 = .ok (.aload_n 0, 1) := by decide +kernel
theorem dJ2_putChar_b72d1_33 : decode cJ2_putChar_b72d1 33 = .ok (.iload_n 1, 1) := by decide +kernel
theorem dJ2_putChar_b72d1_34 : decode cJ2_putChar_b72d1 34 = .ok (.iinc 1 1, 3) := by decide +kernel
theorem dJ2_putChar_b72d1_37 : decode cJ2_putChar_b72d1 37 = .ok (.iload_n 2, 1) := by decide +kernel
theorem dJ2_putChar_b72d1_38 : decode cJ2_putChar_b72d1 38 = .ok (.getstatic 59, 3) := by decide +kernel
theorem dJ2_putChar_b72d1_41 : decode cJ2_putChar_b72d1 41 = .ok (.ishr, 1) := by decide +kernel
theorem dJ2_putChar_b72d1_42 : decode cJ2_putChar_b72d1 42 = .ok (.i2b, 1) := by decide +kernel
theorem dJ2_putChar_b72d1_43 : decode cJ2_putChar_b72d1 43 = .ok (.bastore, 1) := by decide +kernel
theorem dJ2_putChar_b72d1_44 : decode cJ2_putChar_b72d1 44 = .ok (.aload_n 0, 1) := by decide +kernel
theorem dJ2_putChar_b72d1_45 : decode cJ2_putChar_b72d1 45 = .ok (.iload_n 1, 1) := by decide +kernel
theorem dJ2_putChar_b72d1_46 : decode cJ2_putChar_b72d1 46 = .ok (.iload_n 2, 1) := by decide +kernel
theorem dJ2_putChar_b72d1_47 : decode cJ2_putChar_b72d1 47 = .ok (.getstatic 63, 3) := by decide +kernel
theorem dJ2_putChar_b72d1_50 : decode cJ2_putChar_b72d1 50 = .ok (.ishr, 1) := by decide +kernel
theorem dJ2_putChar_b72d1_51 : decode cJ2_putChar_b72d1 51 = .ok (.i2b, 1) := by decide +kernel
theorem dJ2_putChar_b72d1_52 : decode cJ2_putChar_b72d1 52 = .ok (.bastore, 1) := by decide +kernel
theorem dJ2_putChar_b72d1_53 : decode cJ2_putChar_b72d1 53 = .ok (.return_, 1) := by decide +kernel
theorem dJ2_getChar_3b067_0 : decode cJ2_getChar_3b067 0 = .ok (.getstatic 44, 3) := by decide +kernel
theorem dJ2_getChar_3b067_3 : decode cJ2_getChar_3b067 3 = .ok (.ifCond .ne 25, 3) := by decide +kernel
theorem dJ2_getChar_3b067_6 : decode cJ2_getChar_3b067 6 = .ok (.iload_n 1, 1) := by decide +kernel
theorem dJ2_getChar_3b067_7 : decode cJ2_getChar_3b067 7 = .ok (.ifCond .lt 11, 3) := by decide +kernel
theorem dJ2_getChar_3b067_10 : decode cJ2_getChar_3b067 10 = .ok (.iload_n 1, 1) := by decide +kernel
theorem dJ2_getChar_3b067_11 : decode cJ2_getChar_3b067 11 = .ok (.aload_n 0, 1) := by decide +kernel
theorem dJ2_getChar_3b067_12 : decode cJ2_getChar_3b067 12 = .ok (.invokestatic 48, 3) := by decide +kernel
theorem dJ2_getChar_3b067_15 : decode cJ2_getChar_3b067 15 = .ok (.if_icmp .lt 13, 3) := by decide +kernel
theorem dJ2_getChar_3b067_18 : decode cJ2_getChar_3b067 18 = .ok (.new 52, 3) := by decide +kernel
theorem dJ2_getChar_3b067_21 : decode cJ2_getChar_3b067 21 = .ok (.dup, 1) := by decide +kernel
theorem dJ2_getChar_3b067_22 : decode cJ2_getChar_3b067 22 = .ok (.ldc 54, 2) := by decide +kernel
theorem dJ2_getChar_3b067_24 : decode cJ2_getChar_3b067 24 = .ok (.invokespecial 56, 3) := by decide +kernel
theorem dJ2_getChar_3b067_27 : decode cJ2_getChar_3b067 27 = .ok (.athrow, 1) := by decide +kernel
theorem dJ2_getChar_3b067_28 : decode cJ2_getChar_3b067 28 = .ok (.iload_n 1, 1) := by decide +kernel
theorem dJ2_getChar_3b067_29 : decode cJ2_getChar_3b067 29 = .ok (.iconst 1, 1) := by decide +kernel
theorem dJ2_getChar_3b067_30 : decode cJ2_getChar_3b067 30 = .ok (.ishl, 1) := by decide +kernel
theorem dJ2_getChar_3b067_31 : decode cJ2_getChar_3b067 31 = .ok (.istore_n 1, 1) := by decide +kernel
theorem dJ2_getChar_3b067_32 : decode cJ2_getChar_3b067 32 = .ok (.aload_n 0, 1) := by decide +kernel
theorem dJ2_getChar_3b067_33 : decode cJ2_getChar_3b067 33 = .ok (.iload_n 1, 1) := by decide +kernel
theorem dJ2_getChar_3b067_34 : decode cJ2_getChar_3b067 34 = .ok (.iinc 1 1, 3) := by decide +kernel
theorem dJ2_getChar_3b067_37 : decode cJ2_getChar_3b067 37 = .ok (.baload, 1) := by decide +kernel
theorem dJ2_getChar_3b067_38 : decode cJ2_getChar_3b067 38 = .ok (.sipush 255, 3) := by decide +kernel
theorem dJ2_getChar_3b067_41 : decode cJ2_getChar_3b067 41 = .ok (.iand, 1) := by decide +kernel
theorem dJ2_getChar_3b067_42 : decode cJ2_getChar_3b067 42 = .ok (.getstatic 59, 3) := by decide +kernel
theorem dJ2_getChar_3b067_45 : decode cJ2_getChar_3b067 45 = .ok (.ishl, 1) := by decide +kernel
theorem dJ2_getChar_3b067_46 : decode cJ2_getChar_3b067 46 = .ok (.aload_n 0, 1) := by decide +kernel
theorem dJ2_getChar_3b067_47 : decode cJ2_getChar_3b067 47 = .ok (.iload_n 1, 1) := by decide +kernel
theorem dJ2_getChar_3b067_48 : decode cJ2_getChar_3b067 48 = .ok (.baload, 1) := by decide +kernel
theorem dJ2_getChar_3b067_49 : decode cJ2_getChar_3b067 49 = .ok (.sipush 255, 3) := by decide +kernel
theorem dJ2_getChar_3b067_52 : decode cJ2_getChar_3b067 52 = .ok (.iand, 1) := by decide +kernel
theorem dJ2_getChar_3b067_53 : decode cJ2_getChar_3b067 53 = .ok (.getstatic 63, 3) := by decide +kernel
theorem dJ2_getChar_3b067_56 : decode cJ2_getChar_3b067 56 = .ok (.ishl, 1) := by decide +kernel
theorem dJ2_getChar_3b067_57 : decode cJ2_getChar_3b067 57 = .ok (.ior, 1) := by decide +kernel
theorem dJ2_getChar_3b067_58 : decode cJ2_getChar_3b067 58 = .ok (.i2c, 1) := by decide +kernel
theorem dJ2_getChar_3b067_59 : decode cJ2_getChar_3b067 59 = .ok (.ireturn, 1) := by decide +kernel
theorem dJ2_length_9d52b_0 : decode cJ2_length_9d52b 0 = .ok (.aload_n 0, 1) := by decide +kernel
theorem dJ2_length_9d52b_1 : decode cJ2_length_9d52b 1 = .ok (.arraylength, 1) := by decide +kernel
theorem dJ2_length_9d52b_2 : decode cJ2_length_9d52b 2 = .ok (.iconst 1, 1) := by decide +kernel
theorem dJ2_length_9d52b_3 : decode cJ2_length_9d52b 3 = .ok (.ishr, 1) := by decide +kernel
theorem dJ2_length_9d52b_4 : decode cJ2_length_9d52b 4 = .ok (.ireturn, 1) := by decide +kernel
theorem dJ2_coderFromArrayLen_85cad_0 : decode cJ2_coderFromArrayLen_85cad 0 = .ok (.iload_n 1, 1) := by decide +kernel
theorem dJ2_coderFromArrayLen_85cad_1 : decode cJ2_coderFromArrayLen_85cad 1 = .ok (.aload_n 0, 1) := by decide +kernel
theorem dJ2_coderFromArrayLen_85cad_2 : decode cJ2_coderFromArrayLen_85cad 2 = .ok (.arraylength, 1) := by decide +kernel
theorem dJ2_coderFromArrayLen_85cad_3 : decode cJ2_coderFromArrayLen_85cad 3 = .ok (.isub, 1) := by decide +kernel
theorem dJ2_coderFromArrayLen_85cad_4 : decode cJ2_coderFromArrayLen_85cad 4 = .ok (.bipush 31, 2) := by decide +kernel
theorem dJ2_coderFromArrayLen_85cad_6 : decode cJ2_coderFromArrayLen_85cad 6 = .ok (.iushr, 1) := by decide +kernel
theorem dJ2_coderFromArrayLen_85cad_7 : decode cJ2_coderFromArrayLen_85cad 7 = .ok (.i2b, 1) := by decide +kernel
theorem dJ2_coderFromArrayLen_85cad_8 : decode cJ2_coderFromArrayLen_85cad 8 = .ok (.ireturn, 1) := by decide +kernel
theorem dJ2_compress_39247_0 : decode cJ2_compress_39247 0 = .ok (.iload_n 2, 1) := by decide +kernel
theorem dJ2_compress_39247_1 : decode cJ2_compress_39247 1 = .ok (.newarray .byte, 2) := by decide +kernel
theorem dJ2_compress_39247_3 : decode cJ2_compress_39247 3 = .ok (.astore_n 3, 1) := by decide +kernel
theorem dJ2_compress_39247_4 : decode cJ2_compress_39247 4 = .ok (.aload_n 0, 1) := by decide +kernel
theorem dJ2_compress_39247_5 : decode cJ2_compress_39247 5 = .ok (.iload_n 1, 1) := by decide +kernel
theorem dJ2_compress_39247_6 : decode cJ2_compress_39247 6 = .ok (.aload_n 3, 1) := by decide +kernel
theorem dJ2_compress_39247_7 : decode cJ2_compress_39247 7 = .ok (.iconst 0, 1) := by decide +kernel
theorem dJ2_compress_39247_8 : decode cJ2_compress_39247 8 = .ok (.iload_n 2, 1) := by decide +kernel
theorem dJ2_compress_39247_9 : decode cJ2_compress_39247 9 = .ok (.invokestatic 123, 3) := by decide +kernel
theorem dJ2_compress_39247_12 : decode cJ2_compress_39247 12 = .ok (.istore 4, 2) := by decide +kernel
theorem dJ2_compress_39247_14 : decode cJ2_compress_39247 14 = .ok (.iload 4, 2) := by decide +kernel
theorem dJ2_compress_39247_16 : decode cJ2_compress_39247 16 = .ok (.iload_n 2, 1) := by decide +kernel
theorem dJ2_compress_39247_17 : decode cJ2_compress_39247 17 = .ok (.if_icmp .eq 47, 3) := by decide +kernel
theorem dJ2_compress_39247_20 : decode cJ2_compress_39247 20 = .ok (.aload_n 0, 1) := by decide +kernel
theorem dJ2_compress_39247_21 : decode cJ2_compress_39247 21 = .ok (.iload_n 1, 1) := by decide +kernel
theorem dJ2_compress_39247_22 : decode cJ2_compress_39247 22 = .ok (.iconst 1, 1) := by decide +kernel
theorem dJ2_compress_39247_23 : decode cJ2_compress_39247 23 = .ok (.ishl, 1) := by decide +kernel
theorem dJ2_compress_39247_24 : decode cJ2_compress_39247 24 = .ok (.iload_n 1, 1) := by decide +kernel
theorem dJ2_compress_39247_25 : decode cJ2_compress_39247 25 = .ok (.iload_n 2, 1) := by decide +kernel
theorem dJ2_compress_39247_26 : decode cJ2_compress_39247 26 = .ok (.iadd, 1) := by decide +kernel
theorem dJ2_compress_39247_27 : decode cJ2_compress_39247 27 = .ok (.invokestatic 11, 3) := by decide +kernel
theorem dJ2_compress_39247_30 : decode cJ2_compress_39247 30 = .ok (.invokestatic 126, 3) := by decide +kernel
theorem dJ2_compress_39247_33 : decode cJ2_compress_39247 33 = .ok (.astore 5, 2) := by decide +kernel
theorem dJ2_compress_39247_35 : decode cJ2_compress_39247 35 = .ok (.aload 5, 2) := by decide +kernel
theorem dJ2_compress_39247_37 : decode cJ2_compress_39247 37 = .ok (.iload 4, 2) := by decide +kernel
theorem dJ2_compress_39247_39 : decode cJ2_compress_39247 39 = .ok (.invokestatic 71, 3) := by decide +kernel
theorem dJ2_compress_39247_42 : decode cJ2_compress_39247 42 = .ok (.sipush 255, 3) := by decide +kernel
theorem dJ2_compress_39247_45 : decode cJ2_compress_39247 45 = .ok (.if_icmp .gt 16, 3) := by decide +kernel
theorem dJ2_compress_39247_48 : decode cJ2_compress_39247 48 = .ok (.aload 5, 2) := by decide +kernel
theorem dJ2_compress_39247_50 : decode cJ2_compress_39247 50 = .ok (.iconst 0, 1) := by decide +kernel
theorem dJ2_compress_39247_51 : decode cJ2_compress_39247 51 = .ok (.aload_n 3, 1) := by decide +kernel
theorem dJ2_compress_39247_52 : decode cJ2_compress_39247 52 = .ok (.iconst 0, 1) := by decide +kernel
theorem dJ2_compress_39247_53 : decode cJ2_compress_39247 53 = .ok (.iload_n 2, 1) := by decide +kernel
theorem dJ2_compress_39247_54 : decode cJ2_compress_39247 54 = .ok (.invokestatic 123, 3) := by decide +kernel
theorem dJ2_compress_39247_57 : decode cJ2_compress_39247 57 = .ok (.iload_n 2, 1) := by decide +kernel
theorem dJ2_compress_39247_58 : decode cJ2_compress_39247 58 = .ok (.if_icmp .eq 6, 3) := by decide +kernel
theorem dJ2_compress_39247_61 : decode cJ2_compress_39247 61 = .ok (.aload 5, 2) := by decide +kernel
theorem dJ2_compress_39247_63 : decode cJ2_compress_39247 63 = .ok (.areturn, 1) := by decide +kernel
theorem dJ2_compress_39247_64 : decode cJ2_compress_39247 64 = .ok (.aload_n 3, 1) := by decide +kernel
theorem dJ2_compress_39247_65 : decode cJ2_compress_39247 65 = .ok (.areturn, 1) := by decide +kernel
theorem dJ2_compress_5af95_0 : decode cJ2_compress_5af95 0 = .ok (.iload_n 1, 1) := by decide +kernel
theorem dJ2_compress_5af95_1 : decode cJ2_compress_5af95 1 = .ok (.iload 4, 2) := by decide +kernel
theorem dJ2_compress_5af95_3 : decode cJ2_compress_5af95 3 = .ok (.aload_n 0, 1) := by decide +kernel
theorem dJ2_compress_5af95_4 : decode cJ2_compress_5af95 4 = .ok (.invokestatic 173, 3) := by decide +kernel
theorem dJ2_compress_5af95_7 : decode cJ2_compress_5af95 7 = .ok (.iconst 0, 1) := by decide +kernel
theorem dJ2_compress_5af95_8 : decode cJ2_compress_5af95 8 = .ok (.istore 5, 2) := by decide +kernel
theorem dJ2_compress_5af95_10 : decode cJ2_compress_5af95 10 = .ok (.iload 5, 2) := by decide +kernel
theorem dJ2_compress_5af95_12 : decode cJ2_compress_5af95 12 = .ok (.iload 4, 2) := by decide +kernel
theorem dJ2_compress_5af95_14 : decode cJ2_compress_5af95 14 = .ok (.if_icmp .ge 39, 3) := by decide +kernel
theorem dJ2_compress_5af95_17 : decode cJ2_compress_5af95 17 = .ok (.aload_n 0, 1) := by decide +kernel
theorem dJ2_compress_5af95_18 : decode cJ2_compress_5af95 18 = .ok (.iload_n 1, 1) := by decide +kernel
theorem dJ2_compress_5af95_19 : decode cJ2_compress_5af95 19 = .ok (.invokestatic 71, 3) := by decide +kernel
theorem dJ2_compress_5af95_22 : decode cJ2_compress_5af95 22 = .ok (.istore 6, 2) := by decide +kernel
theorem dJ2_compress_5af95_24 : decode cJ2_compress_5af95 24 = .ok (.iload 6, 2) := by decide +kernel
theorem dJ2_compress_5af95_26 : decode cJ2_compress_5af95 26 = .ok (.sipush 255, 3) := by decide +kernel
theorem dJ2_compress_5af95_29 : decode cJ2_compress_5af95 29 = .ok (.if_icmp .le 6, 3) := by decide +kernel
theorem dJ2_compress_5af95_32 : decode cJ2_compress_5af95 32 = .ok (.iload 5, 2) := by decide +kernel
theorem dJ2_compress_5af95_34 : decode cJ2_compress_5af95 34 = .ok (.ireturn, 1) := by decide +kernel
theorem dJ2_compress_5af95_35 : decode cJ2_compress_5af95 35 = .ok (.aload_n 2, 1) := by decide +kernel
theorem dJ2_compress_5af95_36 : decode cJ2_compress_5af95 36 = .ok (.iload_n 3, 1) := by decide +kernel
theorem dJ2_compress_5af95_37 : decode cJ2_compress_5af95 37 = .ok (.iload 6, 2) := by decide +kernel
theorem dJ2_compress_5af95_39 : decode cJ2_compress_5af95 39 = .ok (.i2b, 1) := by decide +kernel
theorem dJ2_compress_5af95_40 : decode cJ2_compress_5af95 40 = .ok (.bastore, 1) := by decide +kernel
theorem dJ2_compress_5af95_41 : decode cJ2_compress_5af95 41 = .ok (.iinc 1 1, 3) := by decide +kernel
theorem dJ2_compress_5af95_44 : decode cJ2_compress_5af95 44 = .ok (.iinc 3 1, 3) := by decide +kernel
theorem dJ2_compress_5af95_47 : decode cJ2_compress_5af95 47 = .ok (.iinc 5 1, 3) := by decide +kernel
theorem dJ2_compress_5af95_50 : decode cJ2_compress_5af95 50 = .ok (.goto (-40), 3) := by decide +kernel
theorem dJ2_compress_5af95_53 : decode cJ2_compress_5af95 53 = .ok (.iload 4, 2) := by decide +kernel
theorem dJ2_compress_5af95_55 : decode cJ2_compress_5af95 55 = .ok (.ireturn, 1) := by decide +kernel
theorem dJ2_putCharSB_b72d1_0 : decode cJ2_putCharSB_b72d1 0 = .ok (.iload_n 1, 1) := by decide +kernel
theorem dJ2_putCharSB_b72d1_1 : decode cJ2_putCharSB_b72d1 1 = .ok (.aload_n 0, 1) := by decide +kernel
theorem dJ2_putCharSB_b72d1_2 : decode cJ2_putCharSB_b72d1 2 = .ok (.invokestatic 67, 3) := by decide +kernel
theorem dJ2_putCharSB_b72d1_5 : decode cJ2_putCharSB_b72d1 5 = .ok (.aload_n 0, 1) := by decide +kernel
theorem dJ2_putCharSB_b72d1_6 : decode cJ2_putCharSB_b72d1 6 = .ok (.iload_n 1, 1) := by decide +kernel
theorem dJ2_putCharSB_b72d1_7 : decode cJ2_putCharSB_b72d1 7 = .ok (.iload_n 2, 1) := by decide +kernel
theorem dJ2_putCharSB_b72d1_8 : decode cJ2_putCharSB_b72d1 8 = .ok (.invokestatic 111, 3) := by decide +kernel
theorem dJ2_putCharSB_b72d1_11 : decode cJ2_putCharSB_b72d1 11 = .ok (.return_, 1) := by decide +kernel
theorem dJ2_getChars_46870_0 : decode cJ2_getChars_46870 0 = .ok (.iload_n 1, 1) := by decide +kernel
theorem dJ2_getChars_46870_1 : decode cJ2_getChars_46870 1 = .ok (.iload_n 2, 1) := by decide +kernel
theorem dJ2_getChars_46870_2 : decode cJ2_getChars_46870 2 = .ok (.aload_n 3, 1) := by decide +kernel
theorem dJ2_getChars_46870_3 : decode cJ2_getChars_46870 3 = .ok (.invokestatic 96, 3) := by decide +kernel
theorem dJ2_getChars_46870_6 : decode cJ2_getChars_46870 6 = .ok (.iload_n 0, 1) := by decide +kernel
theorem dJ2_getChars_46870_7 : decode cJ2_getChars_46870 7 = .ok (.iload_n 2, 1) := by decide +kernel
theorem dJ2_getChars_46870_8 : decode cJ2_getChars_46870 8 = .ok (.aload_n 3, 1) := by decide +kernel
theorem dJ2_getChars_46870_9 : decode cJ2_getChars_46870 9 = .ok (.invokestatic 393, 3) := by decide +kernel
theorem dJ2_getChars_46870_12 : decode cJ2_getChars_46870 12 = .ok (.istore 4, 2) := by decide +kernel
theorem dJ2_getChars_46870_14 : decode cJ2_getChars_46870 14 = .ok (.getstatic 44, 3) := by decide +kernel
theorem dJ2_getChars_46870_17 : decode cJ2_getChars_46870 17 = .ok (.ifCond .ne 17, 3) := by decide +kernel
theorem dJ2_getChars_46870_20 : decode cJ2_getChars_46870 20 = .ok (.iload_n 1, 1) := by decide +kernel
theorem dJ2_getChars_46870_21 : decode cJ2_getChars_46870 21 = .ok (.iload 4, 2) := by decide +kernel
theorem dJ2_getChars_46870_23 : decode cJ2_getChars_46870 23 = .ok (.if_icmp .eq 11, 3) := by decide +kernel
theorem dJ2_getChars_46870_26 : decode cJ2_getChars_46870 26 = .ok (.new 52, 3) := by decide +kernel
theorem dJ2_getChars_46870_29 : decode cJ2_getChars_46870 29 = .ok (.dup, 1) := by decide +kernel
theorem dJ2_getChars_46870_30 : decode cJ2_getChars_46870 30 = .ok (.invokespecial 66, 3) := by decide +kernel
theorem dJ2_getChars_46870_33 : decode cJ2_getChars_46870 33 = .ok (.athrow, 1) := by decide +kernel
theorem dJ2_getChars_46870_34 : decode cJ2_getChars_46870 34 = .ok (.iload 4, 2) := by decide +kernel
theorem dJ2_getChars_46870_36 : decode cJ2_getChars_46870 36 = .ok (.ireturn, 1) := by decide +kernel
theorem dJ2_putCharsAt_cd4e5_0 : decode cJ2_putCharsAt_cd4e5 0 = .ok (.iload_n 1, 1) := by decide +kernel
theorem dJ2_putCharsAt_cd4e5_1 : decode cJ2_putCharsAt_cd4e5 1 = .ok (.iconst 4, 1) := by decide +kernel
theorem dJ2_putCharsAt_cd4e5_2 : decode cJ2_putCharsAt_cd4e5 2 = .ok (.iadd, 1) := by decide +kernel
theorem dJ2_putCharsAt_cd4e5_3 : decode cJ2_putCharsAt_cd4e5 3 = .ok (.istore 6, 2) := by decide +kernel
theorem dJ2_putCharsAt_cd4e5_5 : decode cJ2_putCharsAt_cd4e5 5 = .ok (.iload_n 1, 1) := by decide +kernel
theorem dJ2_putCharsAt_cd4e5_6 : decode cJ2_putCharsAt_cd4e5 6 = .ok (.iload 6, 2) := by decide +kernel
theorem dJ2_putCharsAt_cd4e5_8 : decode cJ2_putCharsAt_cd4e5 8 = .ok (.aload_n 0, 1) := by decide +kernel
theorem dJ2_putCharsAt_cd4e5_9 : decode cJ2_putCharsAt_cd4e5 9 = .ok (.invokestatic 96, 3) := by decide +kernel
theorem dJ2_putCharsAt_cd4e5_12 : decode cJ2_putCharsAt_cd4e5 12 = .ok (.aload_n 0, 1) := by decide +kernel
theorem dJ2_putCharsAt_cd4e5_13 : decode cJ2_putCharsAt_cd4e5 13 = .ok (.iload_n 1, 1) := by decide +kernel
theorem dJ2_putCharsAt_cd4e5_14 : decode cJ2_putCharsAt_cd4e5 14 = .ok (.iinc 1 1, 3) := by decide +kernel
theorem dJ2_putCharsAt_cd4e5_17 : decode cJ2_putCharsAt_cd4e5 17 = .ok (.iload_n 2, 1) := by decide +kernel
theorem dJ2_putCharsAt_cd4e5_18 : decode cJ2_putCharsAt_cd4e5 18 = .ok (.invokestatic 111, 3) := by decide +kernel
theorem dJ2_putCharsAt_cd4e5_21 : decode cJ2_putCharsAt_cd4e5 21 = .ok (.aload_n 0, 1) := by decide +kernel
theorem dJ2_putCharsAt_cd4e5_22 : decode cJ2_putCharsAt_cd4e5 22 = .ok (.iload_n 1, 1) := by decide +kernel
theorem dJ2_putCharsAt_cd4e5_23 : decode cJ2_putCharsAt_cd4e5 23 = .ok (.iinc 1 1, 3) := by decide +kernel
theorem dJ2_putCharsAt_cd4e5_26 : decode cJ2_putCharsAt_cd4e5 26 = .ok (.iload_n 3, 1) := by decide +kernel
theorem dJ2_putCharsAt_cd4e5_27 : decode cJ2_putCharsAt_cd4e5 27 = .ok (.invokestatic 111, 3) := by decide +kernel
theorem dJ2_putCharsAt_cd4e5_30 : decode cJ2_putCharsAt_cd4e5 30 = .ok (.aload_n 0, 1) := by decide +kernel
theorem dJ2_putCharsAt_cd4e5_31 : decode cJ2_putCharsAt_cd4e5 31 = .ok (.iload_n 1, 1) := by decide +kernel
theorem dJ2_putCharsAt_cd4e5_32 : decode cJ2_putCharsAt_cd4e5 32 = .ok (.iinc 1 1, 3) := by decide +kernel
theorem dJ2_putCharsAt_cd4e5_35 : decode cJ2_putCharsAt_cd4e5 35 = .ok (.iload 4, 2) := by decide +kernel
theorem dJ2_putCharsAt_cd4e5_37 : decode cJ2_putCharsAt_cd4e5 37 = .ok (.invokestatic 111, 3) := by decide +kernel
theorem dJ2_putCharsAt_cd4e5_40 : decode cJ2_putCharsAt_cd4e5 40 = .ok (.aload_n 0, 1) := by decide +kernel
theorem dJ2_putCharsAt_cd4e5_41 : decode cJ2_putCharsAt_cd4e5 41 = .ok (.iload_n 1, 1) := by decide +kernel
theorem dJ2_putCharsAt_cd4e5_42 : decode cJ2_putCharsAt_cd4e5 42 = .ok (.iinc 1 1, 3) := by decide +kernel
theorem dJ2_putCharsAt_cd4e5_45 : decode cJ2_putCharsAt_cd4e5 45 = .ok (.iload 5, 2) := by decide +kernel
theorem dJ2_putCharsAt_cd4e5_47 : decode cJ2_putCharsAt_cd4e5 47 = .ok (.invokestatic 111, 3) := by decide +kernel
theorem dJ2_putCharsAt_cd4e5_50 : decode cJ2_putCharsAt_cd4e5 50 = .ok (.getstatic 44, 3) := by decide +kernel
theorem dJ2_putCharsAt_cd4e5_53 : decode cJ2_putCharsAt_cd4e5 53 = .ok (.ifCond .ne 17, 3) := by decide +kernel
theorem dJ2_putCharsAt_cd4e5_56 : decode cJ2_putCharsAt_cd4e5 56 = .ok (.iload_n 1, 1) := by decide +kernel
theorem dJ2_putCharsAt_cd4e5_57 : decode cJ2_putCharsAt_cd4e5 57 = .ok (.iload 6, 2) := by decide +kernel
theorem dJ2_putCharsAt_cd4e5_59 : decode cJ2_putCharsAt_cd4e5 59 = .ok (.if_icmp .eq 11, 3) := by decide +kernel
theorem dJ2_putCharsAt_cd4e5_62 : decode cJ2_putCharsAt_cd4e5 62 = .ok (.new 52, 3) := by decide +kernel
theorem dJ2_putCharsAt_cd4e5_65 : decode cJ2_putCharsAt_cd4e5 65 = .ok (.dup, 1) := by decide +kernel
theorem dJ2_putCharsAt_cd4e5_66 : decode cJ2_putCharsAt_cd4e5 66 = .ok (.invokespecial 66, 3) := by decide +kernel
theorem dJ2_putCharsAt_cd4e5_69 : decode cJ2_putCharsAt_cd4e5 69 = .ok (.athrow, 1) := by decide +kernel
theorem dJ2_putCharsAt_cd4e5_70 : decode cJ2_putCharsAt_cd4e5 70 = .ok (.iload 6, 2) := by decide +kernel
theorem dJ2_putCharsAt_cd4e5_72 : decode cJ2_putCharsAt_cd4e5 72 = .ok (.ireturn, 1) := by decide +kernel
theorem dJ2_charAt_3b067_0 : decode cJ2_charAt_3b067 0 = .ok (.iload_n 1, 1) := by decide +kernel
theorem dJ2_charAt_3b067_1 : decode cJ2_charAt_3b067 1 = .ok (.aload_n 0, 1) := by decide +kernel
theorem dJ2_charAt_3b067_2 : decode cJ2_charAt_3b067 2 = .ok (.invokestatic 67, 3) := by decide +kernel
theorem dJ2_charAt_3b067_5 : decode cJ2_charAt_3b067 5 = .ok (.aload_n 0, 1) := by decide +kernel
theorem dJ2_charAt_3b067_6 : decode cJ2_charAt_3b067 6 = .ok (.iload_n 1, 1) := by decide +kernel
theorem dJ2_charAt_3b067_7 : decode cJ2_charAt_3b067 7 = .ok (.invokestatic 71, 3) := by decide +kernel
theorem dJ2_charAt_3b067_10 : decode cJ2_charAt_3b067 10 = .ok (.ireturn, 1) := by decide +kernel
theorem dJ2_inflate_0e8fd_0 : decode cJ2_inflate_0e8fd 0 = .ok (.iload_n 3, 1) := by decide +kernel
theorem dJ2_inflate_0e8fd_1 : decode cJ2_inflate_0e8fd 1 = .ok (.iload 4, 2) := by decide +kernel
theorem dJ2_inflate_0e8fd_3 : decode cJ2_inflate_0e8fd 3 = .ok (.aload_n 2, 1) := by decide +kernel
theorem dJ2_inflate_0e8fd_4 : decode cJ2_inflate_0e8fd 4 = .ok (.invokestatic 173, 3) := by decide +kernel
theorem dJ2_inflate_0e8fd_7 : decode cJ2_inflate_0e8fd 7 = .ok (.iconst 0, 1) := by decide +kernel
theorem dJ2_inflate_0e8fd_8 : decode cJ2_inflate_0e8fd 8 = .ok (.istore 5, 2) := by decide +kernel
theorem dJ2_inflate_0e8fd_10 : decode cJ2_inflate_0e8fd 10 = .ok (.iload 5, 2) := by decide +kernel
theorem dJ2_inflate_0e8fd_12 : decode cJ2_inflate_0e8fd 12 = .ok (.iload 4, 2) := by decide +kernel
theorem dJ2_inflate_0e8fd_14 : decode cJ2_inflate_0e8fd 14 = .ok (.if_icmp .ge 27, 3) := by decide +kernel
theorem dJ2_inflate_0e8fd_17 : decode cJ2_inflate_0e8fd 17 = .ok (.aload_n 2, 1) := by decide +kernel
theorem dJ2_inflate_0e8fd_18 : decode cJ2_inflate_0e8fd 18 = .ok (.iload_n 3, 1) := by decide +kernel
theorem dJ2_inflate_0e8fd_19 : decode cJ2_inflate_0e8fd 19 = .ok (.iinc 3 1, 3) := by decide +kernel
theorem dJ2_inflate_0e8fd_22 : decode cJ2_inflate_0e8fd 22 = .ok (.aload_n 0, 1) := by decide +kernel
theorem dJ2_inflate_0e8fd_23 : decode cJ2_inflate_0e8fd 23 = .ok (.iload_n 1, 1) := by decide +kernel
theorem dJ2_inflate_0e8fd_24 : decode cJ2_inflate_0e8fd 24 = .ok (.iinc 1 1, 3) := by decide +kernel
theorem dJ2_inflate_0e8fd_27 : decode cJ2_inflate_0e8fd 27 = .ok (.baload, 1) := by decide +kernel
theorem dJ2_inflate_0e8fd_28 : decode cJ2_inflate_0e8fd 28 = .ok (.sipush 255, 3) := by decide +kernel
theorem dJ2_inflate_0e8fd_31 : decode cJ2_inflate_0e8fd 31 = .ok (.iand, 1) := by decide +kernel
theorem dJ2_inflate_0e8fd_32 : decode cJ2_inflate_0e8fd 32 = .ok (.invokestatic 111, 3) := by decide +kernel
theorem dJ2_inflate_0e8fd_35 : decode cJ2_inflate_0e8fd 35 = .ok (.iinc 5 1, 3) := by decide +kernel
theorem dJ2_inflate_0e8fd_38 : decode cJ2_inflate_0e8fd 38 = .ok (.goto (-28), 3) := by decide +kernel
theorem dJ2_inflate_0e8fd_41 : decode cJ2_inflate_0e8fd 41 = .ok (.return_, 1) := by decide +kernel
theorem dJ2_getChars_ba4f3_0 : decode cJ2_getChars_ba4f3 0 = .ok (.iload_n 1, 1) := by decide +kernel
theorem dJ2_getChars_ba4f3_1 : decode cJ2_getChars_ba4f3 1 = .ok (.istore 5, 2) := by decide +kernel
theorem dJ2_getChars_ba4f3_3 : decode cJ2_getChars_ba4f3 3 = .ok (.iload_n 0, 1) := by decide +kernel
theorem dJ2_getChars_ba4f3_4 : decode cJ2_getChars_ba4f3 4 = .ok (.ifCond .ge 7, 3) := by decide +kernel
theorem dJ2_getChars_ba4f3_7 : decode cJ2_getChars_ba4f3 7 = .ok (.iconst 1, 1) := by decide +kernel
theorem dJ2_getChars_ba4f3_8 : decode cJ2_getChars_ba4f3 8 = .ok (.goto 4, 3) := by decide +kernel
theorem dJ2_getChars_ba4f3_11 : decode cJ2_getChars_ba4f3 11 = .ok (.iconst 0, 1) := by decide +kernel
theorem dJ2_getChars_ba4f3_12 : decode cJ2_getChars_ba4f3 12 = .ok (.istore 6, 2) := by decide +kernel
theorem dJ2_getChars_ba4f3_14 : decode cJ2_getChars_ba4f3 14 = .ok (.iload 6, 2) := by decide +kernel
theorem dJ2_getChars_ba4f3_16 : decode cJ2_getChars_ba4f3 16 = .ok (.ifCond .ne 6, 3) := by decide +kernel
theorem dJ2_getChars_ba4f3_19 : decode cJ2_getChars_ba4f3 19 = .ok (.iload_n 0, 1) := by decide +kernel
theorem dJ2_getChars_ba4f3_20 : decode cJ2_getChars_ba4f3 20 = .ok (.ineg, 1) := by decide +kernel
theorem dJ2_getChars_ba4f3_21 : decode cJ2_getChars_ba4f3 21 = .ok (.istore_n 0, 1) := by decide +kernel
theorem dJ2_getChars_ba4f3_22 : decode cJ2_getChars_ba4f3 22 = .ok (.iload_n 0, 1) := by decide +kernel
theorem dJ2_getChars_ba4f3_23 : decode cJ2_getChars_ba4f3 23 = .ok (.bipush (-100), 2) := by decide +kernel
theorem dJ2_getChars_ba4f3_25 : decode cJ2_getChars_ba4f3 25 = .ok (.if_icmp .gt 51, 3) := by decide +kernel
theorem dJ2_getChars_ba4f3_28 : decode cJ2_getChars_ba4f3 28 = .ok (.iload_n 0, 1) := by decide +kernel
theorem dJ2_getChars_ba4f3_29 : decode cJ2_getChars_ba4f3 29 = .ok (.bipush 100, 2) := by decide +kernel
theorem dJ2_getChars_ba4f3_31 : decode cJ2_getChars_ba4f3 31 = .ok (.idiv, 1) := by decide +kernel
theorem dJ2_getChars_ba4f3_32 : decode cJ2_getChars_ba4f3 32 = .ok (.istore_n 3, 1) := by decide +kernel
theorem dJ2_getChars_ba4f3_33 : decode cJ2_getChars_ba4f3 33 = .ok (.iload_n 3, 1) := by decide +kernel
theorem dJ2_getChars_ba4f3_34 : decode cJ2_getChars_ba4f3 34 = .ok (.bipush 100, 2) := by decide +kernel
theorem dJ2_getChars_ba4f3_36 : decode cJ2_getChars_ba4f3 36 = .ok (.imul, 1) := by decide +kernel
theorem dJ2_getChars_ba4f3_37 : decode cJ2_getChars_ba4f3 37 = .ok (.iload_n 0, 1) := by decide +kernel
theorem dJ2_getChars_ba4f3_38 : decode cJ2_getChars_ba4f3 38 = .ok (.isub, 1) := by decide +kernel
theorem dJ2_getChars_ba4f3_39 : decode cJ2_getChars_ba4f3 39 = .ok (.istore 4, 2) := by decide +kernel
theorem dJ2_getChars_ba4f3_41 : decode cJ2_getChars_ba4f3 41 = .ok (.iload_n 3, 1) := by decide +kernel
theorem dJ2_getChars_ba4f3_42 : decode cJ2_getChars_ba4f3 42 = .ok (.istore_n 0, 1) := by decide +kernel
theorem dJ2_getChars_ba4f3_43 : decode cJ2_getChars_ba4f3 43 = .ok (.aload_n 2, 1) := by decide +kernel
theorem dJ2_getChars_ba4f3_44 : decode cJ2_getChars_ba4f3 44 = .ok (.iinc 5 (-1), 3) := by decide +kernel
theorem dJ2_getChars_ba4f3_47 : decode cJ2_getChars_ba4f3 47 = .ok (.iload 5, 2) := by decide +kernel
theorem dJ2_getChars_ba4f3_49 : decode cJ2_getChars_ba4f3 49 = .ok (.getstatic 403, 3) := by decide +kernel
theorem dJ2_getChars_ba4f3_52 : decode cJ2_getChars_ba4f3 52 = .ok (.iload 4, 2) := by decide +kernel
theorem dJ2_getChars_ba4f3_54 : decode cJ2_getChars_ba4f3 54 = .ok (.baload, 1) := by decide +kernel
theorem dJ2_getChars_ba4f3_55 : decode cJ2_getChars_ba4f3 55 = .ok (.invokestatic 111, 3) := by decide +kernel
theorem dJ2_getChars_ba4f3_58 : decode cJ2_getChars_ba4f3 58 = .ok (.aload_n 2, 1) := by decide +kernel
theorem dJ2_getChars_ba4f3_59 : decode cJ2_getChars_ba4f3 59 = .ok (.iinc 5 (-1), 3) := by decide +kernel
theorem dJ2_getChars_ba4f3_62 : decode cJ2_getChars_ba4f3 62 = .ok (.iload 5, 2) := by decide +kernel
theorem dJ2_getChars_ba4f3_64 : decode cJ2_getChars_ba4f3 64 = .ok (.getstatic 407, 3) := by decide +kernel
theorem dJ2_getChars_ba4f3_67 : decode cJ2_getChars_ba4f3 67 = .ok (.iload 4, 2) := by decide +kernel
theorem dJ2_getChars_ba4f3_69 : decode cJ2_getChars_ba4f3 69 = .ok (.baload, 1) := by decide +kernel
theorem dJ2_getChars_ba4f3_70 : decode cJ2_getChars_ba4f3 70 = .ok (.invokestatic 111, 3) := by decide +kernel
theorem dJ2_getChars_ba4f3_73 : decode cJ2_getChars_ba4f3 73 = .ok (.goto (-51), 3) := by decide +kernel
theorem dJ2_getChars_ba4f3_76 : decode cJ2_getChars_ba4f3 76 = .ok (.aload_n 2, 1) := by decide +kernel
theorem dJ2_getChars_ba4f3_77 : decode cJ2_getChars_ba4f3 77 = .ok (.iinc 5 (-1), 3) := by decide +kernel
theorem dJ2_getChars_ba4f3_80 : decode cJ2_getChars_ba4f3 80 = .ok (.iload 5, 2) := by decide +kernel
theorem dJ2_getChars_ba4f3_82 : decode cJ2_getChars_ba4f3 82 = .ok (.getstatic 403, 3) := by decide +kernel
theorem dJ2_getChars_ba4f3_85 : decode cJ2_getChars_ba4f3 85 = .ok (.iload_n 0, 1) := by decide +kernel
theorem dJ2_getChars_ba4f3_86 : decode cJ2_getChars_ba4f3 86 = .ok (.ineg, 1) := by decide +kernel
theorem dJ2_getChars_ba4f3_87 : decode cJ2_getChars_ba4f3 87 = .ok (.baload, 1) := by decide +kernel
theorem dJ2_getChars_ba4f3_88 : decode cJ2_getChars_ba4f3 88 = .ok (.invokestatic 111, 3) := by decide +kernel
theorem dJ2_getChars_ba4f3_91 : decode cJ2_getChars_ba4f3 91 = .ok (.iload_n 0, 1) := by decide +kernel
theorem dJ2_getChars_ba4f3_92 : decode cJ2_getChars_ba4f3 92 = .ok (.bipush (-9), 2) := by decide +kernel
theorem dJ2_getChars_ba4f3_94 : decode cJ2_getChars_ba4f3 94 = .ok (.if_icmp .ge 18, 3) := by decide +kernel
theorem dJ2_getChars_ba4f3_97 : decode cJ2_getChars_ba4f3 97 = .ok (.aload_n 2, 1) := by decide +kernel
theorem dJ2_getChars_ba4f3_98 : decode cJ2_getChars_ba4f3 98 = .ok (.iinc 5 (-1), 3) := by decide +kernel
theorem dJ2_getChars_ba4f3_101 : decode cJ2_getChars_ba4f3 101 = .ok (.iload 5, 2) := by decide +kernel
theorem dJ2_getChars_ba4f3_103 : decode cJ2_getChars_ba4f3 103 = .ok (.getstatic 407, 3) := by decide +kernel
theorem dJ2_getChars_ba4f3_106 : decode cJ2_getChars_ba4f3 106 = .ok (.iload_n 0, 1) := by decide +kernel
theorem dJ2_getChars_ba4f3_107 : decode cJ2_getChars_ba4f3 107 = .ok (.ineg, 1) := by decide +kernel
theorem dJ2_getChars_ba4f3_108 : decode cJ2_getChars_ba4f3 108 = .ok (.baload, 1) := by decide +kernel
theorem dJ2_getChars_ba4f3_109 : decode cJ2_getChars_ba4f3 109 = .ok (.invokestatic 111, 3) := by decide +kernel
theorem dJ2_getChars_ba4f3_112 : decode cJ2_getChars_ba4f3 112 = .ok (.iload 6, 2) := by decide +kernel
theorem dJ2_getChars_ba4f3_114 : decode cJ2_getChars_ba4f3 114 = .ok (.ifCond .eq 14, 3) := by decide +kernel
theorem dJ2_getChars_ba4f3_117 : decode cJ2_getChars_ba4f3 117 = .ok (.aload_n 2, 1) := by decide +kernel
theorem dJ2_getChars_ba4f3_118 : decode cJ2_getChars_ba4f3 118 = .ok (.iinc 5 (-1), 3) := by decide +kernel
theorem dJ2_getChars_ba4f3_121 : decode cJ2_getChars_ba4f3 121 = .ok (.iload 5, 2) := by decide +kernel
theorem dJ2_getChars_ba4f3_123 : decode cJ2_getChars_ba4f3 123 = .ok (.bipush 45, 2) := by decide +kernel
theorem dJ2_getChars_ba4f3_125 : decode cJ2_getChars_ba4f3 125 = .ok (.invokestatic 111, 3) := by decide +kernel
theorem dJ2_getChars_ba4f3_128 : decode cJ2_getChars_ba4f3 128 = .ok (.iload 5, 2) := by decide +kernel
theorem dJ2_getChars_ba4f3_130 : decode cJ2_getChars_ba4f3 130 = .ok (.ireturn, 1) := by decide +kernel
theorem dJ2_checkIndex_2214a_0 : decode cJ2_checkIndex_2214a 0 = .ok (.iload_n 0, 1) := by decide +kernel
theorem dJ2_checkIndex_2214a_1 : decode cJ2_checkIndex_2214a 1 = .ok (.aload_n 1, 1) := by decide +kernel
theorem dJ2_checkIndex_2214a_2 : decode cJ2_checkIndex_2214a 2 = .ok (.invokestatic 48, 3) := by decide +kernel
theorem dJ2_checkIndex_2214a_5 : decode cJ2_checkIndex_2214a 5 = .ok (.invokestatic 414, 3) := by decide +kernel
theorem dJ2_checkIndex_2214a_8 : decode cJ2_checkIndex_2214a 8 = .ok (.return_, 1) := by decide +kernel
theorem dJ2_checkBoundsBeginEnd_d044e_0 : decode cJ2_checkBoundsBeginEnd_d044e 0 = .ok (.iload_n 0, 1) := by decide +kernel
theorem dJ2_checkBoundsBeginEnd_d044e_1 : decode cJ2_checkBoundsBeginEnd_d044e 1 = .ok (.iload_n 1, 1) := by decide +kernel
theorem dJ2_checkBoundsBeginEnd_d044e_2 : decode cJ2_checkBoundsBeginEnd_d044e 2 = .ok (.aload_n 2, 1) := by decide +kernel
theorem dJ2_checkBoundsBeginEnd_d044e_3 : decode cJ2_checkBoundsBeginEnd_d044e 3 = .ok (.invokestatic 48, 3) := by decide +kernel
theorem dJ2_checkBoundsBeginEnd_d044e_6 : decode cJ2_checkBoundsBeginEnd_d044e 6 = .ok (.invokestatic 241, 3) := by decide +kernel
theorem dJ2_checkBoundsBeginEnd_d044e_9 : decode cJ2_checkBoundsBeginEnd_d044e 9 = .ok (.return_, 1) := by decide +kernel
theorem dJ2_checkBoundsOffCount_d044e_0 : decode cJ2_checkBoundsOffCount_d044e 0 = .ok (.iload_n 0, 1) := by decide +kernel
theorem dJ2_checkBoundsOffCount_d044e_1 : decode cJ2_checkBoundsOffCount_d044e 1 = .ok (.iload_n 1, 1) := by decide +kernel
theorem dJ2_checkBoundsOffCount_d044e_2 : decode cJ2_checkBoundsOffCount_d044e 2 = .ok (.aload_n 2, 1) := by decide +kernel
theorem dJ2_checkBoundsOffCount_d044e_3 : decode cJ2_checkBoundsOffCount_d044e 3 = .ok (.invokestatic 48, 3) := by decide +kernel
theorem dJ2_checkBoundsOffCount_d044e_6 : decode cJ2_checkBoundsOffCount_d044e 6 = .ok (.invokestatic 419, 3) := by decide +kernel
theorem dJ2_checkBoundsOffCount_d044e_9 : decode cJ2_checkBoundsOffCount_d044e 9 = .ok (.pop, 1) := by decide +kernel
theorem dJ2_checkBoundsOffCount_d044e_10 : decode cJ2_checkBoundsOffCount_d044e 10 = .ok (.return_, 1) := by decide +kernel
theorem dJ7_copyOf_9075b_0 : decode cJ7_copyOf_9075b 0 = .ok (.iload_n 1, 1) := by decide +kernel
theorem dJ7_copyOf_9075b_1 : decode cJ7_copyOf_9075b 1 = .ok (.aload_n 0, 1) := by decide +kernel
theorem dJ7_copyOf_9075b_2 : decode cJ7_copyOf_9075b 2 = .ok (.arraylength, 1) := by decide +kernel
theorem dJ7_copyOf_9075b_3 : decode cJ7_copyOf_9075b 3 = .ok (.if_icmp .ne 11, 3) := by decide +kernel
theorem dJ7_copyOf_9075b_6 : decode cJ7_copyOf_9075b 6 = .ok (.aload_n 0, 1) := by decide +kernel
theorem dJ7_copyOf_9075b_7 : decode cJ7_copyOf_9075b 7 = .ok (.invokevirtual 310, 3) := by decide +kernel
theorem dJ7_copyOf_9075b_10 : decode cJ7_copyOf_9075b 10 = .ok (.checkcast 311, 3) := by decide +kernel
theorem dJ7_copyOf_9075b_13 : decode cJ7_copyOf_9075b 13 = .ok (.areturn, 1) := by decide +kernel
theorem dJ7_copyOf_9075b_14 : decode cJ7_copyOf_9075b 14 = .ok (.iload_n 1, 1) := by decide +kernel
theorem dJ7_copyOf_9075b_15 : decode cJ7_copyOf_9075b 15 = .ok (.newarray .byte, 2) := by decide +kernel
theorem dJ7_copyOf_9075b_17 : decode cJ7_copyOf_9075b 17 = .ok (.astore_n 2, 1) := by decide +kernel
theorem dJ7_copyOf_9075b_18 : decode cJ7_copyOf_9075b 18 = .ok (.aload_n 0, 1) := by decide +kernel
theorem dJ7_copyOf_9075b_19 : decode cJ7_copyOf_9075b 19 = .ok (.iconst 0, 1) := by decide +kernel
theorem dJ7_copyOf_9075b_20 : decode cJ7_copyOf_9075b 20 = .ok (.aload_n 2, 1) := by decide +kernel
theorem dJ7_copyOf_9075b_21 : decode cJ7_copyOf_9075b 21 = .ok (.iconst 0, 1) := by decide +kernel
theorem dJ7_copyOf_9075b_22 : decode cJ7_copyOf_9075b 22 = .ok (.aload_n 0, 1) := by decide +kernel
theorem dJ7_copyOf_9075b_23 : decode cJ7_copyOf_9075b 23 = .ok (.arraylength, 1) := by decide +kernel
theorem dJ7_copyOf_9075b_24 : decode cJ7_copyOf_9075b 24 = .ok (.iload_n 1, 1) := by decide +kernel
theorem dJ7_copyOf_9075b_25 : decode cJ7_copyOf_9075b 25 = .ok (.invokestatic 304, 3) := by decide +kernel
theorem dJ7_copyOf_9075b_28 : decode cJ7_copyOf_9075b 28 = .ok (.invokestatic 150, 3) := by decide +kernel
theorem dJ7_copyOf_9075b_31 : decode cJ7_copyOf_9075b 31 = .ok (.aload_n 2, 1) := by decide +kernel
theorem dJ7_copyOf_9075b_32 : decode cJ7_copyOf_9075b 32 = .ok (.areturn, 1) := by decide +kernel
theorem dJ7_checkLength_df160_0 : decode cJ7_checkLength_df160 0 = .ok (.iload_n 1, 1) := by decide +kernel
theorem dJ7_checkLength_df160_1 : decode cJ7_checkLength_df160 1 = .ok (.iload_n 0, 1) := by decide +kernel
theorem dJ7_checkLength_df160_2 : decode cJ7_checkLength_df160 2 = .ok (.if_icmp .ge 35, 3) := by decide +kernel
theorem dJ7_checkLength_df160_5 : decode cJ7_checkLength_df160 5 = .ok (.new 43, 3) := by decide +kernel
theorem dJ7_checkLength_df160_8 : decode cJ7_checkLength_df160 8 = .ok (.dup, 1) := by decide +kernel
theorem dJ7_checkLength_df160_9 : decode cJ7_checkLength_df160 9 = .ok (.new 45, 3) := by decide +kernel
theorem dJ7_checkLength_df160_12 : decode cJ7_checkLength_df160 12 = .ok (.dup, 1) := by decide +kernel
theorem dJ7_checkLength_df160_13 : decode cJ7_checkLength_df160 13 = .ok (.invokespecial 47, 3) := by decide +kernel
theorem dJ7_checkLength_df160_16 : decode cJ7_checkLength_df160 16 = .ok (.iload_n 0, 1) := by decide +kernel
theorem dJ7_checkLength_df160_17 : decode cJ7_checkLength_df160 17 = .ok (.invokevirtual 54, 3) := by decide +kernel
theorem dJ7_checkLength_df160_20 : decode cJ7_checkLength_df160 20 = .ok (.ldc_w 337, 3) := by decide +kernel
theorem dJ7_checkLength_df160_23 : decode cJ7_checkLength_df160 23 = .ok (.invokevirtual 50, 3) := by decide +kernel
theorem dJ7_checkLength_df160_26 : decode cJ7_checkLength_df160 26 = .ok (.iload_n 1, 1) := by decide +kernel
theorem dJ7_checkLength_df160_27 : decode cJ7_checkLength_df160 27 = .ok (.invokevirtual 54, 3) := by decide +kernel
theorem dJ7_checkLength_df160_30 : decode cJ7_checkLength_df160 30 = .ok (.invokevirtual 61, 3) := by decide +kernel
theorem dJ7_checkLength_df160_33 : decode cJ7_checkLength_df160 33 = .ok (.invokespecial 65, 3) := by decide +kernel
theorem dJ7_checkLength_df160_36 : decode cJ7_checkLength_df160 36 = .ok (.athrow, 1) := by decide +kernel
theorem dJ7_checkLength_df160_37 : decode cJ7_checkLength_df160 37 = .ok (.return_, 1) := by decide +kernel
theorem dJ7_copyOfRange_39247_0 : decode cJ7_copyOfRange_39247 0 = .ok (.iload_n 1, 1) := by decide +kernel
theorem dJ7_copyOfRange_39247_1 : decode cJ7_copyOfRange_39247 1 = .ok (.ifCond .ne 9, 3) := by decide +kernel
theorem dJ7_copyOfRange_39247_4 : decode cJ7_copyOfRange_39247 4 = .ok (.iload_n 2, 1) := by decide +kernel
theorem dJ7_copyOfRange_39247_5 : decode cJ7_copyOfRange_39247 5 = .ok (.aload_n 0, 1) := by decide +kernel
theorem dJ7_copyOfRange_39247_6 : decode cJ7_copyOfRange_39247 6 = .ok (.arraylength, 1) := by decide +kernel
theorem dJ7_copyOfRange_39247_7 : decode cJ7_copyOfRange_39247 7 = .ok (.if_icmp .eq 10, 3) := by decide +kernel
theorem dJ7_copyOfRange_39247_10 : decode cJ7_copyOfRange_39247 10 = .ok (.aload_n 0, 1) := by decide +kernel
theorem dJ7_copyOfRange_39247_11 : decode cJ7_copyOfRange_39247 11 = .ok (.iload_n 1, 1) := by decide +kernel
theorem dJ7_copyOfRange_39247_12 : decode cJ7_copyOfRange_39247 12 = .ok (.iload_n 2, 1) := by decide +kernel
theorem dJ7_copyOfRange_39247_13 : decode cJ7_copyOfRange_39247 13 = .ok (.invokestatic 339, 3) := by decide +kernel
theorem dJ7_copyOfRange_39247_16 : decode cJ7_copyOfRange_39247 16 = .ok (.areturn, 1) := by decide +kernel
theorem dJ7_copyOfRange_39247_17 : decode cJ7_copyOfRange_39247 17 = .ok (.aload_n 0, 1) := by decide +kernel
theorem dJ7_copyOfRange_39247_18 : decode cJ7_copyOfRange_39247 18 = .ok (.invokevirtual 310, 3) := by decide +kernel
theorem dJ7_copyOfRange_39247_21 : decode cJ7_copyOfRange_39247 21 = .ok (.checkcast 311, 3) := by decide +kernel
theorem dJ7_copyOfRange_39247_24 : decode cJ7_copyOfRange_39247 24 = .ok (.areturn, 1) := by decide +kernel
theorem dJ7_copyOfRangeByte_39247_0 : decode cJ7_copyOfRangeByte_39247 0 = .ok (.iload_n 1, 1) := by decide +kernel
theorem dJ7_copyOfRangeByte_39247_1 : decode cJ7_copyOfRangeByte_39247 1 = .ok (.iload_n 2, 1) := by decide +kernel
theorem dJ7_copyOfRangeByte_39247_2 : decode cJ7_copyOfRangeByte_39247 2 = .ok (.invokestatic 343, 3) := by decide +kernel
theorem dJ7_copyOfRangeByte_39247_5 : decode cJ7_copyOfRangeByte_39247 5 = .ok (.iload_n 2, 1) := by decide +kernel
theorem dJ7_copyOfRangeByte_39247_6 : decode cJ7_copyOfRangeByte_39247 6 = .ok (.iload_n 1, 1) := by decide +kernel
theorem dJ7_copyOfRangeByte_39247_7 : decode cJ7_copyOfRangeByte_39247 7 = .ok (.isub, 1) := by decide +kernel
theorem dJ7_copyOfRangeByte_39247_8 : decode cJ7_copyOfRangeByte_39247 8 = .ok (.istore_n 3, 1) := by decide +kernel
theorem dJ7_copyOfRangeByte_39247_9 : decode cJ7_copyOfRangeByte_39247 9 = .ok (.iload_n 3, 1) := by decide +kernel
theorem dJ7_copyOfRangeByte_39247_10 : decode cJ7_copyOfRangeByte_39247 10 = .ok (.newarray .byte, 2) := by decide +kernel
theorem dJ7_copyOfRangeByte_39247_12 : decode cJ7_copyOfRangeByte_39247 12 = .ok (.astore 4, 2) := by decide +kernel
theorem dJ7_copyOfRangeByte_39247_14 : decode cJ7_copyOfRangeByte_39247 14 = .ok (.aload_n 0, 1) := by decide +kernel
theorem dJ7_copyOfRangeByte_39247_15 : decode cJ7_copyOfRangeByte_39247 15 = .ok (.iload_n 1, 1) := by decide +kernel
theorem dJ7_copyOfRangeByte_39247_16 : decode cJ7_copyOfRangeByte_39247 16 = .ok (.aload 4, 2) := by decide +kernel
theorem dJ7_copyOfRangeByte_39247_18 : decode cJ7_copyOfRangeByte_39247 18 = .ok (.iconst 0, 1) := by decide +kernel
theorem dJ7_copyOfRangeByte_39247_19 : decode cJ7_copyOfRangeByte_39247 19 = .ok (.aload_n 0, 1) := by decide +kernel
theorem dJ7_copyOfRangeByte_39247_20 : decode cJ7_copyOfRangeByte_39247 20 = .ok (.arraylength, 1) := by decide +kernel
theorem dJ7_copyOfRangeByte_39247_21 : decode cJ7_copyOfRangeByte_39247 21 = .ok (.iload_n 1, 1) := by decide +kernel
theorem dJ7_copyOfRangeByte_39247_22 : decode cJ7_copyOfRangeByte_39247 22 = .ok (.isub, 1) := by decide +kernel
theorem dJ7_copyOfRangeByte_39247_23 : decode cJ7_copyOfRangeByte_39247 23 = .ok (.iload_n 3, 1) := by decide +kernel
theorem dJ7_copyOfRangeByte_39247_24 : decode cJ7_copyOfRangeByte_39247 24 = .ok (.invokestatic 304, 3) := by decide +kernel
theorem dJ7_copyOfRangeByte_39247_27 : decode cJ7_copyOfRangeByte_39247 27 = .ok (.invokestatic 150, 3) := by decide +kernel
theorem dJ7_copyOfRangeByte_39247_30 : decode cJ7_copyOfRangeByte_39247 30 = .ok (.aload 4, 2) := by decide +kernel
theorem dJ7_copyOfRangeByte_39247_32 : decode cJ7_copyOfRangeByte_39247 32 = .ok (.areturn, 1) := by decide +kernel
theorem dJ8_newLength_cabcc_0 : decode cJ8_newLength_cabcc 0 = .ok (.iload_n 0, 1) := by decide +kernel
theorem dJ8_newLength_cabcc_1 : decode cJ8_newLength_cabcc 1 = .ok (.iload_n 1, 1) := by decide +kernel
theorem dJ8_newLength_cabcc_2 : decode cJ8_newLength_cabcc 2 = .ok (.iload_n 2, 1) := by decide +kernel
theorem dJ8_newLength_cabcc_3 : decode cJ8_newLength_cabcc 3 = .ok (.invokestatic 194, 3) := by decide +kernel
theorem dJ8_newLength_cabcc_6 : decode cJ8_newLength_cabcc 6 = .ok (.iadd, 1) := by decide +kernel
theorem dJ8_newLength_cabcc_7 : decode cJ8_newLength_cabcc 7 = .ok (.istore_n 3, 1) := by decide +kernel
theorem dJ8_newLength_cabcc_8 : decode cJ8_newLength_cabcc 8 = .ok (.iconst 0, 1) := by decide +kernel
theorem dJ8_newLength_cabcc_9 : decode cJ8_newLength_cabcc 9 = .ok (.iload_n 3, 1) := by decide +kernel
theorem dJ8_newLength_cabcc_10 : decode cJ8_newLength_cabcc 10 = .ok (.if_icmp .ge 11, 3) := by decide +kernel
theorem dJ8_newLength_cabcc_13 : decode cJ8_newLength_cabcc 13 = .ok (.iload_n 3, 1) := by decide +kernel
theorem dJ8_newLength_cabcc_14 : decode cJ8_newLength_cabcc 14 = .ok (.ldc 200, 2) := by decide +kernel
theorem dJ8_newLength_cabcc_16 : decode cJ8_newLength_cabcc 16 = .ok (.if_icmp .gt 5, 3) := by decide +kernel
theorem dJ8_newLength_cabcc_19 : decode cJ8_newLength_cabcc 19 = .ok (.iload_n 3, 1) := by decide +kernel
theorem dJ8_newLength_cabcc_20 : decode cJ8_newLength_cabcc 20 = .ok (.ireturn, 1) := by decide +kernel
theorem dJ8_newLength_cabcc_21 : decode cJ8_newLength_cabcc 21 = .ok (.iload_n 0, 1) := by decide +kernel
theorem dJ8_newLength_cabcc_22 : decode cJ8_newLength_cabcc 22 = .ok (.iload_n 1, 1) := by decide +kernel
theorem dJ8_newLength_cabcc_23 : decode cJ8_newLength_cabcc 23 = .ok (.invokestatic 201, 3) := by decide +kernel
theorem dJ8_newLength_cabcc_26 : decode cJ8_newLength_cabcc 26 = .ok (.ireturn, 1) := by decide +kernel
theorem dJ8_hugeLength_7cf53_0 : decode cJ8_hugeLength_7cf53 0 = .ok (.iload_n 0, 1) := by decide +kernel
theorem dJ8_hugeLength_7cf53_1 : decode cJ8_hugeLength_7cf53 1 = .ok (.iload_n 1, 1) := by decide +kernel
theorem dJ8_hugeLength_7cf53_2 : decode cJ8_hugeLength_7cf53 2 = .ok (.iadd, 1) := by decide +kernel
theorem dJ8_hugeLength_7cf53_3 : decode cJ8_hugeLength_7cf53 3 = .ok (.istore_n 2, 1) := by decide +kernel
theorem dJ8_hugeLength_7cf53_4 : decode cJ8_hugeLength_7cf53 4 = .ok (.iload_n 2, 1) := by decide +kernel
theorem dJ8_hugeLength_7cf53_5 : decode cJ8_hugeLength_7cf53 5 = .ok (.ifCond .ge 44, 3) := by decide +kernel
theorem dJ8_hugeLength_7cf53_8 : decode cJ8_hugeLength_7cf53 8 = .ok (.new 204, 3) := by decide +kernel
theorem dJ8_hugeLength_7cf53_11 : decode cJ8_hugeLength_7cf53 11 = .ok (.dup, 1) := by decide +kernel
theorem dJ8_hugeLength_7cf53_12 : decode cJ8_hugeLength_7cf53 12 = .ok (.new 89, 3) := by decide +kernel
theorem dJ8_hugeLength_7cf53_15 : decode cJ8_hugeLength_7cf53 15 = .ok (.dup, 1) := by decide +kernel
theorem dJ8_hugeLength_7cf53_16 : decode cJ8_hugeLength_7cf53 16 = .ok (.invokespecial 91, 3) := by decide +kernel
theorem dJ8_hugeLength_7cf53_19 : decode cJ8_hugeLength_7cf53 19 = .ok (.ldc 206, 2) := by decide +kernel
theorem dJ8_hugeLength_7cf53_21 : decode cJ8_hugeLength_7cf53 21 = .ok (.invokevirtual 94, 3) := by decide +kernel
theorem dJ8_hugeLength_7cf53_24 : decode cJ8_hugeLength_7cf53 24 = .ok (.iload_n 0, 1) := by decide +kernel
theorem dJ8_hugeLength_7cf53_25 : decode cJ8_hugeLength_7cf53 25 = .ok (.invokevirtual 98, 3) := by decide +kernel
theorem dJ8_hugeLength_7cf53_28 : decode cJ8_hugeLength_7cf53 28 = .ok (.ldc 208, 2) := by decide +kernel
theorem dJ8_hugeLength_7cf53_30 : decode cJ8_hugeLength_7cf53 30 = .ok (.invokevirtual 94, 3) := by decide +kernel
theorem dJ8_hugeLength_7cf53_33 : decode cJ8_hugeLength_7cf53 33 = .ok (.iload_n 1, 1) := by decide +kernel
theorem dJ8_hugeLength_7cf53_34 : decode cJ8_hugeLength_7cf53 34 = .ok (.invokevirtual 98, 3) := by decide +kernel
theorem dJ8_hugeLength_7cf53_37 : decode cJ8_hugeLength_7cf53 37 = .ok (.ldc 210, 2) := by decide +kernel
theorem dJ8_hugeLength_7cf53_39 : decode cJ8_hugeLength_7cf53 39 = .ok (.invokevirtual 94, 3) := by decide +kernel
theorem dJ8_hugeLength_7cf53_42 : decode cJ8_hugeLength_7cf53 42 = .ok (.invokevirtual 101, 3) := by decide +kernel
theorem dJ8_hugeLength_7cf53_45 : decode cJ8_hugeLength_7cf53 45 = .ok (.invokespecial 212, 3) := by decide +kernel
theorem dJ8_hugeLength_7cf53_48 : decode cJ8_hugeLength_7cf53 48 = .ok (.athrow, 1) := by decide +kernel
theorem dJ8_hugeLength_7cf53_49 : decode cJ8_hugeLength_7cf53 49 = .ok (.iload_n 2, 1) := by decide +kernel
theorem dJ8_hugeLength_7cf53_50 : decode cJ8_hugeLength_7cf53 50 = .ok (.ldc 200, 2) := by decide +kernel
theorem dJ8_hugeLength_7cf53_52 : decode cJ8_hugeLength_7cf53 52 = .ok (.if_icmp .gt 6, 3) := by decide +kernel
theorem dJ8_hugeLength_7cf53_55 : decode cJ8_hugeLength_7cf53 55 = .ok (.ldc 200, 2) := by decide +kernel
theorem dJ8_hugeLength_7cf53_57 : decode cJ8_hugeLength_7cf53 57 = .ok (.ireturn, 1) := by decide +kernel
theorem dJ8_hugeLength_7cf53_58 : decode cJ8_hugeLength_7cf53 58 = .ok (.iload_n 2, 1) := by decide +kernel
theorem dJ8_hugeLength_7cf53_59 : decode cJ8_hugeLength_7cf53 59 = .ok (.ireturn, 1) := by decide +kernel
theorem dJ3_checkIndex_8e157_0 : decode cJ3_checkIndex_8e157 0 = .ok (.iload_n 0, 1) := by decide +kernel
theorem dJ3_checkIndex_8e157_1 : decode cJ3_checkIndex_8e157 1 = .ok (.ifCond .lt 8, 3) := by decide +kernel
theorem dJ3_checkIndex_8e157_4 : decode cJ3_checkIndex_8e157 4 = .ok (.iload_n 0, 1) := by decide +kernel
theorem dJ3_checkIndex_8e157_5 : decode cJ3_checkIndex_8e157 5 = .ok (.iload_n 1, 1) := by decide +kernel
theorem dJ3_checkIndex_8e157_6 : decode cJ3_checkIndex_8e157 6 = .ok (.if_icmp .lt 10, 3) := by decide +kernel
theorem dJ3_checkIndex_8e157_9 : decode cJ3_checkIndex_8e157 9 = .ok (.aload_n 2, 1) := by decide +kernel
theorem dJ3_checkIndex_8e157_10 : decode cJ3_checkIndex_8e157 10 = .ok (.iload_n 0, 1) := by decide +kernel
theorem dJ3_checkIndex_8e157_11 : decode cJ3_checkIndex_8e157 11 = .ok (.iload_n 1, 1) := by decide +kernel
theorem dJ3_checkIndex_8e157_12 : decode cJ3_checkIndex_8e157 12 = .ok (.invokestatic 95, 3) := by decide +kernel
theorem dJ3_checkIndex_8e157_15 : decode cJ3_checkIndex_8e157 15 = .ok (.athrow, 1) := by decide +kernel
theorem dJ3_checkIndex_8e157_16 : decode cJ3_checkIndex_8e157 16 = .ok (.iload_n 0, 1) := by decide +kernel
theorem dJ3_checkIndex_8e157_17 : decode cJ3_checkIndex_8e157 17 = .ok (.ireturn, 1) := by decide +kernel
theorem dJ3_checkFromToIndex_8c36e_0 : decode cJ3_checkFromToIndex_8c36e 0 = .ok (.iload_n 0, 1) := by decide +kernel
theorem dJ3_checkFromToIndex_8c36e_1 : decode cJ3_checkFromToIndex_8c36e 1 = .ok (.ifCond .lt 13, 3) := by decide +kernel
theorem dJ3_checkFromToIndex_8c36e_4 : decode cJ3_checkFromToIndex_8c36e 4 = .ok (.iload_n 0, 1) := by decide +kernel
theorem dJ3_checkFromToIndex_8c36e_5 : decode cJ3_checkFromToIndex_8c36e 5 = .ok (.iload_n 1, 1) := by decide +kernel
theorem dJ3_checkFromToIndex_8c36e_6 : decode cJ3_checkFromToIndex_8c36e 6 = .ok (.if_icmp .gt 8, 3) := by decide +kernel
theorem dJ3_checkFromToIndex_8c36e_9 : decode cJ3_checkFromToIndex_8c36e 9 = .ok (.iload_n 1, 1) := by decide +kernel
theorem dJ3_checkFromToIndex_8c36e_10 : decode cJ3_checkFromToIndex_8c36e 10 = .ok (.iload_n 2, 1) := by decide +kernel
theorem dJ3_checkFromToIndex_8c36e_11 : decode cJ3_checkFromToIndex_8c36e 11 = .ok (.if_icmp .le 11, 3) := by decide +kernel
theorem dJ3_checkFromToIndex_8c36e_14 : decode cJ3_checkFromToIndex_8c36e 14 = .ok (.aload_n 3, 1) := by decide +kernel
theorem dJ3_checkFromToIndex_8c36e_15 : decode cJ3_checkFromToIndex_8c36e 15 = .ok (.iload_n 0, 1) := by decide +kernel
theorem dJ3_checkFromToIndex_8c36e_16 : decode cJ3_checkFromToIndex_8c36e 16 = .ok (.iload_n 1, 1) := by decide +kernel
theorem dJ3_checkFromToIndex_8c36e_17 : decode cJ3_checkFromToIndex_8c36e 17 = .ok (.iload_n 2, 1) := by decide +kernel
theorem dJ3_checkFromToIndex_8c36e_18 : decode cJ3_checkFromToIndex_8c36e 18 = .ok (.invokestatic 99, 3) := by decide +kernel
theorem dJ3_checkFromToIndex_8c36e_21 : decode cJ3_checkFromToIndex_8c36e 21 = .ok (.athrow, 1) := by decide +kernel
theorem dJ3_checkFromToIndex_8c36e_22 : decode cJ3_checkFromToIndex_8c36e 22 = .ok (.iload_n 0, 1) := by decide +kernel
theorem dJ3_checkFromToIndex_8c36e_23 : decode cJ3_checkFromToIndex_8c36e 23 = .ok (.ireturn, 1) := by decide +kernel
theorem dJ3_checkFromIndexSize_8c36e_0 : decode cJ3_checkFromIndexSize_8c36e 0 = .ok (.iload_n 2, 1) := by decide +kernel
theorem dJ3_checkFromIndexSize_8c36e_1 : decode cJ3_checkFromIndexSize_8c36e 1 = .ok (.iload_n 0, 1) := by decide +kernel
theorem dJ3_checkFromIndexSize_8c36e_2 : decode cJ3_checkFromIndexSize_8c36e 2 = .ok (.ior, 1) := by decide +kernel
theorem dJ3_checkFromIndexSize_8c36e_3 : decode cJ3_checkFromIndexSize_8c36e 3 = .ok (.iload_n 1, 1) := by decide +kernel
theorem dJ3_checkFromIndexSize_8c36e_4 : decode cJ3_checkFromIndexSize_8c36e 4 = .ok (.ior, 1) := by decide +kernel
theorem dJ3_checkFromIndexSize_8c36e_5 : decode cJ3_checkFromIndexSize_8c36e 5 = .ok (.ifCond .lt 10, 3) := by decide +kernel
theorem dJ3_checkFromIndexSize_8c36e_8 : decode cJ3_checkFromIndexSize_8c36e 8 = .ok (.iload_n 1, 1) := by decide +kernel
theorem dJ3_checkFromIndexSize_8c36e_9 : decode cJ3_checkFromIndexSize_8c36e 9 = .ok (.iload_n 2, 1) := by decide +kernel
theorem dJ3_checkFromIndexSize_8c36e_10 : decode cJ3_checkFromIndexSize_8c36e 10 = .ok (.iload_n 0, 1) := by decide +kernel
theorem dJ3_checkFromIndexSize_8c36e_11 : decode cJ3_checkFromIndexSize_8c36e 11 = .ok (.isub, 1) := by decide +kernel
theorem dJ3_checkFromIndexSize_8c36e_12 : decode cJ3_checkFromIndexSize_8c36e 12 = .ok (.if_icmp .le 11, 3) := by decide +kernel
theorem dJ3_checkFromIndexSize_8c36e_15 : decode cJ3_checkFromIndexSize_8c36e 15 = .ok (.aload_n 3, 1) := by decide +kernel
theorem dJ3_checkFromIndexSize_8c36e_16 : decode cJ3_checkFromIndexSize_8c36e 16 = .ok (.iload_n 0, 1) := by decide +kernel
theorem dJ3_checkFromIndexSize_8c36e_17 : decode cJ3_checkFromIndexSize_8c36e 17 = .ok (.iload_n 1, 1) := by decide +kernel
theorem dJ3_checkFromIndexSize_8c36e_18 : decode cJ3_checkFromIndexSize_8c36e 18 = .ok (.iload_n 2, 1) := by decide +kernel
theorem dJ3_checkFromIndexSize_8c36e_19 : decode cJ3_checkFromIndexSize_8c36e 19 = .ok (.invokestatic 103, 3) := by decide +kernel
theorem dJ3_checkFromIndexSize_8c36e_22 : decode cJ3_checkFromIndexSize_8c36e 22 = .ok (.athrow, 1) := by decide +kernel
theorem dJ3_checkFromIndexSize_8c36e_23 : decode cJ3_checkFromIndexSize_8c36e 23 = .ok (.iload_n 0, 1) := by decide +kernel
theorem dJ3_checkFromIndexSize_8c36e_24 : decode cJ3_checkFromIndexSize_8c36e 24 = .ok (.ireturn, 1) := by decide +kernel
theorem dL_cell_0 : decode cL_cell 0 = .ok (.iload_n 1, 1) := by decide +kernel
theorem dL_cell_1 : decode cL_cell 1 = .ok (.aload_n 0, 1) := by decide +kernel
theorem dL_cell_2 : decode cL_cell 2 = .ok (.arraylength, 1) := by decide +kernel
theorem dL_cell_3 : decode cL_cell 3 = .ok (.if_icmp .ge 9, 3) := by decide +kernel
theorem dL_cell_6 : decode cL_cell 6 = .ok (.aload_n 0, 1) := by decide +kernel
theorem dL_cell_7 : decode cL_cell 7 = .ok (.iload_n 1, 1) := by decide +kernel
theorem dL_cell_8 : decode cL_cell 8 = .ok (.iaload, 1) := by decide +kernel
theorem dL_cell_9 : decode cL_cell 9 = .ok (.goto 4, 3) := by decide +kernel
theorem dL_cell_12 : decode cL_cell 12 = .ok (.iconst 0, 1) := by decide +kernel
theorem dL_cell_13 : decode cL_cell 13 = .ok (.ireturn, 1) := by decide +kernel
theorem dL_part_0 : decode cL_part 0 = .ok (.iload_n 0, 1) := by decide +kernel
theorem dL_part_1 : decode cL_part 1 = .ok (.ldc 7, 2) := by decide +kernel
theorem dL_part_3 : decode cL_part 3 = .ok (.iand, 1) := by decide +kernel
theorem dL_part_4 : decode cL_part 4 = .ok (.iload_n 1, 1) := by decide +kernel
theorem dL_part_5 : decode cL_part 5 = .ok (.irem, 1) := by decide +kernel
theorem dL_part_6 : decode cL_part 6 = .ok (.ireturn, 1) := by decide +kernel
theorem dL_lays_0 : decode cL_lays 0 = .ok (.aload_n 0, 1) := by decide +kernel
theorem dL_lays_1 : decode cL_lays 1 = .ok (.iconst 0, 1) := by decide +kernel
theorem dL_lays_2 : decode cL_lays 2 = .ok (.invokevirtual 8, 3) := by decide +kernel
theorem dL_lays_5 : decode cL_lays 5 = .ok (.iconst 0, 1) := by decide +kernel
theorem dL_lays_6 : decode cL_lays 6 = .ok (.istore_n 2, 1) := by decide +kernel
theorem dL_lays_7 : decode cL_lays 7 = .ok (.iload_n 2, 1) := by decide +kernel
theorem dL_lays_8 : decode cL_lays 8 = .ok (.aload_n 1, 1) := by decide +kernel
theorem dL_lays_9 : decode cL_lays 9 = .ok (.invokevirtual 14, 3) := by decide +kernel
theorem dL_lays_12 : decode cL_lays 12 = .ok (.if_icmp .ge 93, 3) := by decide +kernel
theorem dL_lays_15 : decode cL_lays 15 = .ok (.iconst 5, 1) := by decide +kernel
theorem dL_lays_16 : decode cL_lays 16 = .ok (.newarray .int, 2) := by decide +kernel
theorem dL_lays_18 : decode cL_lays 18 = .ok (.astore_n 3, 1) := by decide +kernel
theorem dL_lays_19 : decode cL_lays 19 = .ok (.iconst 0, 1) := by decide +kernel
theorem dL_lays_20 : decode cL_lays 20 = .ok (.istore 4, 2) := by decide +kernel
theorem dL_lays_22 : decode cL_lays 22 = .ok (.iload 4, 2) := by decide +kernel
theorem dL_lays_24 : decode cL_lays 24 = .ok (.bipush 20, 2) := by decide +kernel
theorem dL_lays_26 : decode cL_lays 26 = .ok (.if_icmp .ge 53, 3) := by decide +kernel
theorem dL_lays_29 : decode cL_lays 29 = .ok (.aload_n 3, 1) := by decide +kernel
theorem dL_lays_30 : decode cL_lays 30 = .ok (.iload 4, 2) := by decide +kernel
theorem dL_lays_32 : decode cL_lays 32 = .ok (.iconst 4, 1) := by decide +kernel
theorem dL_lays_33 : decode cL_lays 33 = .ok (.idiv, 1) := by decide +kernel
theorem dL_lays_34 : decode cL_lays 34 = .ok (.aload_n 3, 1) := by decide +kernel
theorem dL_lays_35 : decode cL_lays 35 = .ok (.iload 4, 2) := by decide +kernel
theorem dL_lays_37 : decode cL_lays 37 = .ok (.iconst 4, 1) := by decide +kernel
theorem dL_lays_38 : decode cL_lays 38 = .ok (.idiv, 1) := by decide +kernel
theorem dL_lays_39 : decode cL_lays 39 = .ok (.iaload, 1) := by decide +kernel
theorem dL_lays_40 : decode cL_lays 40 = .ok (.bipush 8, 2) := by decide +kernel
theorem dL_lays_42 : decode cL_lays 42 = .ok (.ishl, 1) := by decide +kernel
theorem dL_lays_43 : decode cL_lays 43 = .ok (.iload_n 2, 1) := by decide +kernel
theorem dL_lays_44 : decode cL_lays 44 = .ok (.iload 4, 2) := by decide +kernel
theorem dL_lays_46 : decode cL_lays 46 = .ok (.iadd, 1) := by decide +kernel
theorem dL_lays_47 : decode cL_lays 47 = .ok (.aload_n 1, 1) := by decide +kernel
theorem dL_lays_48 : decode cL_lays 48 = .ok (.invokevirtual 14, 3) := by decide +kernel
theorem dL_lays_51 : decode cL_lays 51 = .ok (.if_icmp .ge 18, 3) := by decide +kernel
theorem dL_lays_54 : decode cL_lays 54 = .ok (.aload_n 1, 1) := by decide +kernel
theorem dL_lays_55 : decode cL_lays 55 = .ok (.iload_n 2, 1) := by decide +kernel
theorem dL_lays_56 : decode cL_lays 56 = .ok (.iload 4, 2) := by decide +kernel
theorem dL_lays_58 : decode cL_lays 58 = .ok (.iadd, 1) := by decide +kernel
theorem dL_lays_59 : decode cL_lays 59 = .ok (.invokevirtual 20, 3) := by decide +kernel
theorem dL_lays_62 : decode cL_lays 62 = .ok (.sipush 255, 3) := by decide +kernel
theorem dL_lays_65 : decode cL_lays 65 = .ok (.iand, 1) := by decide +kernel
theorem dL_lays_66 : decode cL_lays 66 = .ok (.goto 5, 3) := by decide +kernel
theorem dL_lays_69 : decode cL_lays 69 = .ok (.bipush 32, 2) := by decide +kernel
theorem dL_lays_71 : decode cL_lays 71 = .ok (.ior, 1) := by decide +kernel
theorem dL_lays_72 : decode cL_lays 72 = .ok (.iastore, 1) := by decide +kernel
theorem dL_lays_73 : decode cL_lays 73 = .ok (.iinc 4 1, 3) := by decide +kernel
theorem dL_lays_76 : decode cL_lays 76 = .ok (.goto (-54), 3) := by decide +kernel
theorem dL_lays_79 : decode cL_lays 79 = .ok (.aload_n 0, 1) := by decide +kernel
theorem dL_lays_80 : decode cL_lays 80 = .ok (.aload_n 3, 1) := by decide +kernel
theorem dL_lays_81 : decode cL_lays 81 = .ok (.iconst 0, 1) := by decide +kernel
theorem dL_lays_82 : decode cL_lays 82 = .ok (.iaload, 1) := by decide +kernel
theorem dL_lays_83 : decode cL_lays 83 = .ok (.aload_n 3, 1) := by decide +kernel
theorem dL_lays_84 : decode cL_lays 84 = .ok (.iconst 1, 1) := by decide +kernel
theorem dL_lays_85 : decode cL_lays 85 = .ok (.iaload, 1) := by decide +kernel
theorem dL_lays_86 : decode cL_lays 86 = .ok (.aload_n 3, 1) := by decide +kernel
theorem dL_lays_87 : decode cL_lays 87 = .ok (.iconst 2, 1) := by decide +kernel
theorem dL_lays_88 : decode cL_lays 88 = .ok (.iaload, 1) := by decide +kernel
theorem dL_lays_89 : decode cL_lays 89 = .ok (.aload_n 3, 1) := by decide +kernel
theorem dL_lays_90 : decode cL_lays 90 = .ok (.iconst 3, 1) := by decide +kernel
theorem dL_lays_91 : decode cL_lays 91 = .ok (.iaload, 1) := by decide +kernel
theorem dL_lays_92 : decode cL_lays 92 = .ok (.aload_n 3, 1) := by decide +kernel
theorem dL_lays_93 : decode cL_lays 93 = .ok (.iconst 4, 1) := by decide +kernel
theorem dL_lays_94 : decode cL_lays 94 = .ok (.iaload, 1) := by decide +kernel
theorem dL_lays_95 : decode cL_lays 95 = .ok (.invokevirtual 24, 3) := by decide +kernel
theorem dL_lays_98 : decode cL_lays 98 = .ok (.pop, 1) := by decide +kernel
theorem dL_lays_99 : decode cL_lays 99 = .ok (.iinc 2 20, 3) := by decide +kernel
theorem dL_lays_102 : decode cL_lays 102 = .ok (.goto (-95), 3) := by decide +kernel
theorem dL_lays_105 : decode cL_lays 105 = .ok (.aload_n 0, 1) := by decide +kernel
theorem dL_lays_106 : decode cL_lays 106 = .ok (.aload_n 1, 1) := by decide +kernel
theorem dL_lays_107 : decode cL_lays 107 = .ok (.invokevirtual 14, 3) := by decide +kernel
theorem dL_lays_110 : decode cL_lays 110 = .ok (.invokevirtual 8, 3) := by decide +kernel
theorem dL_lays_113 : decode cL_lays 113 = .ok (.return_, 1) := by decide +kernel
theorem dL_loads_0 : decode cL_loads 0 = .ok (.aload_n 0, 1) := by decide +kernel
theorem dL_loads_1 : decode cL_loads 1 = .ok (.invokevirtual 28, 3) := by decide +kernel
theorem dL_loads_4 : decode cL_loads 4 = .ok (.ireturn, 1) := by decide +kernel
theorem dL_loads_5 : decode cL_loads 5 = .ok (.astore_n 1, 1) := by decide +kernel
theorem dL_loads_6 : decode cL_loads 6 = .ok (.iconst (-1), 1) := by decide +kernel
theorem dL_loads_7 : decode cL_loads 7 = .ok (.ireturn, 1) := by decide +kernel
theorem dL_load_0 : decode cL_load 0 = .ok (.aload_n 0, 1) := by decide +kernel
theorem dL_load_1 : decode cL_load 1 = .ok (.aload_n 1, 1) := by decide +kernel
theorem dL_load_2 : decode cL_load 2 = .ok (.invokestatic 33, 3) := by decide +kernel
theorem dL_load_5 : decode cL_load 5 = .ok (.aload_n 0, 1) := by decide +kernel
theorem dL_load_6 : decode cL_load 6 = .ok (.invokestatic 39, 3) := by decide +kernel
theorem dL_load_9 : decode cL_load 9 = .ok (.ireturn, 1) := by decide +kernel
theorem dL_roomsOf_0 : decode cL_roomsOf 0 = .ok (.iconst 1, 1) := by decide +kernel
theorem dL_roomsOf_1 : decode cL_roomsOf 1 = .ok (.aload_n 0, 1) := by decide +kernel
theorem dL_roomsOf_2 : decode cL_roomsOf 2 = .ok (.iconst 0, 1) := by decide +kernel
theorem dL_roomsOf_3 : decode cL_roomsOf 3 = .ok (.invokestatic 43, 3) := by decide +kernel
theorem dL_roomsOf_6 : decode cL_roomsOf 6 = .ok (.iconst 4, 1) := by decide +kernel
theorem dL_roomsOf_7 : decode cL_roomsOf 7 = .ok (.invokestatic 47, 3) := by decide +kernel
theorem dL_roomsOf_10 : decode cL_roomsOf 10 = .ok (.iadd, 1) := by decide +kernel
theorem dL_roomsOf_11 : decode cL_roomsOf 11 = .ok (.ireturn, 1) := by decide +kernel
theorem dL_setting_0 : decode cL_setting 0 = .ok (.aload_n 0, 1) := by decide +kernel
theorem dL_setting_1 : decode cL_setting 1 = .ok (.iconst 0, 1) := by decide +kernel
theorem dL_setting_2 : decode cL_setting 2 = .ok (.invokestatic 43, 3) := by decide +kernel
theorem dL_setting_5 : decode cL_setting 5 = .ok (.istore_n 2, 1) := by decide +kernel
theorem dL_setting_6 : decode cL_setting 6 = .ok (.iload_n 1, 1) := by decide +kernel
theorem dL_setting_7 : decode cL_setting 7 = .ok (.ifCond .ne 14, 3) := by decide +kernel
theorem dL_setting_10 : decode cL_setting 10 = .ok (.iload_n 2, 1) := by decide +kernel
theorem dL_setting_11 : decode cL_setting 11 = .ok (.iconst 3, 1) := by decide +kernel
theorem dL_setting_12 : decode cL_setting 12 = .ok (.ishr, 1) := by decide +kernel
theorem dL_setting_13 : decode cL_setting 13 = .ok (.bipush 40, 2) := by decide +kernel
theorem dL_setting_15 : decode cL_setting 15 = .ok (.invokestatic 47, 3) := by decide +kernel
theorem dL_setting_18 : decode cL_setting 18 = .ok (.goto 49, 3) := by decide +kernel
theorem dL_setting_21 : decode cL_setting 21 = .ok (.iload_n 1, 1) := by decide +kernel
theorem dL_setting_22 : decode cL_setting 22 = .ok (.iconst 1, 1) := by decide +kernel
theorem dL_setting_23 : decode cL_setting 23 = .ok (.if_icmp .ne 16, 3) := by decide +kernel
theorem dL_setting_26 : decode cL_setting 26 = .ok (.iload_n 2, 1) := by decide +kernel
theorem dL_setting_27 : decode cL_setting 27 = .ok (.bipush 9, 2) := by decide +kernel
theorem dL_setting_29 : decode cL_setting 29 = .ok (.ishr, 1) := by decide +kernel
theorem dL_setting_30 : decode cL_setting 30 = .ok (.sipush 200, 3) := by decide +kernel
theorem dL_setting_33 : decode cL_setting 33 = .ok (.invokestatic 47, 3) := by decide +kernel
theorem dL_setting_36 : decode cL_setting 36 = .ok (.goto 31, 3) := by decide +kernel
theorem dL_setting_39 : decode cL_setting 39 = .ok (.iload_n 1, 1) := by decide +kernel
theorem dL_setting_40 : decode cL_setting 40 = .ok (.iconst 2, 1) := by decide +kernel
theorem dL_setting_41 : decode cL_setting 41 = .ok (.if_icmp .ne 17, 3) := by decide +kernel
theorem dL_setting_44 : decode cL_setting 44 = .ok (.iconst 2, 1) := by decide +kernel
theorem dL_setting_45 : decode cL_setting 45 = .ok (.iload_n 2, 1) := by decide +kernel
theorem dL_setting_46 : decode cL_setting 46 = .ok (.bipush 17, 2) := by decide +kernel
theorem dL_setting_48 : decode cL_setting 48 = .ok (.ishr, 1) := by decide +kernel
theorem dL_setting_49 : decode cL_setting 49 = .ok (.bipush 10, 2) := by decide +kernel
theorem dL_setting_51 : decode cL_setting 51 = .ok (.invokestatic 47, 3) := by decide +kernel
theorem dL_setting_54 : decode cL_setting 54 = .ok (.iadd, 1) := by decide +kernel
theorem dL_setting_55 : decode cL_setting 55 = .ok (.goto 12, 3) := by decide +kernel
theorem dL_setting_58 : decode cL_setting 58 = .ok (.iload_n 2, 1) := by decide +kernel
theorem dL_setting_59 : decode cL_setting 59 = .ok (.bipush 21, 2) := by decide +kernel
theorem dL_setting_61 : decode cL_setting 61 = .ok (.ishr, 1) := by decide +kernel
theorem dL_setting_62 : decode cL_setting 62 = .ok (.bipush 51, 2) := by decide +kernel
theorem dL_setting_64 : decode cL_setting 64 = .ok (.invokestatic 47, 3) := by decide +kernel
theorem dL_setting_67 : decode cL_setting 67 = .ok (.ireturn, 1) := by decide +kernel
theorem dL_room_0 : decode cL_room 0 = .ok (.aload_n 0, 1) := by decide +kernel
theorem dL_room_1 : decode cL_room 1 = .ok (.iconst 1, 1) := by decide +kernel
theorem dL_room_2 : decode cL_room 2 = .ok (.iload_n 1, 1) := by decide +kernel
theorem dL_room_3 : decode cL_room 3 = .ok (.iadd, 1) := by decide +kernel
theorem dL_room_4 : decode cL_room 4 = .ok (.invokestatic 43, 3) := by decide +kernel
theorem dL_room_7 : decode cL_room 7 = .ok (.istore_n 3, 1) := by decide +kernel
theorem dL_room_8 : decode cL_room 8 = .ok (.iload_n 2, 1) := by decide +kernel
theorem dL_room_9 : decode cL_room 9 = .ok (.ifCond .ne 11, 3) := by decide +kernel
theorem dL_room_12 : decode cL_room 12 = .ok (.iload_n 3, 1) := by decide +kernel
theorem dL_room_13 : decode cL_room 13 = .ok (.iconst 3, 1) := by decide +kernel
theorem dL_room_14 : decode cL_room 14 = .ok (.invokestatic 47, 3) := by decide +kernel
theorem dL_room_17 : decode cL_room 17 = .ok (.goto 49, 3) := by decide +kernel
theorem dL_room_20 : decode cL_room 20 = .ok (.iload_n 2, 1) := by decide +kernel
theorem dL_room_21 : decode cL_room 21 = .ok (.iconst 1, 1) := by decide +kernel
theorem dL_room_22 : decode cL_room 22 = .ok (.if_icmp .ne 15, 3) := by decide +kernel
theorem dL_room_25 : decode cL_room 25 = .ok (.iconst 1, 1) := by decide +kernel
theorem dL_room_26 : decode cL_room 26 = .ok (.iload_n 3, 1) := by decide +kernel
theorem dL_room_27 : decode cL_room 27 = .ok (.iconst 2, 1) := by decide +kernel
theorem dL_room_28 : decode cL_room 28 = .ok (.ishr, 1) := by decide +kernel
theorem dL_room_29 : decode cL_room 29 = .ok (.iconst 5, 1) := by decide +kernel
theorem dL_room_30 : decode cL_room 30 = .ok (.invokestatic 47, 3) := by decide +kernel
theorem dL_room_33 : decode cL_room 33 = .ok (.iadd, 1) := by decide +kernel
theorem dL_room_34 : decode cL_room 34 = .ok (.goto 32, 3) := by decide +kernel
theorem dL_room_37 : decode cL_room 37 = .ok (.iload_n 2, 1) := by decide +kernel
theorem dL_room_38 : decode cL_room 38 = .ok (.iconst 2, 1) := by decide +kernel
theorem dL_room_39 : decode cL_room 39 = .ok (.if_icmp .ne 16, 3) := by decide +kernel
theorem dL_room_42 : decode cL_room 42 = .ok (.bipush 9, 2) := by decide +kernel
theorem dL_room_44 : decode cL_room 44 = .ok (.iload_n 3, 1) := by decide +kernel
theorem dL_room_45 : decode cL_room 45 = .ok (.iconst 5, 1) := by decide +kernel
theorem dL_room_46 : decode cL_room 46 = .ok (.ishr, 1) := by decide +kernel
theorem dL_room_47 : decode cL_room 47 = .ok (.iconst 3, 1) := by decide +kernel
theorem dL_room_48 : decode cL_room 48 = .ok (.invokestatic 47, 3) := by decide +kernel
theorem dL_room_51 : decode cL_room 51 = .ok (.imul, 1) := by decide +kernel
theorem dL_room_52 : decode cL_room 52 = .ok (.goto 14, 3) := by decide +kernel
theorem dL_room_55 : decode cL_room 55 = .ok (.iconst 5, 1) := by decide +kernel
theorem dL_room_56 : decode cL_room 56 = .ok (.iload_n 3, 1) := by decide +kernel
theorem dL_room_57 : decode cL_room 57 = .ok (.bipush 8, 2) := by decide +kernel
theorem dL_room_59 : decode cL_room 59 = .ok (.ishr, 1) := by decide +kernel
theorem dL_room_60 : decode cL_room 60 = .ok (.bipush 60, 2) := by decide +kernel
theorem dL_room_62 : decode cL_room 62 = .ok (.invokestatic 47, 3) := by decide +kernel
theorem dL_room_65 : decode cL_room 65 = .ok (.iadd, 1) := by decide +kernel
theorem dL_room_66 : decode cL_room 66 = .ok (.ireturn, 1) := by decide +kernel
theorem dL_bookingsOf_0 : decode cL_bookingsOf 0 = .ok (.aload_n 0, 1) := by decide +kernel
theorem dL_bookingsOf_1 : decode cL_bookingsOf 1 = .ok (.iconst 5, 1) := by decide +kernel
theorem dL_bookingsOf_2 : decode cL_bookingsOf 2 = .ok (.invokestatic 43, 3) := by decide +kernel
theorem dL_bookingsOf_5 : decode cL_bookingsOf 5 = .ok (.bipush 8, 2) := by decide +kernel
theorem dL_bookingsOf_7 : decode cL_bookingsOf 7 = .ok (.invokestatic 47, 3) := by decide +kernel
theorem dL_bookingsOf_10 : decode cL_bookingsOf 10 = .ok (.ireturn, 1) := by decide +kernel
theorem dL_booking_0 : decode cL_booking 0 = .ok (.aload_n 0, 1) := by decide +kernel
theorem dL_booking_1 : decode cL_booking 1 = .ok (.bipush 6, 2) := by decide +kernel
theorem dL_booking_3 : decode cL_booking 3 = .ok (.iload_n 1, 1) := by decide +kernel
theorem dL_booking_4 : decode cL_booking 4 = .ok (.iadd, 1) := by decide +kernel
theorem dL_booking_5 : decode cL_booking 5 = .ok (.invokestatic 43, 3) := by decide +kernel
theorem dL_booking_8 : decode cL_booking 8 = .ok (.istore_n 3, 1) := by decide +kernel
theorem dL_booking_9 : decode cL_booking 9 = .ok (.iload_n 3, 1) := by decide +kernel
theorem dL_booking_10 : decode cL_booking 10 = .ok (.bipush 30, 2) := by decide +kernel
theorem dL_booking_12 : decode cL_booking 12 = .ok (.invokestatic 47, 3) := by decide +kernel
theorem dL_booking_15 : decode cL_booking 15 = .ok (.istore 4, 2) := by decide +kernel
theorem dL_booking_17 : decode cL_booking 17 = .ok (.iload_n 3, 1) := by decide +kernel
theorem dL_booking_18 : decode cL_booking 18 = .ok (.bipush 8, 2) := by decide +kernel
theorem dL_booking_20 : decode cL_booking 20 = .ok (.ishr, 1) := by decide +kernel
theorem dL_booking_21 : decode cL_booking 21 = .ok (.iconst 4, 1) := by decide +kernel
theorem dL_booking_22 : decode cL_booking 22 = .ok (.invokestatic 47, 3) := by decide +kernel
theorem dL_booking_25 : decode cL_booking 25 = .ok (.istore 5, 2) := by decide +kernel
theorem dL_booking_27 : decode cL_booking 27 = .ok (.iload_n 2, 1) := by decide +kernel
theorem dL_booking_28 : decode cL_booking 28 = .ok (.tableswitch 112 0 5 #[40, 43, 62, 65, 92, 102], 40) := by decide +kernel
theorem dL_booking_68 : decode cL_booking 68 = .ok (.iload 4, 2) := by decide +kernel
theorem dL_booking_70 : decode cL_booking 70 = .ok (.ireturn, 1) := by decide +kernel
theorem dL_booking_71 : decode cL_booking 71 = .ok (.iconst 1, 1) := by decide +kernel
theorem dL_booking_72 : decode cL_booking 72 = .ok (.iload_n 3, 1) := by decide +kernel
theorem dL_booking_73 : decode cL_booking 73 = .ok (.iconst 5, 1) := by decide +kernel
theorem dL_booking_74 : decode cL_booking 74 = .ok (.ishr, 1) := by decide +kernel
theorem dL_booking_75 : decode cL_booking 75 = .ok (.bipush 8, 2) := by decide +kernel
theorem dL_booking_77 : decode cL_booking 77 = .ok (.bipush 30, 2) := by decide +kernel
theorem dL_booking_79 : decode cL_booking 79 = .ok (.iload 4, 2) := by decide +kernel
theorem dL_booking_81 : decode cL_booking 81 = .ok (.isub, 1) := by decide +kernel
theorem dL_booking_82 : decode cL_booking 82 = .ok (.invokestatic 51, 3) := by decide +kernel
theorem dL_booking_85 : decode cL_booking 85 = .ok (.invokestatic 47, 3) := by decide +kernel
theorem dL_booking_88 : decode cL_booking 88 = .ok (.iadd, 1) := by decide +kernel
theorem dL_booking_89 : decode cL_booking 89 = .ok (.ireturn, 1) := by decide +kernel
theorem dL_booking_90 : decode cL_booking 90 = .ok (.iload 5, 2) := by decide +kernel
theorem dL_booking_92 : decode cL_booking 92 = .ok (.ireturn, 1) := by decide +kernel
theorem dL_booking_93 : decode cL_booking 93 = .ok (.iload 5, 2) := by decide +kernel
theorem dL_booking_95 : decode cL_booking 95 = .ok (.ifCond .ne 16, 3) := by decide +kernel
theorem dL_booking_98 : decode cL_booking 98 = .ok (.iconst 1, 1) := by decide +kernel
theorem dL_booking_99 : decode cL_booking 99 = .ok (.iload_n 3, 1) := by decide +kernel
theorem dL_booking_100 : decode cL_booking 100 = .ok (.bipush 11, 2) := by decide +kernel
theorem dL_booking_102 : decode cL_booking 102 = .ok (.ishr, 1) := by decide +kernel
theorem dL_booking_103 : decode cL_booking 103 = .ok (.iconst 4, 1) := by decide +kernel
theorem dL_booking_104 : decode cL_booking 104 = .ok (.invokestatic 47, 3) := by decide +kernel
theorem dL_booking_107 : decode cL_booking 107 = .ok (.iadd, 1) := by decide +kernel
theorem dL_booking_108 : decode cL_booking 108 = .ok (.goto 11, 3) := by decide +kernel
theorem dL_booking_111 : decode cL_booking 111 = .ok (.iload_n 3, 1) := by decide +kernel
theorem dL_booking_112 : decode cL_booking 112 = .ok (.bipush 11, 2) := by decide +kernel
theorem dL_booking_114 : decode cL_booking 114 = .ok (.ishr, 1) := by decide +kernel
theorem dL_booking_115 : decode cL_booking 115 = .ok (.iconst 4, 1) := by decide +kernel
theorem dL_booking_116 : decode cL_booking 116 = .ok (.invokestatic 47, 3) := by decide +kernel
theorem dL_booking_119 : decode cL_booking 119 = .ok (.ireturn, 1) := by decide +kernel
theorem dL_booking_120 : decode cL_booking 120 = .ok (.iload_n 3, 1) := by decide +kernel
theorem dL_booking_121 : decode cL_booking 121 = .ok (.bipush 14, 2) := by decide +kernel
theorem dL_booking_123 : decode cL_booking 123 = .ok (.ishr, 1) := by decide +kernel
theorem dL_booking_124 : decode cL_booking 124 = .ok (.bipush 30, 2) := by decide +kernel
theorem dL_booking_126 : decode cL_booking 126 = .ok (.invokestatic 47, 3) := by decide +kernel
theorem dL_booking_129 : decode cL_booking 129 = .ok (.ireturn, 1) := by decide +kernel
theorem dL_booking_130 : decode cL_booking 130 = .ok (.iload_n 3, 1) := by decide +kernel
theorem dL_booking_131 : decode cL_booking 131 = .ok (.bipush 19, 2) := by decide +kernel
theorem dL_booking_133 : decode cL_booking 133 = .ok (.ishr, 1) := by decide +kernel
theorem dL_booking_134 : decode cL_booking 134 = .ok (.bipush 101, 2) := by decide +kernel
theorem dL_booking_136 : decode cL_booking 136 = .ok (.invokestatic 47, 3) := by decide +kernel
theorem dL_booking_139 : decode cL_booking 139 = .ok (.ireturn, 1) := by decide +kernel
theorem dL_booking_140 : decode cL_booking 140 = .ok (.iload_n 3, 1) := by decide +kernel
theorem dL_booking_141 : decode cL_booking 141 = .ok (.bipush 26, 2) := by decide +kernel
theorem dL_booking_143 : decode cL_booking 143 = .ok (.ishr, 1) := by decide +kernel
theorem dL_booking_144 : decode cL_booking 144 = .ok (.iconst 4, 1) := by decide +kernel
theorem dL_booking_145 : decode cL_booking 145 = .ok (.invokestatic 47, 3) := by decide +kernel
theorem dL_booking_148 : decode cL_booking 148 = .ok (.ifCond .ne 7, 3) := by decide +kernel
theorem dL_booking_151 : decode cL_booking 151 = .ok (.iconst 1, 1) := by decide +kernel
theorem dL_booking_152 : decode cL_booking 152 = .ok (.goto 4, 3) := by decide +kernel
theorem dL_booking_155 : decode cL_booking 155 = .ok (.iconst 0, 1) := by decide +kernel
theorem dL_booking_156 : decode cL_booking 156 = .ok (.ireturn, 1) := by decide +kernel
theorem dL_text_0 : decode cL_text 0 = .ok (.iconst 3, 1) := by decide +kernel
theorem dL_text_1 : decode cL_text 1 = .ok (.anewarray 15, 3) := by decide +kernel
theorem dL_text_4 : decode cL_text 4 = .ok (.dup, 1) := by decide +kernel
theorem dL_text_5 : decode cL_text 5 = .ok (.iconst 0, 1) := by decide +kernel
theorem dL_text_6 : decode cL_text 6 = .ok (.ldc 56, 2) := by decide +kernel
theorem dL_text_8 : decode cL_text 8 = .ok (.aastore, 1) := by decide +kernel
theorem dL_text_9 : decode cL_text 9 = .ok (.dup, 1) := by decide +kernel
theorem dL_text_10 : decode cL_text 10 = .ok (.iconst 1, 1) := by decide +kernel
theorem dL_text_11 : decode cL_text 11 = .ok (.ldc 58, 2) := by decide +kernel
theorem dL_text_13 : decode cL_text 13 = .ok (.aastore, 1) := by decide +kernel
theorem dL_text_14 : decode cL_text 14 = .ok (.dup, 1) := by decide +kernel
theorem dL_text_15 : decode cL_text 15 = .ok (.iconst 2, 1) := by decide +kernel
theorem dL_text_16 : decode cL_text 16 = .ok (.ldc 60, 2) := by decide +kernel
theorem dL_text_18 : decode cL_text 18 = .ok (.aastore, 1) := by decide +kernel
theorem dL_text_19 : decode cL_text 19 = .ok (.astore_n 1, 1) := by decide +kernel
theorem dL_text_20 : decode cL_text 20 = .ok (.new 62, 3) := by decide +kernel
theorem dL_text_23 : decode cL_text 23 = .ok (.dup, 1) := by decide +kernel
theorem dL_text_24 : decode cL_text 24 = .ok (.invokespecial 64, 3) := by decide +kernel
theorem dL_text_27 : decode cL_text 27 = .ok (.astore_n 2, 1) := by decide +kernel
theorem dL_text_28 : decode cL_text 28 = .ok (.iconst 0, 1) := by decide +kernel
theorem dL_text_29 : decode cL_text 29 = .ok (.istore_n 3, 1) := by decide +kernel
theorem dL_text_30 : decode cL_text 30 = .ok (.iload_n 3, 1) := by decide +kernel
theorem dL_text_31 : decode cL_text 31 = .ok (.aload_n 0, 1) := by decide +kernel
theorem dL_text_32 : decode cL_text 32 = .ok (.invokestatic 65, 3) := by decide +kernel
theorem dL_text_35 : decode cL_text 35 = .ok (.if_icmp .ge 87, 3) := by decide +kernel
theorem dL_text_38 : decode cL_text 38 = .ok (.aload_n 2, 1) := by decide +kernel
theorem dL_text_39 : decode cL_text 39 = .ok (.ldc 69, 2) := by decide +kernel
theorem dL_text_41 : decode cL_text 41 = .ok (.invokevirtual 71, 3) := by decide +kernel
theorem dL_text_44 : decode cL_text 44 = .ok (.bipush 97, 2) := by decide +kernel
theorem dL_text_46 : decode cL_text 46 = .ok (.iload_n 3, 1) := by decide +kernel
theorem dL_text_47 : decode cL_text 47 = .ok (.iadd, 1) := by decide +kernel
theorem dL_text_48 : decode cL_text 48 = .ok (.i2c, 1) := by decide +kernel
theorem dL_text_49 : decode cL_text 49 = .ok (.invokevirtual 74, 3) := by decide +kernel
theorem dL_text_52 : decode cL_text 52 = .ok (.bipush 32, 2) := by decide +kernel
theorem dL_text_54 : decode cL_text 54 = .ok (.invokevirtual 74, 3) := by decide +kernel
theorem dL_text_57 : decode cL_text 57 = .ok (.aload_n 1, 1) := by decide +kernel
theorem dL_text_58 : decode cL_text 58 = .ok (.aload_n 0, 1) := by decide +kernel
theorem dL_text_59 : decode cL_text 59 = .ok (.iload_n 3, 1) := by decide +kernel
theorem dL_text_60 : decode cL_text 60 = .ok (.iconst 0, 1) := by decide +kernel
theorem dL_text_61 : decode cL_text 61 = .ok (.invokestatic 77, 3) := by decide +kernel
theorem dL_text_64 : decode cL_text 64 = .ok (.aaload, 1) := by decide +kernel
theorem dL_text_65 : decode cL_text 65 = .ok (.invokevirtual 71, 3) := by decide +kernel
theorem dL_text_68 : decode cL_text 68 = .ok (.bipush 32, 2) := by decide +kernel
theorem dL_text_70 : decode cL_text 70 = .ok (.invokevirtual 74, 3) := by decide +kernel
theorem dL_text_73 : decode cL_text 73 = .ok (.aload_n 0, 1) := by decide +kernel
theorem dL_text_74 : decode cL_text 74 = .ok (.iload_n 3, 1) := by decide +kernel
theorem dL_text_75 : decode cL_text 75 = .ok (.iconst 1, 1) := by decide +kernel
theorem dL_text_76 : decode cL_text 76 = .ok (.invokestatic 77, 3) := by decide +kernel
theorem dL_text_79 : decode cL_text 79 = .ok (.invokevirtual 81, 3) := by decide +kernel
theorem dL_text_82 : decode cL_text 82 = .ok (.bipush 32, 2) := by decide +kernel
theorem dL_text_84 : decode cL_text 84 = .ok (.invokevirtual 74, 3) := by decide +kernel
theorem dL_text_87 : decode cL_text 87 = .ok (.aload_n 0, 1) := by decide +kernel
theorem dL_text_88 : decode cL_text 88 = .ok (.iload_n 3, 1) := by decide +kernel
theorem dL_text_89 : decode cL_text 89 = .ok (.iconst 2, 1) := by decide +kernel
theorem dL_text_90 : decode cL_text 90 = .ok (.invokestatic 77, 3) := by decide +kernel
theorem dL_text_93 : decode cL_text 93 = .ok (.invokevirtual 81, 3) := by decide +kernel
theorem dL_text_96 : decode cL_text 96 = .ok (.bipush 32, 2) := by decide +kernel
theorem dL_text_98 : decode cL_text 98 = .ok (.invokevirtual 74, 3) := by decide +kernel
theorem dL_text_101 : decode cL_text 101 = .ok (.aload_n 0, 1) := by decide +kernel
theorem dL_text_102 : decode cL_text 102 = .ok (.iload_n 3, 1) := by decide +kernel
theorem dL_text_103 : decode cL_text 103 = .ok (.iconst 3, 1) := by decide +kernel
theorem dL_text_104 : decode cL_text 104 = .ok (.invokestatic 77, 3) := by decide +kernel
theorem dL_text_107 : decode cL_text 107 = .ok (.invokevirtual 81, 3) := by decide +kernel
theorem dL_text_110 : decode cL_text 110 = .ok (.bipush 59, 2) := by decide +kernel
theorem dL_text_112 : decode cL_text 112 = .ok (.invokevirtual 74, 3) := by decide +kernel
theorem dL_text_115 : decode cL_text 115 = .ok (.pop, 1) := by decide +kernel
theorem dL_text_116 : decode cL_text 116 = .ok (.iinc 3 1, 3) := by decide +kernel
theorem dL_text_119 : decode cL_text 119 = .ok (.goto (-89), 3) := by decide +kernel
theorem dL_text_122 : decode cL_text 122 = .ok (.aload_n 2, 1) := by decide +kernel
theorem dL_text_123 : decode cL_text 123 = .ok (.ldc 84, 2) := by decide +kernel
theorem dL_text_125 : decode cL_text 125 = .ok (.invokevirtual 71, 3) := by decide +kernel
theorem dL_text_128 : decode cL_text 128 = .ok (.aload_n 0, 1) := by decide +kernel
theorem dL_text_129 : decode cL_text 129 = .ok (.iconst 0, 1) := by decide +kernel
theorem dL_text_130 : decode cL_text 130 = .ok (.invokestatic 86, 3) := by decide +kernel
theorem dL_text_133 : decode cL_text 133 = .ok (.invokevirtual 81, 3) := by decide +kernel
theorem dL_text_136 : decode cL_text 136 = .ok (.ldc 89, 2) := by decide +kernel
theorem dL_text_138 : decode cL_text 138 = .ok (.invokevirtual 71, 3) := by decide +kernel
theorem dL_text_141 : decode cL_text 141 = .ok (.aload_n 0, 1) := by decide +kernel
theorem dL_text_142 : decode cL_text 142 = .ok (.iconst 1, 1) := by decide +kernel
theorem dL_text_143 : decode cL_text 143 = .ok (.invokestatic 86, 3) := by decide +kernel
theorem dL_text_146 : decode cL_text 146 = .ok (.invokevirtual 81, 3) := by decide +kernel
theorem dL_text_149 : decode cL_text 149 = .ok (.ldc 91, 2) := by decide +kernel
theorem dL_text_151 : decode cL_text 151 = .ok (.invokevirtual 71, 3) := by decide +kernel
theorem dL_text_154 : decode cL_text 154 = .ok (.aload_n 0, 1) := by decide +kernel
theorem dL_text_155 : decode cL_text 155 = .ok (.iconst 2, 1) := by decide +kernel
theorem dL_text_156 : decode cL_text 156 = .ok (.invokestatic 86, 3) := by decide +kernel
theorem dL_text_159 : decode cL_text 159 = .ok (.invokevirtual 81, 3) := by decide +kernel
theorem dL_text_162 : decode cL_text 162 = .ok (.bipush 32, 2) := by decide +kernel
theorem dL_text_164 : decode cL_text 164 = .ok (.invokevirtual 74, 3) := by decide +kernel
theorem dL_text_167 : decode cL_text 167 = .ok (.aload_n 0, 1) := by decide +kernel
theorem dL_text_168 : decode cL_text 168 = .ok (.iconst 3, 1) := by decide +kernel
theorem dL_text_169 : decode cL_text 169 = .ok (.invokestatic 86, 3) := by decide +kernel
theorem dL_text_172 : decode cL_text 172 = .ok (.invokevirtual 81, 3) := by decide +kernel
theorem dL_text_175 : decode cL_text 175 = .ok (.bipush 59, 2) := by decide +kernel
theorem dL_text_177 : decode cL_text 177 = .ok (.invokevirtual 74, 3) := by decide +kernel
theorem dL_text_180 : decode cL_text 180 = .ok (.pop, 1) := by decide +kernel
theorem dL_text_181 : decode cL_text 181 = .ok (.iconst 0, 1) := by decide +kernel
theorem dL_text_182 : decode cL_text 182 = .ok (.istore_n 3, 1) := by decide +kernel
theorem dL_text_183 : decode cL_text 183 = .ok (.iload_n 3, 1) := by decide +kernel
theorem dL_text_184 : decode cL_text 184 = .ok (.aload_n 0, 1) := by decide +kernel
theorem dL_text_185 : decode cL_text 185 = .ok (.invokestatic 93, 3) := by decide +kernel
theorem dL_text_188 : decode cL_text 188 = .ok (.if_icmp .ge 80, 3) := by decide +kernel
theorem dL_text_191 : decode cL_text 191 = .ok (.aload_n 2, 1) := by decide +kernel
theorem dL_text_192 : decode cL_text 192 = .ok (.ldc 96, 2) := by decide +kernel
theorem dL_text_194 : decode cL_text 194 = .ok (.invokevirtual 71, 3) := by decide +kernel
theorem dL_text_197 : decode cL_text 197 = .ok (.bipush 97, 2) := by decide +kernel
theorem dL_text_199 : decode cL_text 199 = .ok (.iload_n 3, 1) := by decide +kernel
theorem dL_text_200 : decode cL_text 200 = .ok (.iadd, 1) := by decide +kernel
theorem dL_text_201 : decode cL_text 201 = .ok (.i2c, 1) := by decide +kernel
theorem dL_text_202 : decode cL_text 202 = .ok (.invokevirtual 74, 3) := by decide +kernel
theorem dL_text_205 : decode cL_text 205 = .ok (.pop, 1) := by decide +kernel
theorem dL_text_206 : decode cL_text 206 = .ok (.iconst 0, 1) := by decide +kernel
theorem dL_text_207 : decode cL_text 207 = .ok (.istore 4, 2) := by decide +kernel
theorem dL_text_209 : decode cL_text 209 = .ok (.iload 4, 2) := by decide +kernel
theorem dL_text_211 : decode cL_text 211 = .ok (.bipush 6, 2) := by decide +kernel
theorem dL_text_213 : decode cL_text 213 = .ok (.if_icmp .ge 26, 3) := by decide +kernel
theorem dL_text_216 : decode cL_text 216 = .ok (.aload_n 2, 1) := by decide +kernel
theorem dL_text_217 : decode cL_text 217 = .ok (.bipush 32, 2) := by decide +kernel
theorem dL_text_219 : decode cL_text 219 = .ok (.invokevirtual 74, 3) := by decide +kernel
theorem dL_text_222 : decode cL_text 222 = .ok (.aload_n 0, 1) := by decide +kernel
theorem dL_text_223 : decode cL_text 223 = .ok (.iload_n 3, 1) := by decide +kernel
theorem dL_text_224 : decode cL_text 224 = .ok (.iload 4, 2) := by decide +kernel
theorem dL_text_226 : decode cL_text 226 = .ok (.invokestatic 98, 3) := by decide +kernel
theorem dL_text_229 : decode cL_text 229 = .ok (.invokevirtual 81, 3) := by decide +kernel
theorem dL_text_232 : decode cL_text 232 = .ok (.pop, 1) := by decide +kernel
theorem dL_text_233 : decode cL_text 233 = .ok (.iinc 4 1, 3) := by decide +kernel
theorem dL_text_236 : decode cL_text 236 = .ok (.goto (-27), 3) := by decide +kernel
theorem dL_text_239 : decode cL_text 239 = .ok (.aload_n 2, 1) := by decide +kernel
theorem dL_text_240 : decode cL_text 240 = .ok (.aload_n 0, 1) := by decide +kernel
theorem dL_text_241 : decode cL_text 241 = .ok (.iload_n 3, 1) := by decide +kernel
theorem dL_text_242 : decode cL_text 242 = .ok (.bipush 6, 2) := by decide +kernel
theorem dL_text_244 : decode cL_text 244 = .ok (.invokestatic 98, 3) := by decide +kernel
theorem dL_text_247 : decode cL_text 247 = .ok (.iconst 1, 1) := by decide +kernel
theorem dL_text_248 : decode cL_text 248 = .ok (.if_icmp .ne 8, 3) := by decide +kernel
theorem dL_text_251 : decode cL_text 251 = .ok (.ldc 101, 2) := by decide +kernel
theorem dL_text_253 : decode cL_text 253 = .ok (.goto 5, 3) := by decide +kernel
theorem dL_text_256 : decode cL_text 256 = .ok (.ldc 103, 2) := by decide +kernel
theorem dL_text_258 : decode cL_text 258 = .ok (.invokevirtual 71, 3) := by decide +kernel
theorem dL_text_261 : decode cL_text 261 = .ok (.pop, 1) := by decide +kernel
theorem dL_text_262 : decode cL_text 262 = .ok (.iinc 3 1, 3) := by decide +kernel
theorem dL_text_265 : decode cL_text 265 = .ok (.goto (-82), 3) := by decide +kernel
theorem dL_text_268 : decode cL_text 268 = .ok (.aload_n 2, 1) := by decide +kernel
theorem dL_text_269 : decode cL_text 269 = .ok (.invokevirtual 105, 3) := by decide +kernel
theorem dL_text_272 : decode cL_text 272 = .ok (.areturn, 1) := by decide +kernel
theorem dL_noBed_0 : decode cL_noBed 0 = .ok (.aload_n 0, 1) := by decide +kernel
theorem dL_noBed_1 : decode cL_noBed 1 = .ok (.iload_n 1, 1) := by decide +kernel
theorem dL_noBed_2 : decode cL_noBed 2 = .ok (.iload_n 2, 1) := by decide +kernel
theorem dL_noBed_3 : decode cL_noBed 3 = .ok (.invokevirtual 109, 3) := by decide +kernel
theorem dL_noBed_6 : decode cL_noBed 6 = .ok (.ifCond .ge 8, 3) := by decide +kernel
theorem dL_noBed_9 : decode cL_noBed 9 = .ok (.bipush 9, 2) := by decide +kernel
theorem dL_noBed_11 : decode cL_noBed 11 = .ok (.goto 4, 3) := by decide +kernel
theorem dL_noBed_14 : decode cL_noBed 14 = .ok (.iconst 0, 1) := by decide +kernel
theorem dL_noBed_15 : decode cL_noBed 15 = .ok (.ireturn, 1) := by decide +kernel
theorem dL_noBed_16 : decode cL_noBed 16 = .ok (.astore_n 3, 1) := by decide +kernel
theorem dL_noBed_17 : decode cL_noBed 17 = .ok (.iconst 1, 1) := by decide +kernel
theorem dL_noBed_18 : decode cL_noBed 18 = .ok (.ireturn, 1) := by decide +kernel
theorem dL_noBed_19 : decode cL_noBed 19 = .ok (.astore_n 3, 1) := by decide +kernel
theorem dL_noBed_20 : decode cL_noBed 20 = .ok (.iconst 2, 1) := by decide +kernel
theorem dL_noBed_21 : decode cL_noBed 21 = .ok (.ireturn, 1) := by decide +kernel
theorem dL_noNumber_0 : decode cL_noNumber 0 = .ok (.aload_n 0, 1) := by decide +kernel
theorem dL_noNumber_1 : decode cL_noNumber 1 = .ok (.iload_n 1, 1) := by decide +kernel
theorem dL_noNumber_2 : decode cL_noNumber 2 = .ok (.iload_n 2, 1) := by decide +kernel
theorem dL_noNumber_3 : decode cL_noNumber 3 = .ok (.invokevirtual 116, 3) := by decide +kernel
theorem dL_noNumber_6 : decode cL_noNumber 6 = .ok (.ifCond .ge 8, 3) := by decide +kernel
theorem dL_noNumber_9 : decode cL_noNumber 9 = .ok (.bipush 9, 2) := by decide +kernel
theorem dL_noNumber_11 : decode cL_noNumber 11 = .ok (.goto 4, 3) := by decide +kernel
theorem dL_noNumber_14 : decode cL_noNumber 14 = .ok (.iconst 0, 1) := by decide +kernel
theorem dL_noNumber_15 : decode cL_noNumber 15 = .ok (.ireturn, 1) := by decide +kernel
theorem dL_noNumber_16 : decode cL_noNumber 16 = .ok (.astore_n 3, 1) := by decide +kernel
theorem dL_noNumber_17 : decode cL_noNumber 17 = .ok (.iconst 1, 1) := by decide +kernel
theorem dL_noNumber_18 : decode cL_noNumber 18 = .ok (.ireturn, 1) := by decide +kernel
theorem dL_noNumber_19 : decode cL_noNumber 19 = .ok (.astore_n 3, 1) := by decide +kernel
theorem dL_noNumber_20 : decode cL_noNumber 20 = .ok (.iconst 2, 1) := by decide +kernel
theorem dL_noNumber_21 : decode cL_noNumber 21 = .ok (.ireturn, 1) := by decide +kernel
theorem dL_people_0 : decode cL_people 0 = .ok (.aload_n 0, 1) := by decide +kernel
theorem dL_people_1 : decode cL_people 1 = .ok (.iload_n 1, 1) := by decide +kernel
theorem dL_people_2 : decode cL_people 2 = .ok (.iconst 2, 1) := by decide +kernel
theorem dL_people_3 : decode cL_people 3 = .ok (.invokestatic 98, 3) := by decide +kernel
theorem dL_people_6 : decode cL_people 6 = .ok (.aload_n 0, 1) := by decide +kernel
theorem dL_people_7 : decode cL_people 7 = .ok (.iload_n 1, 1) := by decide +kernel
theorem dL_people_8 : decode cL_people 8 = .ok (.iconst 3, 1) := by decide +kernel
theorem dL_people_9 : decode cL_people 9 = .ok (.invokestatic 98, 3) := by decide +kernel
theorem dL_people_12 : decode cL_people 12 = .ok (.iadd, 1) := by decide +kernel
theorem dL_people_13 : decode cL_people 13 = .ok (.ireturn, 1) := by decide +kernel
theorem dL_isIn_0 : decode cL_isIn 0 = .ok (.iload_n 2, 1) := by decide +kernel
theorem dL_isIn_1 : decode cL_isIn 1 = .ok (.aload_n 0, 1) := by decide +kernel
theorem dL_isIn_2 : decode cL_isIn 2 = .ok (.iload_n 1, 1) := by decide +kernel
theorem dL_isIn_3 : decode cL_isIn 3 = .ok (.iconst 0, 1) := by decide +kernel
theorem dL_isIn_4 : decode cL_isIn 4 = .ok (.invokestatic 98, 3) := by decide +kernel
theorem dL_isIn_7 : decode cL_isIn 7 = .ok (.if_icmp .lt 24, 3) := by decide +kernel
theorem dL_isIn_10 : decode cL_isIn 10 = .ok (.iload_n 2, 1) := by decide +kernel
theorem dL_isIn_11 : decode cL_isIn 11 = .ok (.aload_n 0, 1) := by decide +kernel
theorem dL_isIn_12 : decode cL_isIn 12 = .ok (.iload_n 1, 1) := by decide +kernel
theorem dL_isIn_13 : decode cL_isIn 13 = .ok (.iconst 0, 1) := by decide +kernel
theorem dL_isIn_14 : decode cL_isIn 14 = .ok (.invokestatic 98, 3) := by decide +kernel
theorem dL_isIn_17 : decode cL_isIn 17 = .ok (.aload_n 0, 1) := by decide +kernel
theorem dL_isIn_18 : decode cL_isIn 18 = .ok (.iload_n 1, 1) := by decide +kernel
theorem dL_isIn_19 : decode cL_isIn 19 = .ok (.iconst 1, 1) := by decide +kernel
theorem dL_isIn_20 : decode cL_isIn 20 = .ok (.invokestatic 98, 3) := by decide +kernel
theorem dL_isIn_23 : decode cL_isIn 23 = .ok (.iadd, 1) := by decide +kernel
theorem dL_isIn_24 : decode cL_isIn 24 = .ok (.if_icmp .ge 7, 3) := by decide +kernel
theorem dL_isIn_27 : decode cL_isIn 27 = .ok (.iconst 1, 1) := by decide +kernel
theorem dL_isIn_28 : decode cL_isIn 28 = .ok (.goto 4, 3) := by decide +kernel
theorem dL_isIn_31 : decode cL_isIn 31 = .ok (.iconst 0, 1) := by decide +kernel
theorem dL_isIn_32 : decode cL_isIn 32 = .ok (.ireturn, 1) := by decide +kernel
theorem dL_beds_0 : decode cL_beds 0 = .ok (.iconst 0, 1) := by decide +kernel
theorem dL_beds_1 : decode cL_beds 1 = .ok (.istore_n 1, 1) := by decide +kernel
theorem dL_beds_2 : decode cL_beds 2 = .ok (.iconst 0, 1) := by decide +kernel
theorem dL_beds_3 : decode cL_beds 3 = .ok (.istore_n 2, 1) := by decide +kernel
theorem dL_beds_4 : decode cL_beds 4 = .ok (.iload_n 2, 1) := by decide +kernel
theorem dL_beds_5 : decode cL_beds 5 = .ok (.aload_n 0, 1) := by decide +kernel
theorem dL_beds_6 : decode cL_beds 6 = .ok (.invokestatic 65, 3) := by decide +kernel
theorem dL_beds_9 : decode cL_beds 9 = .ok (.if_icmp .ge 18, 3) := by decide +kernel
theorem dL_beds_12 : decode cL_beds 12 = .ok (.iload_n 1, 1) := by decide +kernel
theorem dL_beds_13 : decode cL_beds 13 = .ok (.aload_n 0, 1) := by decide +kernel
theorem dL_beds_14 : decode cL_beds 14 = .ok (.iload_n 2, 1) := by decide +kernel
theorem dL_beds_15 : decode cL_beds 15 = .ok (.iconst 1, 1) := by decide +kernel
theorem dL_beds_16 : decode cL_beds 16 = .ok (.invokestatic 77, 3) := by decide +kernel
theorem dL_beds_19 : decode cL_beds 19 = .ok (.iadd, 1) := by decide +kernel
theorem dL_beds_20 : decode cL_beds 20 = .ok (.istore_n 1, 1) := by decide +kernel
theorem dL_beds_21 : decode cL_beds 21 = .ok (.iinc 2 1, 3) := by decide +kernel
theorem dL_beds_24 : decode cL_beds 24 = .ok (.goto (-20), 3) := by decide +kernel
theorem dL_beds_27 : decode cL_beds 27 = .ok (.iload_n 1, 1) := by decide +kernel
theorem dL_beds_28 : decode cL_beds 28 = .ok (.ireturn, 1) := by decide +kernel
theorem dL_booked_0 : decode cL_booked 0 = .ok (.iconst 0, 1) := by decide +kernel
theorem dL_booked_1 : decode cL_booked 1 = .ok (.istore_n 3, 1) := by decide +kernel
theorem dL_booked_2 : decode cL_booked 2 = .ok (.iconst 0, 1) := by decide +kernel
theorem dL_booked_3 : decode cL_booked 3 = .ok (.istore 4, 2) := by decide +kernel
theorem dL_booked_5 : decode cL_booked 5 = .ok (.iload 4, 2) := by decide +kernel
theorem dL_booked_7 : decode cL_booked 7 = .ok (.aload_n 0, 1) := by decide +kernel
theorem dL_booked_8 : decode cL_booked 8 = .ok (.invokestatic 93, 3) := by decide +kernel
theorem dL_booked_11 : decode cL_booked 11 = .ok (.if_icmp .ge 39, 3) := by decide +kernel
theorem dL_booked_14 : decode cL_booked 14 = .ok (.iload_n 3, 1) := by decide +kernel
theorem dL_booked_15 : decode cL_booked 15 = .ok (.aload_n 1, 1) := by decide +kernel
theorem dL_booked_16 : decode cL_booked 16 = .ok (.iload 4, 2) := by decide +kernel
theorem dL_booked_18 : decode cL_booked 18 = .ok (.baload, 1) := by decide +kernel
theorem dL_booked_19 : decode cL_booked 19 = .ok (.ifCond .eq 22, 3) := by decide +kernel
theorem dL_booked_22 : decode cL_booked 22 = .ok (.aload_n 0, 1) := by decide +kernel
theorem dL_booked_23 : decode cL_booked 23 = .ok (.iload 4, 2) := by decide +kernel
theorem dL_booked_25 : decode cL_booked 25 = .ok (.iload_n 2, 1) := by decide +kernel
theorem dL_booked_26 : decode cL_booked 26 = .ok (.invokestatic 118, 3) := by decide +kernel
theorem dL_booked_29 : decode cL_booked 29 = .ok (.ifCond .eq 12, 3) := by decide +kernel
theorem dL_booked_32 : decode cL_booked 32 = .ok (.aload_n 0, 1) := by decide +kernel
theorem dL_booked_33 : decode cL_booked 33 = .ok (.iload 4, 2) := by decide +kernel
theorem dL_booked_35 : decode cL_booked 35 = .ok (.invokestatic 122, 3) := by decide +kernel
theorem dL_booked_38 : decode cL_booked 38 = .ok (.goto 4, 3) := by decide +kernel
theorem dL_booked_41 : decode cL_booked 41 = .ok (.iconst 0, 1) := by decide +kernel
theorem dL_booked_42 : decode cL_booked 42 = .ok (.iadd, 1) := by decide +kernel
theorem dL_booked_43 : decode cL_booked 43 = .ok (.istore_n 3, 1) := by decide +kernel
theorem dL_booked_44 : decode cL_booked 44 = .ok (.iinc 4 1, 3) := by decide +kernel
theorem dL_booked_47 : decode cL_booked 47 = .ok (.goto (-42), 3) := by decide +kernel
theorem dL_booked_50 : decode cL_booked 50 = .ok (.iload_n 3, 1) := by decide +kernel
theorem dL_booked_51 : decode cL_booked 51 = .ok (.ireturn, 1) := by decide +kernel
theorem dL_accepted_0 : decode cL_accepted 0 = .ok (.bipush 8, 2) := by decide +kernel
theorem dL_accepted_2 : decode cL_accepted 2 = .ok (.newarray .boolean, 2) := by decide +kernel
theorem dL_accepted_4 : decode cL_accepted 4 = .ok (.astore_n 1, 1) := by decide +kernel
theorem dL_accepted_5 : decode cL_accepted 5 = .ok (.aload_n 0, 1) := by decide +kernel
theorem dL_accepted_6 : decode cL_accepted 6 = .ok (.invokestatic 125, 3) := by decide +kernel
theorem dL_accepted_9 : decode cL_accepted 9 = .ok (.bipush 100, 2) := by decide +kernel
theorem dL_accepted_11 : decode cL_accepted 11 = .ok (.aload_n 0, 1) := by decide +kernel
theorem dL_accepted_12 : decode cL_accepted 12 = .ok (.iconst 0, 1) := by decide +kernel
theorem dL_accepted_13 : decode cL_accepted 13 = .ok (.invokestatic 86, 3) := by decide +kernel
theorem dL_accepted_16 : decode cL_accepted 16 = .ok (.iadd, 1) := by decide +kernel
theorem dL_accepted_17 : decode cL_accepted 17 = .ok (.imul, 1) := by decide +kernel
theorem dL_accepted_18 : decode cL_accepted 18 = .ok (.bipush 100, 2) := by decide +kernel
theorem dL_accepted_20 : decode cL_accepted 20 = .ok (.idiv, 1) := by decide +kernel
theorem dL_accepted_21 : decode cL_accepted 21 = .ok (.istore_n 2, 1) := by decide +kernel
theorem dL_accepted_22 : decode cL_accepted 22 = .ok (.iconst 0, 1) := by decide +kernel
theorem dL_accepted_23 : decode cL_accepted 23 = .ok (.istore_n 3, 1) := by decide +kernel
theorem dL_accepted_24 : decode cL_accepted 24 = .ok (.iload_n 3, 1) := by decide +kernel
theorem dL_accepted_25 : decode cL_accepted 25 = .ok (.aload_n 0, 1) := by decide +kernel
theorem dL_accepted_26 : decode cL_accepted 26 = .ok (.invokestatic 93, 3) := by decide +kernel
theorem dL_accepted_29 : decode cL_accepted 29 = .ok (.if_icmp .ge 70, 3) := by decide +kernel
theorem dL_accepted_32 : decode cL_accepted 32 = .ok (.iconst 1, 1) := by decide +kernel
theorem dL_accepted_33 : decode cL_accepted 33 = .ok (.istore 4, 2) := by decide +kernel
theorem dL_accepted_35 : decode cL_accepted 35 = .ok (.iconst 0, 1) := by decide +kernel
theorem dL_accepted_36 : decode cL_accepted 36 = .ok (.istore 5, 2) := by decide +kernel
theorem dL_accepted_38 : decode cL_accepted 38 = .ok (.iload 5, 2) := by decide +kernel
theorem dL_accepted_40 : decode cL_accepted 40 = .ok (.bipush 30, 2) := by decide +kernel
theorem dL_accepted_42 : decode cL_accepted 42 = .ok (.if_icmp .ge 46, 3) := by decide +kernel
theorem dL_accepted_45 : decode cL_accepted 45 = .ok (.iload 4, 2) := by decide +kernel
theorem dL_accepted_47 : decode cL_accepted 47 = .ok (.aload_n 0, 1) := by decide +kernel
theorem dL_accepted_48 : decode cL_accepted 48 = .ok (.iload_n 3, 1) := by decide +kernel
theorem dL_accepted_49 : decode cL_accepted 49 = .ok (.iload 5, 2) := by decide +kernel
theorem dL_accepted_51 : decode cL_accepted 51 = .ok (.invokestatic 118, 3) := by decide +kernel
theorem dL_accepted_54 : decode cL_accepted 54 = .ok (.ifCond .eq 20, 3) := by decide +kernel
theorem dL_accepted_57 : decode cL_accepted 57 = .ok (.aload_n 0, 1) := by decide +kernel
theorem dL_accepted_58 : decode cL_accepted 58 = .ok (.aload_n 1, 1) := by decide +kernel
theorem dL_accepted_59 : decode cL_accepted 59 = .ok (.iload 5, 2) := by decide +kernel
theorem dL_accepted_61 : decode cL_accepted 61 = .ok (.invokestatic 128, 3) := by decide +kernel
theorem dL_accepted_64 : decode cL_accepted 64 = .ok (.aload_n 0, 1) := by decide +kernel
theorem dL_accepted_65 : decode cL_accepted 65 = .ok (.iload_n 3, 1) := by decide +kernel
theorem dL_accepted_66 : decode cL_accepted 66 = .ok (.invokestatic 122, 3) := by decide +kernel
theorem dL_accepted_69 : decode cL_accepted 69 = .ok (.iadd, 1) := by decide +kernel
theorem dL_accepted_70 : decode cL_accepted 70 = .ok (.iload_n 2, 1) := by decide +kernel
theorem dL_accepted_71 : decode cL_accepted 71 = .ok (.if_icmp .gt 7, 3) := by decide +kernel
theorem dL_accepted_74 : decode cL_accepted 74 = .ok (.iconst 1, 1) := by decide +kernel
theorem dL_accepted_75 : decode cL_accepted 75 = .ok (.goto 4, 3) := by decide +kernel
theorem dL_accepted_78 : decode cL_accepted 78 = .ok (.iconst 0, 1) := by decide +kernel
theorem dL_accepted_79 : decode cL_accepted 79 = .ok (.iand, 1) := by decide +kernel
theorem dL_accepted_80 : decode cL_accepted 80 = .ok (.istore 4, 2) := by decide +kernel
theorem dL_accepted_82 : decode cL_accepted 82 = .ok (.iinc 5 1, 3) := by decide +kernel
theorem dL_accepted_85 : decode cL_accepted 85 = .ok (.goto (-47), 3) := by decide +kernel
theorem dL_accepted_88 : decode cL_accepted 88 = .ok (.aload_n 1, 1) := by decide +kernel
theorem dL_accepted_89 : decode cL_accepted 89 = .ok (.iload_n 3, 1) := by decide +kernel
theorem dL_accepted_90 : decode cL_accepted 90 = .ok (.iload 4, 2) := by decide +kernel
theorem dL_accepted_92 : decode cL_accepted 92 = .ok (.bastore, 1) := by decide +kernel
theorem dL_accepted_93 : decode cL_accepted 93 = .ok (.iinc 3 1, 3) := by decide +kernel
theorem dL_accepted_96 : decode cL_accepted 96 = .ok (.goto (-72), 3) := by decide +kernel
theorem dL_accepted_99 : decode cL_accepted 99 = .ok (.aload_n 1, 1) := by decide +kernel
theorem dL_accepted_100 : decode cL_accepted 100 = .ok (.areturn, 1) := by decide +kernel
theorem dL_isFree_0 : decode cL_isFree 0 = .ok (.iconst 0, 1) := by decide +kernel
theorem dL_isFree_1 : decode cL_isFree 1 = .ok (.istore 4, 2) := by decide +kernel
theorem dL_isFree_3 : decode cL_isFree 3 = .ok (.iload 4, 2) := by decide +kernel
theorem dL_isFree_5 : decode cL_isFree 5 = .ok (.bipush 30, 2) := by decide +kernel
theorem dL_isFree_7 : decode cL_isFree 7 = .ok (.if_icmp .ge 30, 3) := by decide +kernel
theorem dL_isFree_10 : decode cL_isFree 10 = .ok (.aload_n 0, 1) := by decide +kernel
theorem dL_isFree_11 : decode cL_isFree 11 = .ok (.iload_n 2, 1) := by decide +kernel
theorem dL_isFree_12 : decode cL_isFree 12 = .ok (.iload 4, 2) := by decide +kernel
theorem dL_isFree_14 : decode cL_isFree 14 = .ok (.invokestatic 118, 3) := by decide +kernel
theorem dL_isFree_17 : decode cL_isFree 17 = .ok (.ifCond .eq 14, 3) := by decide +kernel
theorem dL_isFree_20 : decode cL_isFree 20 = .ok (.aload_n 1, 1) := by decide +kernel
theorem dL_isFree_21 : decode cL_isFree 21 = .ok (.iload_n 3, 1) := by decide +kernel
theorem dL_isFree_22 : decode cL_isFree 22 = .ok (.aaload, 1) := by decide +kernel
theorem dL_isFree_23 : decode cL_isFree 23 = .ok (.iload 4, 2) := by decide +kernel
theorem dL_isFree_25 : decode cL_isFree 25 = .ok (.iaload, 1) := by decide +kernel
theorem dL_isFree_26 : decode cL_isFree 26 = .ok (.ifCond .eq 5, 3) := by decide +kernel
theorem dL_isFree_29 : decode cL_isFree 29 = .ok (.iconst 0, 1) := by decide +kernel
theorem dL_isFree_30 : decode cL_isFree 30 = .ok (.ireturn, 1) := by decide +kernel
theorem dL_isFree_31 : decode cL_isFree 31 = .ok (.iinc 4 1, 3) := by decide +kernel
theorem dL_isFree_34 : decode cL_isFree 34 = .ok (.goto (-31), 3) := by decide +kernel
theorem dL_isFree_37 : decode cL_isFree 37 = .ok (.iconst 1, 1) := by decide +kernel
theorem dL_isFree_38 : decode cL_isFree 38 = .ok (.ireturn, 1) := by decide +kernel
theorem dL_free_0 : decode cL_free 0 = .ok (.iconst 0, 1) := by decide +kernel
theorem dL_free_1 : decode cL_free 1 = .ok (.istore 4, 2) := by decide +kernel
theorem dL_free_3 : decode cL_free 3 = .ok (.iconst 0, 1) := by decide +kernel
theorem dL_free_4 : decode cL_free 4 = .ok (.istore 5, 2) := by decide +kernel
theorem dL_free_6 : decode cL_free 6 = .ok (.iload 5, 2) := by decide +kernel
theorem dL_free_8 : decode cL_free 8 = .ok (.aload_n 0, 1) := by decide +kernel
theorem dL_free_9 : decode cL_free 9 = .ok (.iload_n 3, 1) := by decide +kernel
theorem dL_free_10 : decode cL_free 10 = .ok (.iconst 1, 1) := by decide +kernel
theorem dL_free_11 : decode cL_free 11 = .ok (.invokestatic 77, 3) := by decide +kernel
theorem dL_free_14 : decode cL_free 14 = .ok (.if_icmp .ge 35, 3) := by decide +kernel
theorem dL_free_17 : decode cL_free 17 = .ok (.iload 4, 2) := by decide +kernel
theorem dL_free_19 : decode cL_free 19 = .ok (.aload_n 0, 1) := by decide +kernel
theorem dL_free_20 : decode cL_free 20 = .ok (.aload_n 1, 1) := by decide +kernel
theorem dL_free_21 : decode cL_free 21 = .ok (.iload_n 2, 1) := by decide +kernel
theorem dL_free_22 : decode cL_free 22 = .ok (.bipush 10, 2) := by decide +kernel
theorem dL_free_24 : decode cL_free 24 = .ok (.iload_n 3, 1) := by decide +kernel
theorem dL_free_25 : decode cL_free 25 = .ok (.imul, 1) := by decide +kernel
theorem dL_free_26 : decode cL_free 26 = .ok (.iload 5, 2) := by decide +kernel
theorem dL_free_28 : decode cL_free 28 = .ok (.iadd, 1) := by decide +kernel
theorem dL_free_29 : decode cL_free 29 = .ok (.invokestatic 132, 3) := by decide +kernel
theorem dL_free_32 : decode cL_free 32 = .ok (.ifCond .eq 7, 3) := by decide +kernel
theorem dL_free_35 : decode cL_free 35 = .ok (.iconst 1, 1) := by decide +kernel
theorem dL_free_36 : decode cL_free 36 = .ok (.goto 4, 3) := by decide +kernel
theorem dL_free_39 : decode cL_free 39 = .ok (.iconst 0, 1) := by decide +kernel
theorem dL_free_40 : decode cL_free 40 = .ok (.iadd, 1) := by decide +kernel
theorem dL_free_41 : decode cL_free 41 = .ok (.istore 4, 2) := by decide +kernel
theorem dL_free_43 : decode cL_free 43 = .ok (.iinc 5 1, 3) := by decide +kernel
theorem dL_free_46 : decode cL_free 46 = .ok (.goto (-40), 3) := by decide +kernel
theorem dL_free_49 : decode cL_free 49 = .ok (.iload 4, 2) := by decide +kernel
theorem dL_free_51 : decode cL_free 51 = .ok (.ireturn, 1) := by decide +kernel
theorem dL_oneRoom_0 : decode cL_oneRoom 0 = .ok (.iconst (-1), 1) := by decide +kernel
theorem dL_oneRoom_1 : decode cL_oneRoom 1 = .ok (.istore_n 3, 1) := by decide +kernel
theorem dL_oneRoom_2 : decode cL_oneRoom 2 = .ok (.iconst 0, 1) := by decide +kernel
theorem dL_oneRoom_3 : decode cL_oneRoom 3 = .ok (.istore 4, 2) := by decide +kernel
theorem dL_oneRoom_5 : decode cL_oneRoom 5 = .ok (.iconst 0, 1) := by decide +kernel
theorem dL_oneRoom_6 : decode cL_oneRoom 6 = .ok (.istore 5, 2) := by decide +kernel
theorem dL_oneRoom_8 : decode cL_oneRoom 8 = .ok (.iload 5, 2) := by decide +kernel
theorem dL_oneRoom_10 : decode cL_oneRoom 10 = .ok (.aload_n 0, 1) := by decide +kernel
theorem dL_oneRoom_11 : decode cL_oneRoom 11 = .ok (.invokestatic 65, 3) := by decide +kernel
theorem dL_oneRoom_14 : decode cL_oneRoom 14 = .ok (.if_icmp .ge 147, 3) := by decide +kernel
theorem dL_oneRoom_17 : decode cL_oneRoom 17 = .ok (.aload_n 0, 1) := by decide +kernel
theorem dL_oneRoom_18 : decode cL_oneRoom 18 = .ok (.iload 5, 2) := by decide +kernel
theorem dL_oneRoom_20 : decode cL_oneRoom 20 = .ok (.iconst 0, 1) := by decide +kernel
theorem dL_oneRoom_21 : decode cL_oneRoom 21 = .ok (.invokestatic 77, 3) := by decide +kernel
theorem dL_oneRoom_24 : decode cL_oneRoom 24 = .ok (.istore 6, 2) := by decide +kernel
theorem dL_oneRoom_26 : decode cL_oneRoom 26 = .ok (.aload_n 0, 1) := by decide +kernel
theorem dL_oneRoom_27 : decode cL_oneRoom 27 = .ok (.iload_n 2, 1) := by decide +kernel
theorem dL_oneRoom_28 : decode cL_oneRoom 28 = .ok (.iconst 4, 1) := by decide +kernel
theorem dL_oneRoom_29 : decode cL_oneRoom 29 = .ok (.invokestatic 98, 3) := by decide +kernel
theorem dL_oneRoom_32 : decode cL_oneRoom 32 = .ok (.aload_n 0, 1) := by decide +kernel
theorem dL_oneRoom_33 : decode cL_oneRoom 33 = .ok (.iload 5, 2) := by decide +kernel
theorem dL_oneRoom_35 : decode cL_oneRoom 35 = .ok (.iconst 2, 1) := by decide +kernel
theorem dL_oneRoom_36 : decode cL_oneRoom 36 = .ok (.invokestatic 77, 3) := by decide +kernel
theorem dL_oneRoom_39 : decode cL_oneRoom 39 = .ok (.if_icmp .lt 42, 3) := by decide +kernel
theorem dL_oneRoom_42 : decode cL_oneRoom 42 = .ok (.iload 6, 2) := by decide +kernel
theorem dL_oneRoom_44 : decode cL_oneRoom 44 = .ok (.ifCond .eq 33, 3) := by decide +kernel
theorem dL_oneRoom_47 : decode cL_oneRoom 47 = .ok (.iload 6, 2) := by decide +kernel
theorem dL_oneRoom_49 : decode cL_oneRoom 49 = .ok (.iconst 1, 1) := by decide +kernel
theorem dL_oneRoom_50 : decode cL_oneRoom 50 = .ok (.if_icmp .ne 12, 3) := by decide +kernel
theorem dL_oneRoom_53 : decode cL_oneRoom 53 = .ok (.aload_n 0, 1) := by decide +kernel
theorem dL_oneRoom_54 : decode cL_oneRoom 54 = .ok (.iload_n 2, 1) := by decide +kernel
theorem dL_oneRoom_55 : decode cL_oneRoom 55 = .ok (.iconst 3, 1) := by decide +kernel
theorem dL_oneRoom_56 : decode cL_oneRoom 56 = .ok (.invokestatic 98, 3) := by decide +kernel
theorem dL_oneRoom_59 : decode cL_oneRoom 59 = .ok (.ifCond .eq 18, 3) := by decide +kernel
theorem dL_oneRoom_62 : decode cL_oneRoom 62 = .ok (.iload 6, 2) := by decide +kernel
theorem dL_oneRoom_64 : decode cL_oneRoom 64 = .ok (.iconst 2, 1) := by decide +kernel
theorem dL_oneRoom_65 : decode cL_oneRoom 65 = .ok (.if_icmp .ne 16, 3) := by decide +kernel
theorem dL_oneRoom_68 : decode cL_oneRoom 68 = .ok (.aload_n 0, 1) := by decide +kernel
theorem dL_oneRoom_69 : decode cL_oneRoom 69 = .ok (.iload_n 2, 1) := by decide +kernel
theorem dL_oneRoom_70 : decode cL_oneRoom 70 = .ok (.iconst 2, 1) := by decide +kernel
theorem dL_oneRoom_71 : decode cL_oneRoom 71 = .ok (.invokestatic 98, 3) := by decide +kernel
theorem dL_oneRoom_74 : decode cL_oneRoom 74 = .ok (.ifCond .ne 7, 3) := by decide +kernel
theorem dL_oneRoom_77 : decode cL_oneRoom 77 = .ok (.iconst 1, 1) := by decide +kernel
theorem dL_oneRoom_78 : decode cL_oneRoom 78 = .ok (.goto 4, 3) := by decide +kernel
theorem dL_oneRoom_81 : decode cL_oneRoom 81 = .ok (.iconst 0, 1) := by decide +kernel
theorem dL_oneRoom_82 : decode cL_oneRoom 82 = .ok (.istore 7, 2) := by decide +kernel
theorem dL_oneRoom_84 : decode cL_oneRoom 84 = .ok (.aload_n 0, 1) := by decide +kernel
theorem dL_oneRoom_85 : decode cL_oneRoom 85 = .ok (.aload_n 1, 1) := by decide +kernel
theorem dL_oneRoom_86 : decode cL_oneRoom 86 = .ok (.iload_n 2, 1) := by decide +kernel
theorem dL_oneRoom_87 : decode cL_oneRoom 87 = .ok (.iload 5, 2) := by decide +kernel
theorem dL_oneRoom_89 : decode cL_oneRoom 89 = .ok (.invokestatic 136, 3) := by decide +kernel
theorem dL_oneRoom_92 : decode cL_oneRoom 92 = .ok (.istore 8, 2) := by decide +kernel
theorem dL_oneRoom_94 : decode cL_oneRoom 94 = .ok (.iload 7, 2) := by decide +kernel
theorem dL_oneRoom_96 : decode cL_oneRoom 96 = .ok (.ifCond .eq 59, 3) := by decide +kernel
theorem dL_oneRoom_99 : decode cL_oneRoom 99 = .ok (.iload 8, 2) := by decide +kernel
theorem dL_oneRoom_101 : decode cL_oneRoom 101 = .ok (.aload_n 0, 1) := by decide +kernel
theorem dL_oneRoom_102 : decode cL_oneRoom 102 = .ok (.iload_n 2, 1) := by decide +kernel
theorem dL_oneRoom_103 : decode cL_oneRoom 103 = .ok (.invokestatic 122, 3) := by decide +kernel
theorem dL_oneRoom_106 : decode cL_oneRoom 106 = .ok (.if_icmp .ge 6, 3) := by decide +kernel
theorem dL_oneRoom_109 : decode cL_oneRoom 109 = .ok (.goto 46, 3) := by decide +kernel
theorem dL_oneRoom_112 : decode cL_oneRoom 112 = .ok (.iload 8, 2) := by decide +kernel
theorem dL_oneRoom_114 : decode cL_oneRoom 114 = .ok (.sipush 1000, 3) := by decide +kernel
theorem dL_oneRoom_117 : decode cL_oneRoom 117 = .ok (.imul, 1) := by decide +kernel
theorem dL_oneRoom_118 : decode cL_oneRoom 118 = .ok (.aload_n 0, 1) := by decide +kernel
theorem dL_oneRoom_119 : decode cL_oneRoom 119 = .ok (.iload 5, 2) := by decide +kernel
theorem dL_oneRoom_121 : decode cL_oneRoom 121 = .ok (.iconst 3, 1) := by decide +kernel
theorem dL_oneRoom_122 : decode cL_oneRoom 122 = .ok (.invokestatic 77, 3) := by decide +kernel
theorem dL_oneRoom_125 : decode cL_oneRoom 125 = .ok (.iadd, 1) := by decide +kernel
theorem dL_oneRoom_126 : decode cL_oneRoom 126 = .ok (.bipush 10, 2) := by decide +kernel
theorem dL_oneRoom_128 : decode cL_oneRoom 128 = .ok (.imul, 1) := by decide +kernel
theorem dL_oneRoom_129 : decode cL_oneRoom 129 = .ok (.iload 5, 2) := by decide +kernel
theorem dL_oneRoom_131 : decode cL_oneRoom 131 = .ok (.iadd, 1) := by decide +kernel
theorem dL_oneRoom_132 : decode cL_oneRoom 132 = .ok (.istore 9, 2) := by decide +kernel
theorem dL_oneRoom_134 : decode cL_oneRoom 134 = .ok (.iload_n 3, 1) := by decide +kernel
theorem dL_oneRoom_135 : decode cL_oneRoom 135 = .ok (.ifCond .lt 13, 3) := by decide +kernel
theorem dL_oneRoom_138 : decode cL_oneRoom 138 = .ok (.iload 9, 2) := by decide +kernel
theorem dL_oneRoom_140 : decode cL_oneRoom 140 = .ok (.iload 4, 2) := by decide +kernel
theorem dL_oneRoom_142 : decode cL_oneRoom 142 = .ok (.if_icmp .le 6, 3) := by decide +kernel
theorem dL_oneRoom_145 : decode cL_oneRoom 145 = .ok (.goto 10, 3) := by decide +kernel
theorem dL_oneRoom_148 : decode cL_oneRoom 148 = .ok (.iload 5, 2) := by decide +kernel
theorem dL_oneRoom_150 : decode cL_oneRoom 150 = .ok (.istore_n 3, 1) := by decide +kernel
theorem dL_oneRoom_151 : decode cL_oneRoom 151 = .ok (.iload 9, 2) := by decide +kernel
theorem dL_oneRoom_153 : decode cL_oneRoom 153 = .ok (.istore 4, 2) := by decide +kernel
theorem dL_oneRoom_155 : decode cL_oneRoom 155 = .ok (.iinc 5 1, 3) := by decide +kernel
theorem dL_oneRoom_158 : decode cL_oneRoom 158 = .ok (.goto (-150), 3) := by decide +kernel
theorem dL_oneRoom_161 : decode cL_oneRoom 161 = .ok (.iload_n 3, 1) := by decide +kernel
theorem dL_oneRoom_162 : decode cL_oneRoom 162 = .ok (.iconst 1, 1) := by decide +kernel
theorem dL_oneRoom_163 : decode cL_oneRoom 163 = .ok (.iadd, 1) := by decide +kernel
theorem dL_oneRoom_164 : decode cL_oneRoom 164 = .ok (.ireturn, 1) := by decide +kernel
theorem dL_isEnough_0 : decode cL_isEnough 0 = .ok (.iconst 3, 1) := by decide +kernel
theorem dL_isEnough_1 : decode cL_isEnough 1 = .ok (.newarray .int, 2) := by decide +kernel
theorem dL_isEnough_3 : decode cL_isEnough 3 = .ok (.astore 4, 2) := by decide +kernel
theorem dL_isEnough_5 : decode cL_isEnough 5 = .ok (.iconst 0, 1) := by decide +kernel
theorem dL_isEnough_6 : decode cL_isEnough 6 = .ok (.istore 5, 2) := by decide +kernel
theorem dL_isEnough_8 : decode cL_isEnough 8 = .ok (.iload 5, 2) := by decide +kernel
theorem dL_isEnough_10 : decode cL_isEnough 10 = .ok (.aload_n 0, 1) := by decide +kernel
theorem dL_isEnough_11 : decode cL_isEnough 11 = .ok (.invokestatic 65, 3) := by decide +kernel
theorem dL_isEnough_14 : decode cL_isEnough 14 = .ok (.if_icmp .ge 60, 3) := by decide +kernel
theorem dL_isEnough_17 : decode cL_isEnough 17 = .ok (.iload_n 3, 1) := by decide +kernel
theorem dL_isEnough_18 : decode cL_isEnough 18 = .ok (.iload 5, 2) := by decide +kernel
theorem dL_isEnough_20 : decode cL_isEnough 20 = .ok (.ishr, 1) := by decide +kernel
theorem dL_isEnough_21 : decode cL_isEnough 21 = .ok (.iconst 1, 1) := by decide +kernel
theorem dL_isEnough_22 : decode cL_isEnough 22 = .ok (.iand, 1) := by decide +kernel
theorem dL_isEnough_23 : decode cL_isEnough 23 = .ok (.ifCond .ne 6, 3) := by decide +kernel
theorem dL_isEnough_26 : decode cL_isEnough 26 = .ok (.goto 42, 3) := by decide +kernel
theorem dL_isEnough_29 : decode cL_isEnough 29 = .ok (.aload_n 0, 1) := by decide +kernel
theorem dL_isEnough_30 : decode cL_isEnough 30 = .ok (.iload_n 2, 1) := by decide +kernel
theorem dL_isEnough_31 : decode cL_isEnough 31 = .ok (.iconst 4, 1) := by decide +kernel
theorem dL_isEnough_32 : decode cL_isEnough 32 = .ok (.invokestatic 98, 3) := by decide +kernel
theorem dL_isEnough_35 : decode cL_isEnough 35 = .ok (.aload_n 0, 1) := by decide +kernel
theorem dL_isEnough_36 : decode cL_isEnough 36 = .ok (.iload 5, 2) := by decide +kernel
theorem dL_isEnough_38 : decode cL_isEnough 38 = .ok (.iconst 2, 1) := by decide +kernel
theorem dL_isEnough_39 : decode cL_isEnough 39 = .ok (.invokestatic 77, 3) := by decide +kernel
theorem dL_isEnough_42 : decode cL_isEnough 42 = .ok (.if_icmp .ge 5, 3) := by decide +kernel
theorem dL_isEnough_45 : decode cL_isEnough 45 = .ok (.iconst 0, 1) := by decide +kernel
theorem dL_isEnough_46 : decode cL_isEnough 46 = .ok (.ireturn, 1) := by decide +kernel
theorem dL_isEnough_47 : decode cL_isEnough 47 = .ok (.aload 4, 2) := by decide +kernel
theorem dL_isEnough_49 : decode cL_isEnough 49 = .ok (.aload_n 0, 1) := by decide +kernel
theorem dL_isEnough_50 : decode cL_isEnough 50 = .ok (.iload 5, 2) := by decide +kernel
theorem dL_isEnough_52 : decode cL_isEnough 52 = .ok (.iconst 0, 1) := by decide +kernel
theorem dL_isEnough_53 : decode cL_isEnough 53 = .ok (.invokestatic 77, 3) := by decide +kernel
theorem dL_isEnough_56 : decode cL_isEnough 56 = .ok (.dup2, 1) := by decide +kernel
theorem dL_isEnough_57 : decode cL_isEnough 57 = .ok (.iaload, 1) := by decide +kernel
theorem dL_isEnough_58 : decode cL_isEnough 58 = .ok (.aload_n 0, 1) := by decide +kernel
theorem dL_isEnough_59 : decode cL_isEnough 59 = .ok (.aload_n 1, 1) := by decide +kernel
theorem dL_isEnough_60 : decode cL_isEnough 60 = .ok (.iload_n 2, 1) := by decide +kernel
theorem dL_isEnough_61 : decode cL_isEnough 61 = .ok (.iload 5, 2) := by decide +kernel
theorem dL_isEnough_63 : decode cL_isEnough 63 = .ok (.invokestatic 136, 3) := by decide +kernel
theorem dL_isEnough_66 : decode cL_isEnough 66 = .ok (.iadd, 1) := by decide +kernel
theorem dL_isEnough_67 : decode cL_isEnough 67 = .ok (.iastore, 1) := by decide +kernel
theorem dL_isEnough_68 : decode cL_isEnough 68 = .ok (.iinc 5 1, 3) := by decide +kernel
theorem dL_isEnough_71 : decode cL_isEnough 71 = .ok (.goto (-63), 3) := by decide +kernel
theorem dL_isEnough_74 : decode cL_isEnough 74 = .ok (.iconst 0, 1) := by decide +kernel
theorem dL_isEnough_75 : decode cL_isEnough 75 = .ok (.aload_n 0, 1) := by decide +kernel
theorem dL_isEnough_76 : decode cL_isEnough 76 = .ok (.iload_n 2, 1) := by decide +kernel
theorem dL_isEnough_77 : decode cL_isEnough 77 = .ok (.iconst 2, 1) := by decide +kernel
theorem dL_isEnough_78 : decode cL_isEnough 78 = .ok (.invokestatic 98, 3) := by decide +kernel
theorem dL_isEnough_81 : decode cL_isEnough 81 = .ok (.aload 4, 2) := by decide +kernel
theorem dL_isEnough_83 : decode cL_isEnough 83 = .ok (.iconst 1, 1) := by decide +kernel
theorem dL_isEnough_84 : decode cL_isEnough 84 = .ok (.iaload, 1) := by decide +kernel
theorem dL_isEnough_85 : decode cL_isEnough 85 = .ok (.isub, 1) := by decide +kernel
theorem dL_isEnough_86 : decode cL_isEnough 86 = .ok (.invokestatic 140, 3) := by decide +kernel
theorem dL_isEnough_89 : decode cL_isEnough 89 = .ok (.iconst 0, 1) := by decide +kernel
theorem dL_isEnough_90 : decode cL_isEnough 90 = .ok (.aload_n 0, 1) := by decide +kernel
theorem dL_isEnough_91 : decode cL_isEnough 91 = .ok (.iload_n 2, 1) := by decide +kernel
theorem dL_isEnough_92 : decode cL_isEnough 92 = .ok (.iconst 3, 1) := by decide +kernel
theorem dL_isEnough_93 : decode cL_isEnough 93 = .ok (.invokestatic 98, 3) := by decide +kernel
theorem dL_isEnough_96 : decode cL_isEnough 96 = .ok (.aload 4, 2) := by decide +kernel
theorem dL_isEnough_98 : decode cL_isEnough 98 = .ok (.iconst 2, 1) := by decide +kernel
theorem dL_isEnough_99 : decode cL_isEnough 99 = .ok (.iaload, 1) := by decide +kernel
theorem dL_isEnough_100 : decode cL_isEnough 100 = .ok (.isub, 1) := by decide +kernel
theorem dL_isEnough_101 : decode cL_isEnough 101 = .ok (.invokestatic 140, 3) := by decide +kernel
theorem dL_isEnough_104 : decode cL_isEnough 104 = .ok (.iadd, 1) := by decide +kernel
theorem dL_isEnough_105 : decode cL_isEnough 105 = .ok (.aload 4, 2) := by decide +kernel
theorem dL_isEnough_107 : decode cL_isEnough 107 = .ok (.iconst 0, 1) := by decide +kernel
theorem dL_isEnough_108 : decode cL_isEnough 108 = .ok (.iaload, 1) := by decide +kernel
theorem dL_isEnough_109 : decode cL_isEnough 109 = .ok (.if_icmp .gt 7, 3) := by decide +kernel
theorem dL_isEnough_112 : decode cL_isEnough 112 = .ok (.iconst 1, 1) := by decide +kernel
theorem dL_isEnough_113 : decode cL_isEnough 113 = .ok (.goto 4, 3) := by decide +kernel
theorem dL_isEnough_116 : decode cL_isEnough 116 = .ok (.iconst 0, 1) := by decide +kernel
theorem dL_isEnough_117 : decode cL_isEnough 117 = .ok (.ireturn, 1) := by decide +kernel
theorem dL_rooms_0 : decode cL_rooms 0 = .ok (.aload_n 0, 1) := by decide +kernel
theorem dL_rooms_1 : decode cL_rooms 1 = .ok (.aload_n 1, 1) := by decide +kernel
theorem dL_rooms_2 : decode cL_rooms 2 = .ok (.iload_n 2, 1) := by decide +kernel
theorem dL_rooms_3 : decode cL_rooms 3 = .ok (.invokestatic 143, 3) := by decide +kernel
theorem dL_rooms_6 : decode cL_rooms 6 = .ok (.istore_n 3, 1) := by decide +kernel
theorem dL_rooms_7 : decode cL_rooms 7 = .ok (.iload_n 3, 1) := by decide +kernel
theorem dL_rooms_8 : decode cL_rooms 8 = .ok (.ifCond .le 9, 3) := by decide +kernel
theorem dL_rooms_11 : decode cL_rooms 11 = .ok (.iconst 1, 1) := by decide +kernel
theorem dL_rooms_12 : decode cL_rooms 12 = .ok (.iload_n 3, 1) := by decide +kernel
theorem dL_rooms_13 : decode cL_rooms 13 = .ok (.iconst 1, 1) := by decide +kernel
theorem dL_rooms_14 : decode cL_rooms 14 = .ok (.isub, 1) := by decide +kernel
theorem dL_rooms_15 : decode cL_rooms 15 = .ok (.ishl, 1) := by decide +kernel
theorem dL_rooms_16 : decode cL_rooms 16 = .ok (.ireturn, 1) := by decide +kernel
theorem dL_rooms_17 : decode cL_rooms 17 = .ok (.iconst 0, 1) := by decide +kernel
theorem dL_rooms_18 : decode cL_rooms 18 = .ok (.istore 4, 2) := by decide +kernel
theorem dL_rooms_20 : decode cL_rooms 20 = .ok (.iconst 1, 1) := by decide +kernel
theorem dL_rooms_21 : decode cL_rooms 21 = .ok (.istore 5, 2) := by decide +kernel
theorem dL_rooms_23 : decode cL_rooms 23 = .ok (.iload 5, 2) := by decide +kernel
theorem dL_rooms_25 : decode cL_rooms 25 = .ok (.iconst 1, 1) := by decide +kernel
theorem dL_rooms_26 : decode cL_rooms 26 = .ok (.aload_n 0, 1) := by decide +kernel
theorem dL_rooms_27 : decode cL_rooms 27 = .ok (.invokestatic 65, 3) := by decide +kernel
theorem dL_rooms_30 : decode cL_rooms 30 = .ok (.ishl, 1) := by decide +kernel
theorem dL_rooms_31 : decode cL_rooms 31 = .ok (.if_icmp .ge 52, 3) := by decide +kernel
theorem dL_rooms_34 : decode cL_rooms 34 = .ok (.aload_n 0, 1) := by decide +kernel
theorem dL_rooms_35 : decode cL_rooms 35 = .ok (.iload_n 2, 1) := by decide +kernel
theorem dL_rooms_36 : decode cL_rooms 36 = .ok (.bipush 6, 2) := by decide +kernel
theorem dL_rooms_38 : decode cL_rooms 38 = .ok (.invokestatic 98, 3) := by decide +kernel
theorem dL_rooms_41 : decode cL_rooms 41 = .ok (.ifCond .ne 42, 3) := by decide +kernel
theorem dL_rooms_44 : decode cL_rooms 44 = .ok (.iload 4, 2) := by decide +kernel
theorem dL_rooms_46 : decode cL_rooms 46 = .ok (.ifCond .eq 16, 3) := by decide +kernel
theorem dL_rooms_49 : decode cL_rooms 49 = .ok (.iload 5, 2) := by decide +kernel
theorem dL_rooms_51 : decode cL_rooms 51 = .ok (.invokestatic 147, 3) := by decide +kernel
theorem dL_rooms_54 : decode cL_rooms 54 = .ok (.iload 4, 2) := by decide +kernel
theorem dL_rooms_56 : decode cL_rooms 56 = .ok (.invokestatic 147, 3) := by decide +kernel
theorem dL_rooms_59 : decode cL_rooms 59 = .ok (.if_icmp .ge 18, 3) := by decide +kernel
theorem dL_rooms_62 : decode cL_rooms 62 = .ok (.aload_n 0, 1) := by decide +kernel
theorem dL_rooms_63 : decode cL_rooms 63 = .ok (.aload_n 1, 1) := by decide +kernel
theorem dL_rooms_64 : decode cL_rooms 64 = .ok (.iload_n 2, 1) := by decide +kernel
theorem dL_rooms_65 : decode cL_rooms 65 = .ok (.iload 5, 2) := by decide +kernel
theorem dL_rooms_67 : decode cL_rooms 67 = .ok (.invokestatic 153, 3) := by decide +kernel
theorem dL_rooms_70 : decode cL_rooms 70 = .ok (.ifCond .eq 7, 3) := by decide +kernel
theorem dL_rooms_73 : decode cL_rooms 73 = .ok (.iload 5, 2) := by decide +kernel
theorem dL_rooms_75 : decode cL_rooms 75 = .ok (.istore 4, 2) := by decide +kernel
theorem dL_rooms_77 : decode cL_rooms 77 = .ok (.iinc 5 1, 3) := by decide +kernel
theorem dL_rooms_80 : decode cL_rooms 80 = .ok (.goto (-57), 3) := by decide +kernel
theorem dL_rooms_83 : decode cL_rooms 83 = .ok (.iload 4, 2) := by decide +kernel
theorem dL_rooms_85 : decode cL_rooms 85 = .ok (.ireturn, 1) := by decide +kernel
theorem dL_bedFor_0 : decode cL_bedFor 0 = .ok (.iconst 0, 1) := by decide +kernel
theorem dL_bedFor_1 : decode cL_bedFor 1 = .ok (.istore 5, 2) := by decide +kernel
theorem dL_bedFor_3 : decode cL_bedFor 3 = .ok (.iload 5, 2) := by decide +kernel
theorem dL_bedFor_5 : decode cL_bedFor 5 = .ok (.aload_n 0, 1) := by decide +kernel
theorem dL_bedFor_6 : decode cL_bedFor 6 = .ok (.invokestatic 65, 3) := by decide +kernel
theorem dL_bedFor_9 : decode cL_bedFor 9 = .ok (.if_icmp .ge 80, 3) := by decide +kernel
theorem dL_bedFor_12 : decode cL_bedFor 12 = .ok (.iload_n 3, 1) := by decide +kernel
theorem dL_bedFor_13 : decode cL_bedFor 13 = .ok (.iload 5, 2) := by decide +kernel
theorem dL_bedFor_15 : decode cL_bedFor 15 = .ok (.ishr, 1) := by decide +kernel
theorem dL_bedFor_16 : decode cL_bedFor 16 = .ok (.iconst 1, 1) := by decide +kernel
theorem dL_bedFor_17 : decode cL_bedFor 17 = .ok (.iand, 1) := by decide +kernel
theorem dL_bedFor_18 : decode cL_bedFor 18 = .ok (.ifCond .eq 65, 3) := by decide +kernel
theorem dL_bedFor_21 : decode cL_bedFor 21 = .ok (.aload_n 0, 1) := by decide +kernel
theorem dL_bedFor_22 : decode cL_bedFor 22 = .ok (.iload 5, 2) := by decide +kernel
theorem dL_bedFor_24 : decode cL_bedFor 24 = .ok (.iconst 0, 1) := by decide +kernel
theorem dL_bedFor_25 : decode cL_bedFor 25 = .ok (.invokestatic 77, 3) := by decide +kernel
theorem dL_bedFor_28 : decode cL_bedFor 28 = .ok (.iload 4, 2) := by decide +kernel
theorem dL_bedFor_30 : decode cL_bedFor 30 = .ok (.if_icmp .eq 6, 3) := by decide +kernel
theorem dL_bedFor_33 : decode cL_bedFor 33 = .ok (.goto 50, 3) := by decide +kernel
theorem dL_bedFor_36 : decode cL_bedFor 36 = .ok (.iconst 0, 1) := by decide +kernel
theorem dL_bedFor_37 : decode cL_bedFor 37 = .ok (.istore 6, 2) := by decide +kernel
theorem dL_bedFor_39 : decode cL_bedFor 39 = .ok (.iload 6, 2) := by decide +kernel
theorem dL_bedFor_41 : decode cL_bedFor 41 = .ok (.aload_n 0, 1) := by decide +kernel
theorem dL_bedFor_42 : decode cL_bedFor 42 = .ok (.iload 5, 2) := by decide +kernel
theorem dL_bedFor_44 : decode cL_bedFor 44 = .ok (.iconst 1, 1) := by decide +kernel
theorem dL_bedFor_45 : decode cL_bedFor 45 = .ok (.invokestatic 77, 3) := by decide +kernel
theorem dL_bedFor_48 : decode cL_bedFor 48 = .ok (.if_icmp .ge 35, 3) := by decide +kernel
theorem dL_bedFor_51 : decode cL_bedFor 51 = .ok (.aload_n 0, 1) := by decide +kernel
theorem dL_bedFor_52 : decode cL_bedFor 52 = .ok (.aload_n 1, 1) := by decide +kernel
theorem dL_bedFor_53 : decode cL_bedFor 53 = .ok (.iload_n 2, 1) := by decide +kernel
theorem dL_bedFor_54 : decode cL_bedFor 54 = .ok (.bipush 10, 2) := by decide +kernel
theorem dL_bedFor_56 : decode cL_bedFor 56 = .ok (.iload 5, 2) := by decide +kernel
theorem dL_bedFor_58 : decode cL_bedFor 58 = .ok (.imul, 1) := by decide +kernel
theorem dL_bedFor_59 : decode cL_bedFor 59 = .ok (.iload 6, 2) := by decide +kernel
theorem dL_bedFor_61 : decode cL_bedFor 61 = .ok (.iadd, 1) := by decide +kernel
theorem dL_bedFor_62 : decode cL_bedFor 62 = .ok (.invokestatic 132, 3) := by decide +kernel
theorem dL_bedFor_65 : decode cL_bedFor 65 = .ok (.ifCond .eq 12, 3) := by decide +kernel
theorem dL_bedFor_68 : decode cL_bedFor 68 = .ok (.bipush 10, 2) := by decide +kernel
theorem dL_bedFor_70 : decode cL_bedFor 70 = .ok (.iload 5, 2) := by decide +kernel
theorem dL_bedFor_72 : decode cL_bedFor 72 = .ok (.imul, 1) := by decide +kernel
theorem dL_bedFor_73 : decode cL_bedFor 73 = .ok (.iload 6, 2) := by decide +kernel
theorem dL_bedFor_75 : decode cL_bedFor 75 = .ok (.iadd, 1) := by decide +kernel
theorem dL_bedFor_76 : decode cL_bedFor 76 = .ok (.ireturn, 1) := by decide +kernel
theorem dL_bedFor_77 : decode cL_bedFor 77 = .ok (.iinc 6 1, 3) := by decide +kernel
theorem dL_bedFor_80 : decode cL_bedFor 80 = .ok (.goto (-41), 3) := by decide +kernel
theorem dL_bedFor_83 : decode cL_bedFor 83 = .ok (.iinc 5 1, 3) := by decide +kernel
theorem dL_bedFor_86 : decode cL_bedFor 86 = .ok (.goto (-83), 3) := by decide +kernel
theorem dL_bedFor_89 : decode cL_bedFor 89 = .ok (.iconst (-1), 1) := by decide +kernel
theorem dL_bedFor_90 : decode cL_bedFor 90 = .ok (.ireturn, 1) := by decide +kernel
theorem dL_placed_0 : decode cL_placed 0 = .ok (.aload_n 1, 1) := by decide +kernel
theorem dL_placed_1 : decode cL_placed 1 = .ok (.aload_n 2, 1) := by decide +kernel
theorem dL_placed_2 : decode cL_placed 2 = .ok (.iload_n 3, 1) := by decide +kernel
theorem dL_placed_3 : decode cL_placed 3 = .ok (.invokestatic 156, 3) := by decide +kernel
theorem dL_placed_6 : decode cL_placed 6 = .ok (.istore 4, 2) := by decide +kernel
theorem dL_placed_8 : decode cL_placed 8 = .ok (.aload_n 1, 1) := by decide +kernel
theorem dL_placed_9 : decode cL_placed 9 = .ok (.iload_n 3, 1) := by decide +kernel
theorem dL_placed_10 : decode cL_placed 10 = .ok (.iconst 1, 1) := by decide +kernel
theorem dL_placed_11 : decode cL_placed 11 = .ok (.invokestatic 98, 3) := by decide +kernel
theorem dL_placed_14 : decode cL_placed 14 = .ok (.istore 5, 2) := by decide +kernel
theorem dL_placed_16 : decode cL_placed 16 = .ok (.aload_n 0, 1) := by decide +kernel
theorem dL_placed_17 : decode cL_placed 17 = .ok (.iload_n 3, 1) := by decide +kernel
theorem dL_placed_18 : decode cL_placed 18 = .ok (.invokevirtual 159, 3) := by decide +kernel
theorem dL_placed_21 : decode cL_placed 21 = .ok (.istore 6, 2) := by decide +kernel
theorem dL_placed_23 : decode cL_placed 23 = .ok (.iload 4, 2) := by decide +kernel
theorem dL_placed_25 : decode cL_placed 25 = .ok (.ifCond .ne 56, 3) := by decide +kernel
theorem dL_placed_28 : decode cL_placed 28 = .ok (.iload 6, 2) := by decide +kernel
theorem dL_placed_30 : decode cL_placed 30 = .ok (.iconst 3, 1) := by decide +kernel
theorem dL_placed_31 : decode cL_placed 31 = .ok (.if_icmp .ne 47, 3) := by decide +kernel
theorem dL_placed_34 : decode cL_placed 34 = .ok (.aload_n 0, 1) := by decide +kernel
theorem dL_placed_35 : decode cL_placed 35 = .ok (.iload_n 3, 1) := by decide +kernel
theorem dL_placed_36 : decode cL_placed 36 = .ok (.invokevirtual 162, 3) := by decide +kernel
theorem dL_placed_39 : decode cL_placed 39 = .ok (.ifCond .ne 39, 3) := by decide +kernel
theorem dL_placed_42 : decode cL_placed 42 = .ok (.aload_n 0, 1) := by decide +kernel
theorem dL_placed_43 : decode cL_placed 43 = .ok (.iload_n 3, 1) := by decide +kernel
theorem dL_placed_44 : decode cL_placed 44 = .ok (.invokevirtual 164, 3) := by decide +kernel
theorem dL_placed_47 : decode cL_placed 47 = .ok (.ifCond .ne 31, 3) := by decide +kernel
theorem dL_placed_50 : decode cL_placed 50 = .ok (.aload_n 0, 1) := by decide +kernel
theorem dL_placed_51 : decode cL_placed 51 = .ok (.iload_n 3, 1) := by decide +kernel
theorem dL_placed_52 : decode cL_placed 52 = .ok (.iconst 0, 1) := by decide +kernel
theorem dL_placed_53 : decode cL_placed 53 = .ok (.invokestatic 167, 3) := by decide +kernel
theorem dL_placed_56 : decode cL_placed 56 = .ok (.iconst 2, 1) := by decide +kernel
theorem dL_placed_57 : decode cL_placed 57 = .ok (.if_icmp .ne 21, 3) := by decide +kernel
theorem dL_placed_60 : decode cL_placed 60 = .ok (.aload_n 1, 1) := by decide +kernel
theorem dL_placed_61 : decode cL_placed 61 = .ok (.iconst 1, 1) := by decide +kernel
theorem dL_placed_62 : decode cL_placed 62 = .ok (.invokestatic 86, 3) := by decide +kernel
theorem dL_placed_65 : decode cL_placed 65 = .ok (.ineg, 1) := by decide +kernel
theorem dL_placed_66 : decode cL_placed 66 = .ok (.aload_n 1, 1) := by decide +kernel
theorem dL_placed_67 : decode cL_placed 67 = .ok (.iload_n 3, 1) := by decide +kernel
theorem dL_placed_68 : decode cL_placed 68 = .ok (.invokestatic 122, 3) := by decide +kernel
theorem dL_placed_71 : decode cL_placed 71 = .ok (.imul, 1) := by decide +kernel
theorem dL_placed_72 : decode cL_placed 72 = .ok (.iload 5, 2) := by decide +kernel
theorem dL_placed_74 : decode cL_placed 74 = .ok (.imul, 1) := by decide +kernel
theorem dL_placed_75 : decode cL_placed 75 = .ok (.goto 5, 3) := by decide +kernel
theorem dL_placed_78 : decode cL_placed 78 = .ok (.ldc 171, 2) := by decide +kernel
theorem dL_placed_80 : decode cL_placed 80 = .ok (.ireturn, 1) := by decide +kernel
theorem dL_placed_81 : decode cL_placed 81 = .ok (.iload 6, 2) := by decide +kernel
theorem dL_placed_83 : decode cL_placed 83 = .ok (.iload 4, 2) := by decide +kernel
theorem dL_placed_85 : decode cL_placed 85 = .ok (.invokestatic 147, 3) := by decide +kernel
theorem dL_placed_88 : decode cL_placed 88 = .ok (.iconst 1, 1) := by decide +kernel
theorem dL_placed_89 : decode cL_placed 89 = .ok (.if_icmp .ne 7, 3) := by decide +kernel
theorem dL_placed_92 : decode cL_placed 92 = .ok (.iconst 1, 1) := by decide +kernel
theorem dL_placed_93 : decode cL_placed 93 = .ok (.goto 4, 3) := by decide +kernel
theorem dL_placed_96 : decode cL_placed 96 = .ok (.iconst 2, 1) := by decide +kernel
theorem dL_placed_97 : decode cL_placed 97 = .ok (.if_icmp .ne 13, 3) := by decide +kernel
theorem dL_placed_100 : decode cL_placed 100 = .ok (.aload_n 0, 1) := by decide +kernel
theorem dL_placed_101 : decode cL_placed 101 = .ok (.iload_n 3, 1) := by decide +kernel
theorem dL_placed_102 : decode cL_placed 102 = .ok (.invokevirtual 162, 3) := by decide +kernel
theorem dL_placed_105 : decode cL_placed 105 = .ok (.iload 4, 2) := by decide +kernel
theorem dL_placed_107 : decode cL_placed 107 = .ok (.if_icmp .eq 6, 3) := by decide +kernel
theorem dL_placed_110 : decode cL_placed 110 = .ok (.ldc 171, 2) := by decide +kernel
theorem dL_placed_112 : decode cL_placed 112 = .ok (.ireturn, 1) := by decide +kernel
theorem dL_placed_113 : decode cL_placed 113 = .ok (.iconst 0, 1) := by decide +kernel
theorem dL_placed_114 : decode cL_placed 114 = .ok (.istore 7, 2) := by decide +kernel
theorem dL_placed_116 : decode cL_placed 116 = .ok (.iconst 0, 1) := by decide +kernel
theorem dL_placed_117 : decode cL_placed 117 = .ok (.istore 8, 2) := by decide +kernel
theorem dL_placed_119 : decode cL_placed 119 = .ok (.iload 8, 2) := by decide +kernel
theorem dL_placed_121 : decode cL_placed 121 = .ok (.aload_n 1, 1) := by decide +kernel
theorem dL_placed_122 : decode cL_placed 122 = .ok (.iload_n 3, 1) := by decide +kernel
theorem dL_placed_123 : decode cL_placed 123 = .ok (.invokestatic 122, 3) := by decide +kernel
theorem dL_placed_126 : decode cL_placed 126 = .ok (.if_icmp .ge 138, 3) := by decide +kernel
theorem dL_placed_129 : decode cL_placed 129 = .ok (.aload_n 1, 1) := by decide +kernel
theorem dL_placed_130 : decode cL_placed 130 = .ok (.aload_n 2, 1) := by decide +kernel
theorem dL_placed_131 : decode cL_placed 131 = .ok (.iload_n 3, 1) := by decide +kernel
theorem dL_placed_132 : decode cL_placed 132 = .ok (.iload 4, 2) := by decide +kernel
theorem dL_placed_134 : decode cL_placed 134 = .ok (.iload 8, 2) := by decide +kernel
theorem dL_placed_136 : decode cL_placed 136 = .ok (.aload_n 1, 1) := by decide +kernel
theorem dL_placed_137 : decode cL_placed 137 = .ok (.iload_n 3, 1) := by decide +kernel
theorem dL_placed_138 : decode cL_placed 138 = .ok (.iconst 2, 1) := by decide +kernel
theorem dL_placed_139 : decode cL_placed 139 = .ok (.invokestatic 98, 3) := by decide +kernel
theorem dL_placed_142 : decode cL_placed 142 = .ok (.if_icmp .ge 7, 3) := by decide +kernel
theorem dL_placed_145 : decode cL_placed 145 = .ok (.iconst 1, 1) := by decide +kernel
theorem dL_placed_146 : decode cL_placed 146 = .ok (.goto 4, 3) := by decide +kernel
theorem dL_placed_149 : decode cL_placed 149 = .ok (.iconst 2, 1) := by decide +kernel
theorem dL_placed_150 : decode cL_placed 150 = .ok (.invokestatic 172, 3) := by decide +kernel
theorem dL_placed_153 : decode cL_placed 153 = .ok (.istore 9, 2) := by decide +kernel
theorem dL_placed_155 : decode cL_placed 155 = .ok (.iload 9, 2) := by decide +kernel
theorem dL_placed_157 : decode cL_placed 157 = .ok (.ifCond .ge 14, 3) := by decide +kernel
theorem dL_placed_160 : decode cL_placed 160 = .ok (.aload_n 1, 1) := by decide +kernel
theorem dL_placed_161 : decode cL_placed 161 = .ok (.aload_n 2, 1) := by decide +kernel
theorem dL_placed_162 : decode cL_placed 162 = .ok (.iload_n 3, 1) := by decide +kernel
theorem dL_placed_163 : decode cL_placed 163 = .ok (.iload 4, 2) := by decide +kernel
theorem dL_placed_165 : decode cL_placed 165 = .ok (.iconst 0, 1) := by decide +kernel
theorem dL_placed_166 : decode cL_placed 166 = .ok (.invokestatic 172, 3) := by decide +kernel
theorem dL_placed_169 : decode cL_placed 169 = .ok (.istore 9, 2) := by decide +kernel
theorem dL_placed_171 : decode cL_placed 171 = .ok (.aload_n 0, 1) := by decide +kernel
theorem dL_placed_172 : decode cL_placed 172 = .ok (.iload_n 3, 1) := by decide +kernel
theorem dL_placed_173 : decode cL_placed 173 = .ok (.iload 8, 2) := by decide +kernel
theorem dL_placed_175 : decode cL_placed 175 = .ok (.invokevirtual 176, 3) := by decide +kernel
theorem dL_placed_178 : decode cL_placed 178 = .ok (.iload 9, 2) := by decide +kernel
theorem dL_placed_180 : decode cL_placed 180 = .ok (.bipush 10, 2) := by decide +kernel
theorem dL_placed_182 : decode cL_placed 182 = .ok (.idiv, 1) := by decide +kernel
theorem dL_placed_183 : decode cL_placed 183 = .ok (.if_icmp .ne 18, 3) := by decide +kernel
theorem dL_placed_186 : decode cL_placed 186 = .ok (.aload_n 0, 1) := by decide +kernel
theorem dL_placed_187 : decode cL_placed 187 = .ok (.iload_n 3, 1) := by decide +kernel
theorem dL_placed_188 : decode cL_placed 188 = .ok (.iload 8, 2) := by decide +kernel
theorem dL_placed_190 : decode cL_placed 190 = .ok (.invokevirtual 109, 3) := by decide +kernel
theorem dL_placed_193 : decode cL_placed 193 = .ok (.iload 9, 2) := by decide +kernel
theorem dL_placed_195 : decode cL_placed 195 = .ok (.bipush 10, 2) := by decide +kernel
theorem dL_placed_197 : decode cL_placed 197 = .ok (.irem, 1) := by decide +kernel
theorem dL_placed_198 : decode cL_placed 198 = .ok (.if_icmp .eq 6, 3) := by decide +kernel
theorem dL_placed_201 : decode cL_placed 201 = .ok (.ldc 171, 2) := by decide +kernel
theorem dL_placed_203 : decode cL_placed 203 = .ok (.ireturn, 1) := by decide +kernel
theorem dL_placed_204 : decode cL_placed 204 = .ok (.iconst 0, 1) := by decide +kernel
theorem dL_placed_205 : decode cL_placed 205 = .ok (.istore 10, 2) := by decide +kernel
theorem dL_placed_207 : decode cL_placed 207 = .ok (.iload 10, 2) := by decide +kernel
theorem dL_placed_209 : decode cL_placed 209 = .ok (.bipush 30, 2) := by decide +kernel
theorem dL_placed_211 : decode cL_placed 211 = .ok (.if_icmp .ge 29, 3) := by decide +kernel
theorem dL_placed_214 : decode cL_placed 214 = .ok (.aload_n 1, 1) := by decide +kernel
theorem dL_placed_215 : decode cL_placed 215 = .ok (.iload_n 3, 1) := by decide +kernel
theorem dL_placed_216 : decode cL_placed 216 = .ok (.iload 10, 2) := by decide +kernel
theorem dL_placed_218 : decode cL_placed 218 = .ok (.invokestatic 118, 3) := by decide +kernel
theorem dL_placed_221 : decode cL_placed 221 = .ok (.ifCond .eq 13, 3) := by decide +kernel
theorem dL_placed_224 : decode cL_placed 224 = .ok (.aload_n 2, 1) := by decide +kernel
theorem dL_placed_225 : decode cL_placed 225 = .ok (.iload 9, 2) := by decide +kernel
theorem dL_placed_227 : decode cL_placed 227 = .ok (.aaload, 1) := by decide +kernel
theorem dL_placed_228 : decode cL_placed 228 = .ok (.iload 10, 2) := by decide +kernel
theorem dL_placed_230 : decode cL_placed 230 = .ok (.iload_n 3, 1) := by decide +kernel
theorem dL_placed_231 : decode cL_placed 231 = .ok (.iconst 1, 1) := by decide +kernel
theorem dL_placed_232 : decode cL_placed 232 = .ok (.iadd, 1) := by decide +kernel
theorem dL_placed_233 : decode cL_placed 233 = .ok (.iastore, 1) := by decide +kernel
theorem dL_placed_234 : decode cL_placed 234 = .ok (.iinc 10 1, 3) := by decide +kernel
theorem dL_placed_237 : decode cL_placed 237 = .ok (.goto (-30), 3) := by decide +kernel
theorem dL_placed_240 : decode cL_placed 240 = .ok (.iload 7, 2) := by decide +kernel
theorem dL_placed_242 : decode cL_placed 242 = .ok (.aload_n 1, 1) := by decide +kernel
theorem dL_placed_243 : decode cL_placed 243 = .ok (.iload 9, 2) := by decide +kernel
theorem dL_placed_245 : decode cL_placed 245 = .ok (.bipush 10, 2) := by decide +kernel
theorem dL_placed_247 : decode cL_placed 247 = .ok (.idiv, 1) := by decide +kernel
theorem dL_placed_248 : decode cL_placed 248 = .ok (.iconst 3, 1) := by decide +kernel
theorem dL_placed_249 : decode cL_placed 249 = .ok (.invokestatic 77, 3) := by decide +kernel
theorem dL_placed_252 : decode cL_placed 252 = .ok (.iload 5, 2) := by decide +kernel
theorem dL_placed_254 : decode cL_placed 254 = .ok (.imul, 1) := by decide +kernel
theorem dL_placed_255 : decode cL_placed 255 = .ok (.iadd, 1) := by decide +kernel
theorem dL_placed_256 : decode cL_placed 256 = .ok (.istore 7, 2) := by decide +kernel
theorem dL_placed_258 : decode cL_placed 258 = .ok (.iinc 8 1, 3) := by decide +kernel
theorem dL_placed_261 : decode cL_placed 261 = .ok (.goto (-142), 3) := by decide +kernel
theorem dL_placed_264 : decode cL_placed 264 = .ok (.iload 5, 2) := by decide +kernel
theorem dL_placed_266 : decode cL_placed 266 = .ok (.aload_n 1, 1) := by decide +kernel
theorem dL_placed_267 : decode cL_placed 267 = .ok (.iconst 2, 1) := by decide +kernel
theorem dL_placed_268 : decode cL_placed 268 = .ok (.invokestatic 86, 3) := by decide +kernel
theorem dL_placed_271 : decode cL_placed 271 = .ok (.if_icmp .lt 20, 3) := by decide +kernel
theorem dL_placed_274 : decode cL_placed 274 = .ok (.iload 7, 2) := by decide +kernel
theorem dL_placed_276 : decode cL_placed 276 = .ok (.bipush 100, 2) := by decide +kernel
theorem dL_placed_278 : decode cL_placed 278 = .ok (.aload_n 1, 1) := by decide +kernel
theorem dL_placed_279 : decode cL_placed 279 = .ok (.iconst 3, 1) := by decide +kernel
theorem dL_placed_280 : decode cL_placed 280 = .ok (.invokestatic 86, 3) := by decide +kernel
theorem dL_placed_283 : decode cL_placed 283 = .ok (.isub, 1) := by decide +kernel
theorem dL_placed_284 : decode cL_placed 284 = .ok (.imul, 1) := by decide +kernel
theorem dL_placed_285 : decode cL_placed 285 = .ok (.bipush 100, 2) := by decide +kernel
theorem dL_placed_287 : decode cL_placed 287 = .ok (.idiv, 1) := by decide +kernel
theorem dL_placed_288 : decode cL_placed 288 = .ok (.goto 5, 3) := by decide +kernel
theorem dL_placed_291 : decode cL_placed 291 = .ok (.iload 7, 2) := by decide +kernel
theorem dL_placed_293 : decode cL_placed 293 = .ok (.istore 7, 2) := by decide +kernel
theorem dL_placed_295 : decode cL_placed 295 = .ok (.aload_n 0, 1) := by decide +kernel
theorem dL_placed_296 : decode cL_placed 296 = .ok (.iload_n 3, 1) := by decide +kernel
theorem dL_placed_297 : decode cL_placed 297 = .ok (.invokevirtual 164, 3) := by decide +kernel
theorem dL_placed_300 : decode cL_placed 300 = .ok (.iload 7, 2) := by decide +kernel
theorem dL_placed_302 : decode cL_placed 302 = .ok (.if_icmp .ne 8, 3) := by decide +kernel
theorem dL_placed_305 : decode cL_placed 305 = .ok (.iload 7, 2) := by decide +kernel
theorem dL_placed_307 : decode cL_placed 307 = .ok (.goto 5, 3) := by decide +kernel
theorem dL_placed_310 : decode cL_placed 310 = .ok (.ldc 171, 2) := by decide +kernel
theorem dL_placed_312 : decode cL_placed 312 = .ok (.ireturn, 1) := by decide +kernel
theorem dL_isHostel_0 : decode cL_isHostel 0 = .ok (.bipush 40, 2) := by decide +kernel
theorem dL_isHostel_2 : decode cL_isHostel 2 = .ok (.bipush 30, 2) := by decide +kernel
theorem dL_isHostel_4 : decode cL_isHostel 4 = .ok (.multianewarray 179 2, 4) := by decide +kernel
theorem dL_isHostel_8 : decode cL_isHostel 8 = .ok (.astore_n 3, 1) := by decide +kernel
theorem dL_isHostel_9 : decode cL_isHostel 9 = .ok (.iconst 0, 1) := by decide +kernel
theorem dL_isHostel_10 : decode cL_isHostel 10 = .ok (.istore 4, 2) := by decide +kernel
theorem dL_isHostel_12 : decode cL_isHostel 12 = .ok (.iconst 0, 1) := by decide +kernel
theorem dL_isHostel_13 : decode cL_isHostel 13 = .ok (.istore 5, 2) := by decide +kernel
theorem dL_isHostel_15 : decode cL_isHostel 15 = .ok (.iload 5, 2) := by decide +kernel
theorem dL_isHostel_17 : decode cL_isHostel 17 = .ok (.bipush 30, 2) := by decide +kernel
theorem dL_isHostel_19 : decode cL_isHostel 19 = .ok (.if_icmp .ge 75, 3) := by decide +kernel
theorem dL_isHostel_22 : decode cL_isHostel 22 = .ok (.iconst 0, 1) := by decide +kernel
theorem dL_isHostel_23 : decode cL_isHostel 23 = .ok (.istore 6, 2) := by decide +kernel
theorem dL_isHostel_25 : decode cL_isHostel 25 = .ok (.iload 6, 2) := by decide +kernel
theorem dL_isHostel_27 : decode cL_isHostel 27 = .ok (.aload_n 1, 1) := by decide +kernel
theorem dL_isHostel_28 : decode cL_isHostel 28 = .ok (.invokestatic 93, 3) := by decide +kernel
theorem dL_isHostel_31 : decode cL_isHostel 31 = .ok (.if_icmp .ge 57, 3) := by decide +kernel
theorem dL_isHostel_34 : decode cL_isHostel 34 = .ok (.aload_n 2, 1) := by decide +kernel
theorem dL_isHostel_35 : decode cL_isHostel 35 = .ok (.iload 6, 2) := by decide +kernel
theorem dL_isHostel_37 : decode cL_isHostel 37 = .ok (.baload, 1) := by decide +kernel
theorem dL_isHostel_38 : decode cL_isHostel 38 = .ok (.ifCond .eq 44, 3) := by decide +kernel
theorem dL_isHostel_41 : decode cL_isHostel 41 = .ok (.aload_n 1, 1) := by decide +kernel
theorem dL_isHostel_42 : decode cL_isHostel 42 = .ok (.iload 6, 2) := by decide +kernel
theorem dL_isHostel_44 : decode cL_isHostel 44 = .ok (.iconst 0, 1) := by decide +kernel
theorem dL_isHostel_45 : decode cL_isHostel 45 = .ok (.invokestatic 98, 3) := by decide +kernel
theorem dL_isHostel_48 : decode cL_isHostel 48 = .ok (.iload 5, 2) := by decide +kernel
theorem dL_isHostel_50 : decode cL_isHostel 50 = .ok (.if_icmp .eq 6, 3) := by decide +kernel
theorem dL_isHostel_53 : decode cL_isHostel 53 = .ok (.goto 29, 3) := by decide +kernel
theorem dL_isHostel_56 : decode cL_isHostel 56 = .ok (.aload_n 0, 1) := by decide +kernel
theorem dL_isHostel_57 : decode cL_isHostel 57 = .ok (.aload_n 1, 1) := by decide +kernel
theorem dL_isHostel_58 : decode cL_isHostel 58 = .ok (.aload_n 3, 1) := by decide +kernel
theorem dL_isHostel_59 : decode cL_isHostel 59 = .ok (.iload 6, 2) := by decide +kernel
theorem dL_isHostel_61 : decode cL_isHostel 61 = .ok (.invokestatic 181, 3) := by decide +kernel
theorem dL_isHostel_64 : decode cL_isHostel 64 = .ok (.istore 7, 2) := by decide +kernel
theorem dL_isHostel_66 : decode cL_isHostel 66 = .ok (.iload 7, 2) := by decide +kernel
theorem dL_isHostel_68 : decode cL_isHostel 68 = .ok (.ldc 171, 2) := by decide +kernel
theorem dL_isHostel_70 : decode cL_isHostel 70 = .ok (.if_icmp .ne 5, 3) := by decide +kernel
theorem dL_isHostel_73 : decode cL_isHostel 73 = .ok (.iconst 0, 1) := by decide +kernel
theorem dL_isHostel_74 : decode cL_isHostel 74 = .ok (.ireturn, 1) := by decide +kernel
theorem dL_isHostel_75 : decode cL_isHostel 75 = .ok (.iload 4, 2) := by decide +kernel
theorem dL_isHostel_77 : decode cL_isHostel 77 = .ok (.iload 7, 2) := by decide +kernel
theorem dL_isHostel_79 : decode cL_isHostel 79 = .ok (.iadd, 1) := by decide +kernel
theorem dL_isHostel_80 : decode cL_isHostel 80 = .ok (.istore 4, 2) := by decide +kernel
theorem dL_isHostel_82 : decode cL_isHostel 82 = .ok (.iinc 6 1, 3) := by decide +kernel
theorem dL_isHostel_85 : decode cL_isHostel 85 = .ok (.goto (-60), 3) := by decide +kernel
theorem dL_isHostel_88 : decode cL_isHostel 88 = .ok (.iinc 5 1, 3) := by decide +kernel
theorem dL_isHostel_91 : decode cL_isHostel 91 = .ok (.goto (-76), 3) := by decide +kernel
theorem dL_isHostel_94 : decode cL_isHostel 94 = .ok (.aload_n 1, 1) := by decide +kernel
theorem dL_isHostel_95 : decode cL_isHostel 95 = .ok (.bipush 13, 2) := by decide +kernel
theorem dL_isHostel_97 : decode cL_isHostel 97 = .ok (.invokestatic 43, 3) := by decide +kernel
theorem dL_isHostel_100 : decode cL_isHostel 100 = .ok (.bipush 30, 2) := by decide +kernel
theorem dL_isHostel_102 : decode cL_isHostel 102 = .ok (.invokestatic 47, 3) := by decide +kernel
theorem dL_isHostel_105 : decode cL_isHostel 105 = .ok (.istore 5, 2) := by decide +kernel
theorem dL_isHostel_107 : decode cL_isHostel 107 = .ok (.iconst 0, 1) := by decide +kernel
theorem dL_isHostel_108 : decode cL_isHostel 108 = .ok (.istore 6, 2) := by decide +kernel
theorem dL_isHostel_110 : decode cL_isHostel 110 = .ok (.iconst 0, 1) := by decide +kernel
theorem dL_isHostel_111 : decode cL_isHostel 111 = .ok (.istore 7, 2) := by decide +kernel
theorem dL_isHostel_113 : decode cL_isHostel 113 = .ok (.iload 7, 2) := by decide +kernel
theorem dL_isHostel_115 : decode cL_isHostel 115 = .ok (.bipush 40, 2) := by decide +kernel
theorem dL_isHostel_117 : decode cL_isHostel 117 = .ok (.if_icmp .ge 92, 3) := by decide +kernel
theorem dL_isHostel_120 : decode cL_isHostel 120 = .ok (.iload 7, 2) := by decide +kernel
theorem dL_isHostel_122 : decode cL_isHostel 122 = .ok (.bipush 10, 2) := by decide +kernel
theorem dL_isHostel_124 : decode cL_isHostel 124 = .ok (.idiv, 1) := by decide +kernel
theorem dL_isHostel_125 : decode cL_isHostel 125 = .ok (.aload_n 1, 1) := by decide +kernel
theorem dL_isHostel_126 : decode cL_isHostel 126 = .ok (.invokestatic 65, 3) := by decide +kernel
theorem dL_isHostel_129 : decode cL_isHostel 129 = .ok (.if_icmp .ge 74, 3) := by decide +kernel
theorem dL_isHostel_132 : decode cL_isHostel 132 = .ok (.iload 7, 2) := by decide +kernel
theorem dL_isHostel_134 : decode cL_isHostel 134 = .ok (.bipush 10, 2) := by decide +kernel
theorem dL_isHostel_136 : decode cL_isHostel 136 = .ok (.irem, 1) := by decide +kernel
theorem dL_isHostel_137 : decode cL_isHostel 137 = .ok (.aload_n 1, 1) := by decide +kernel
theorem dL_isHostel_138 : decode cL_isHostel 138 = .ok (.iload 7, 2) := by decide +kernel
theorem dL_isHostel_140 : decode cL_isHostel 140 = .ok (.bipush 10, 2) := by decide +kernel
theorem dL_isHostel_142 : decode cL_isHostel 142 = .ok (.idiv, 1) := by decide +kernel
theorem dL_isHostel_143 : decode cL_isHostel 143 = .ok (.iconst 1, 1) := by decide +kernel
theorem dL_isHostel_144 : decode cL_isHostel 144 = .ok (.invokestatic 77, 3) := by decide +kernel
theorem dL_isHostel_147 : decode cL_isHostel 147 = .ok (.if_icmp .lt 6, 3) := by decide +kernel
theorem dL_isHostel_150 : decode cL_isHostel 150 = .ok (.goto 53, 3) := by decide +kernel
theorem dL_isHostel_153 : decode cL_isHostel 153 = .ok (.aload_n 0, 1) := by decide +kernel
theorem dL_isHostel_154 : decode cL_isHostel 154 = .ok (.iload 7, 2) := by decide +kernel
theorem dL_isHostel_156 : decode cL_isHostel 156 = .ok (.bipush 10, 2) := by decide +kernel
theorem dL_isHostel_158 : decode cL_isHostel 158 = .ok (.idiv, 1) := by decide +kernel
theorem dL_isHostel_159 : decode cL_isHostel 159 = .ok (.iload 7, 2) := by decide +kernel
theorem dL_isHostel_161 : decode cL_isHostel 161 = .ok (.bipush 10, 2) := by decide +kernel
theorem dL_isHostel_163 : decode cL_isHostel 163 = .ok (.irem, 1) := by decide +kernel
theorem dL_isHostel_164 : decode cL_isHostel 164 = .ok (.iload 5, 2) := by decide +kernel
theorem dL_isHostel_166 : decode cL_isHostel 166 = .ok (.invokevirtual 184, 3) := by decide +kernel
theorem dL_isHostel_169 : decode cL_isHostel 169 = .ok (.aload_n 3, 1) := by decide +kernel
theorem dL_isHostel_170 : decode cL_isHostel 170 = .ok (.iload 7, 2) := by decide +kernel
theorem dL_isHostel_172 : decode cL_isHostel 172 = .ok (.aaload, 1) := by decide +kernel
theorem dL_isHostel_173 : decode cL_isHostel 173 = .ok (.iload 5, 2) := by decide +kernel
theorem dL_isHostel_175 : decode cL_isHostel 175 = .ok (.iaload, 1) := by decide +kernel
theorem dL_isHostel_176 : decode cL_isHostel 176 = .ok (.iconst 1, 1) := by decide +kernel
theorem dL_isHostel_177 : decode cL_isHostel 177 = .ok (.isub, 1) := by decide +kernel
theorem dL_isHostel_178 : decode cL_isHostel 178 = .ok (.if_icmp .eq 5, 3) := by decide +kernel
theorem dL_isHostel_181 : decode cL_isHostel 181 = .ok (.iconst 0, 1) := by decide +kernel
theorem dL_isHostel_182 : decode cL_isHostel 182 = .ok (.ireturn, 1) := by decide +kernel
theorem dL_isHostel_183 : decode cL_isHostel 183 = .ok (.iload 6, 2) := by decide +kernel
theorem dL_isHostel_185 : decode cL_isHostel 185 = .ok (.aload_n 3, 1) := by decide +kernel
theorem dL_isHostel_186 : decode cL_isHostel 186 = .ok (.iload 7, 2) := by decide +kernel
theorem dL_isHostel_188 : decode cL_isHostel 188 = .ok (.aaload, 1) := by decide +kernel
theorem dL_isHostel_189 : decode cL_isHostel 189 = .ok (.iload 5, 2) := by decide +kernel
theorem dL_isHostel_191 : decode cL_isHostel 191 = .ok (.iaload, 1) := by decide +kernel
theorem dL_isHostel_192 : decode cL_isHostel 192 = .ok (.ifCond .le 7, 3) := by decide +kernel
theorem dL_isHostel_195 : decode cL_isHostel 195 = .ok (.iconst 1, 1) := by decide +kernel
theorem dL_isHostel_196 : decode cL_isHostel 196 = .ok (.goto 4, 3) := by decide +kernel
theorem dL_isHostel_199 : decode cL_isHostel 199 = .ok (.iconst 0, 1) := by decide +kernel
theorem dL_isHostel_200 : decode cL_isHostel 200 = .ok (.iadd, 1) := by decide +kernel
theorem dL_isHostel_201 : decode cL_isHostel 201 = .ok (.istore 6, 2) := by decide +kernel
theorem dL_isHostel_203 : decode cL_isHostel 203 = .ok (.iinc 7 1, 3) := by decide +kernel
theorem dL_isHostel_206 : decode cL_isHostel 206 = .ok (.goto (-93), 3) := by decide +kernel
theorem dL_isHostel_209 : decode cL_isHostel 209 = .ok (.aload_n 0, 1) := by decide +kernel
theorem dL_isHostel_210 : decode cL_isHostel 210 = .ok (.invokevirtual 188, 3) := by decide +kernel
theorem dL_isHostel_213 : decode cL_isHostel 213 = .ok (.iload 4, 2) := by decide +kernel
theorem dL_isHostel_215 : decode cL_isHostel 215 = .ok (.if_icmp .ne 34, 3) := by decide +kernel
theorem dL_isHostel_218 : decode cL_isHostel 218 = .ok (.aload_n 0, 1) := by decide +kernel
theorem dL_isHostel_219 : decode cL_isHostel 219 = .ok (.iload 5, 2) := by decide +kernel
theorem dL_isHostel_221 : decode cL_isHostel 221 = .ok (.invokevirtual 191, 3) := by decide +kernel
theorem dL_isHostel_224 : decode cL_isHostel 224 = .ok (.iload 6, 2) := by decide +kernel
theorem dL_isHostel_226 : decode cL_isHostel 226 = .ok (.if_icmp .ne 23, 3) := by decide +kernel
theorem dL_isHostel_229 : decode cL_isHostel 229 = .ok (.aload_n 0, 1) := by decide +kernel
theorem dL_isHostel_230 : decode cL_isHostel 230 = .ok (.iload 5, 2) := by decide +kernel
theorem dL_isHostel_232 : decode cL_isHostel 232 = .ok (.invokevirtual 194, 3) := by decide +kernel
theorem dL_isHostel_235 : decode cL_isHostel 235 = .ok (.aload_n 1, 1) := by decide +kernel
theorem dL_isHostel_236 : decode cL_isHostel 236 = .ok (.aload_n 2, 1) := by decide +kernel
theorem dL_isHostel_237 : decode cL_isHostel 237 = .ok (.iload 5, 2) := by decide +kernel
theorem dL_isHostel_239 : decode cL_isHostel 239 = .ok (.invokestatic 128, 3) := by decide +kernel
theorem dL_isHostel_242 : decode cL_isHostel 242 = .ok (.if_icmp .ne 7, 3) := by decide +kernel
theorem dL_isHostel_245 : decode cL_isHostel 245 = .ok (.iconst 1, 1) := by decide +kernel
theorem dL_isHostel_246 : decode cL_isHostel 246 = .ok (.goto 4, 3) := by decide +kernel
theorem dL_isHostel_249 : decode cL_isHostel 249 = .ok (.iconst 0, 1) := by decide +kernel
theorem dL_isHostel_250 : decode cL_isHostel 250 = .ok (.ireturn, 1) := by decide +kernel
theorem dL_areChances_0 : decode cL_areChances 0 = .ok (.bipush 120, 2) := by decide +kernel
theorem dL_areChances_2 : decode cL_areChances 2 = .ok (.newarray .double, 2) := by decide +kernel
theorem dL_areChances_4 : decode cL_areChances 4 = .ok (.astore 4, 2) := by decide +kernel
theorem dL_areChances_6 : decode cL_areChances 6 = .ok (.aload 4, 2) := by decide +kernel
theorem dL_areChances_8 : decode cL_areChances 8 = .ok (.iconst 0, 1) := by decide +kernel
theorem dL_areChances_9 : decode cL_areChances 9 = .ok (.dconst 1, 1) := by decide +kernel
theorem dL_areChances_10 : decode cL_areChances 10 = .ok (.dastore, 1) := by decide +kernel
theorem dL_areChances_11 : decode cL_areChances 11 = .ok (.iconst 0, 1) := by decide +kernel
theorem dL_areChances_12 : decode cL_areChances 12 = .ok (.istore 5, 2) := by decide +kernel
theorem dL_areChances_14 : decode cL_areChances 14 = .ok (.iload 5, 2) := by decide +kernel
theorem dL_areChances_16 : decode cL_areChances 16 = .ok (.aload_n 1, 1) := by decide +kernel
theorem dL_areChances_17 : decode cL_areChances 17 = .ok (.invokestatic 93, 3) := by decide +kernel
theorem dL_areChances_20 : decode cL_areChances 20 = .ok (.if_icmp .ge 115, 3) := by decide +kernel
theorem dL_areChances_23 : decode cL_areChances 23 = .ok (.aload_n 2, 1) := by decide +kernel
theorem dL_areChances_24 : decode cL_areChances 24 = .ok (.iload 5, 2) := by decide +kernel
theorem dL_areChances_26 : decode cL_areChances 26 = .ok (.baload, 1) := by decide +kernel
theorem dL_areChances_27 : decode cL_areChances 27 = .ok (.ifCond .eq 102, 3) := by decide +kernel
theorem dL_areChances_30 : decode cL_areChances 30 = .ok (.aload_n 1, 1) := by decide +kernel
theorem dL_areChances_31 : decode cL_areChances 31 = .ok (.iload 5, 2) := by decide +kernel
theorem dL_areChances_33 : decode cL_areChances 33 = .ok (.iload_n 3, 1) := by decide +kernel
theorem dL_areChances_34 : decode cL_areChances 34 = .ok (.invokestatic 118, 3) := by decide +kernel
theorem dL_areChances_37 : decode cL_areChances 37 = .ok (.ifCond .ne 6, 3) := by decide +kernel
theorem dL_areChances_40 : decode cL_areChances 40 = .ok (.goto 89, 3) := by decide +kernel
theorem dL_areChances_43 : decode cL_areChances 43 = .ok (.aload_n 1, 1) := by decide +kernel
theorem dL_areChances_44 : decode cL_areChances 44 = .ok (.iload 5, 2) := by decide +kernel
theorem dL_areChances_46 : decode cL_areChances 46 = .ok (.iconst 5, 1) := by decide +kernel
theorem dL_areChances_47 : decode cL_areChances 47 = .ok (.invokestatic 98, 3) := by decide +kernel
theorem dL_areChances_50 : decode cL_areChances 50 = .ok (.i2d, 1) := by decide +kernel
theorem dL_areChances_51 : decode cL_areChances 51 = .ok (.ldc2_w 196, 3) := by decide +kernel
theorem dL_areChances_54 : decode cL_areChances 54 = .ok (.ddiv, 1) := by decide +kernel
theorem dL_areChances_55 : decode cL_areChances 55 = .ok (.dstore 6, 2) := by decide +kernel
theorem dL_areChances_57 : decode cL_areChances 57 = .ok (.bipush 120, 2) := by decide +kernel
theorem dL_areChances_59 : decode cL_areChances 59 = .ok (.newarray .double, 2) := by decide +kernel
theorem dL_areChances_61 : decode cL_areChances 61 = .ok (.astore 8, 2) := by decide +kernel
theorem dL_areChances_63 : decode cL_areChances 63 = .ok (.iconst 0, 1) := by decide +kernel
theorem dL_areChances_64 : decode cL_areChances 64 = .ok (.istore 9, 2) := by decide +kernel
theorem dL_areChances_66 : decode cL_areChances 66 = .ok (.iload 9, 2) := by decide +kernel
theorem dL_areChances_68 : decode cL_areChances 68 = .ok (.bipush 120, 2) := by decide +kernel
theorem dL_areChances_70 : decode cL_areChances 70 = .ok (.if_icmp .ge 55, 3) := by decide +kernel
theorem dL_areChances_73 : decode cL_areChances 73 = .ok (.aload 8, 2) := by decide +kernel
theorem dL_areChances_75 : decode cL_areChances 75 = .ok (.iload 9, 2) := by decide +kernel
theorem dL_areChances_77 : decode cL_areChances 77 = .ok (.aload 4, 2) := by decide +kernel
theorem dL_areChances_79 : decode cL_areChances 79 = .ok (.iload 9, 2) := by decide +kernel
theorem dL_areChances_81 : decode cL_areChances 81 = .ok (.daload, 1) := by decide +kernel
theorem dL_areChances_82 : decode cL_areChances 82 = .ok (.dconst 1, 1) := by decide +kernel
theorem dL_areChances_83 : decode cL_areChances 83 = .ok (.dload 6, 2) := by decide +kernel
theorem dL_areChances_85 : decode cL_areChances 85 = .ok (.dsub, 1) := by decide +kernel
theorem dL_areChances_86 : decode cL_areChances 86 = .ok (.dmul, 1) := by decide +kernel
theorem dL_areChances_87 : decode cL_areChances 87 = .ok (.iload 9, 2) := by decide +kernel
theorem dL_areChances_89 : decode cL_areChances 89 = .ok (.aload_n 1, 1) := by decide +kernel
theorem dL_areChances_90 : decode cL_areChances 90 = .ok (.iload 5, 2) := by decide +kernel
theorem dL_areChances_92 : decode cL_areChances 92 = .ok (.invokestatic 122, 3) := by decide +kernel
theorem dL_areChances_95 : decode cL_areChances 95 = .ok (.if_icmp .ge 7, 3) := by decide +kernel
theorem dL_areChances_98 : decode cL_areChances 98 = .ok (.dconst 0, 1) := by decide +kernel
theorem dL_areChances_99 : decode cL_areChances 99 = .ok (.goto 15, 3) := by decide +kernel
theorem dL_areChances_102 : decode cL_areChances 102 = .ok (.aload 4, 2) := by decide +kernel
theorem dL_areChances_104 : decode cL_areChances 104 = .ok (.iload 9, 2) := by decide +kernel
theorem dL_areChances_106 : decode cL_areChances 106 = .ok (.aload_n 1, 1) := by decide +kernel
theorem dL_areChances_107 : decode cL_areChances 107 = .ok (.iload 5, 2) := by decide +kernel
theorem dL_areChances_109 : decode cL_areChances 109 = .ok (.invokestatic 122, 3) := by decide +kernel
theorem dL_areChances_112 : decode cL_areChances 112 = .ok (.isub, 1) := by decide +kernel
theorem dL_areChances_113 : decode cL_areChances 113 = .ok (.daload, 1) := by decide +kernel
theorem dL_areChances_114 : decode cL_areChances 114 = .ok (.dload 6, 2) := by decide +kernel
theorem dL_areChances_116 : decode cL_areChances 116 = .ok (.dmul, 1) := by decide +kernel
theorem dL_areChances_117 : decode cL_areChances 117 = .ok (.dadd, 1) := by decide +kernel
theorem dL_areChances_118 : decode cL_areChances 118 = .ok (.dastore, 1) := by decide +kernel
theorem dL_areChances_119 : decode cL_areChances 119 = .ok (.iinc 9 1, 3) := by decide +kernel
theorem dL_areChances_122 : decode cL_areChances 122 = .ok (.goto (-56), 3) := by decide +kernel
theorem dL_areChances_125 : decode cL_areChances 125 = .ok (.aload 8, 2) := by decide +kernel
theorem dL_areChances_127 : decode cL_areChances 127 = .ok (.astore 4, 2) := by decide +kernel
theorem dL_areChances_129 : decode cL_areChances 129 = .ok (.iinc 5 1, 3) := by decide +kernel
theorem dL_areChances_132 : decode cL_areChances 132 = .ok (.goto (-118), 3) := by decide +kernel
theorem dL_areChances_135 : decode cL_areChances 135 = .ok (.dconst 0, 1) := by decide +kernel
theorem dL_areChances_136 : decode cL_areChances 136 = .ok (.dstore 5, 2) := by decide +kernel
theorem dL_areChances_138 : decode cL_areChances 138 = .ok (.dconst 0, 1) := by decide +kernel
theorem dL_areChances_139 : decode cL_areChances 139 = .ok (.dstore 7, 2) := by decide +kernel
theorem dL_areChances_141 : decode cL_areChances 141 = .ok (.aload_n 1, 1) := by decide +kernel
theorem dL_areChances_142 : decode cL_areChances 142 = .ok (.invokestatic 125, 3) := by decide +kernel
theorem dL_areChances_145 : decode cL_areChances 145 = .ok (.iconst 1, 1) := by decide +kernel
theorem dL_areChances_146 : decode cL_areChances 146 = .ok (.iadd, 1) := by decide +kernel
theorem dL_areChances_147 : decode cL_areChances 147 = .ok (.istore 9, 2) := by decide +kernel
theorem dL_areChances_149 : decode cL_areChances 149 = .ok (.iload 9, 2) := by decide +kernel
theorem dL_areChances_151 : decode cL_areChances 151 = .ok (.bipush 120, 2) := by decide +kernel
theorem dL_areChances_153 : decode cL_areChances 153 = .ok (.if_icmp .ge 38, 3) := by decide +kernel
theorem dL_areChances_156 : decode cL_areChances 156 = .ok (.dload 5, 2) := by decide +kernel
theorem dL_areChances_158 : decode cL_areChances 158 = .ok (.aload 4, 2) := by decide +kernel
theorem dL_areChances_160 : decode cL_areChances 160 = .ok (.iload 9, 2) := by decide +kernel
theorem dL_areChances_162 : decode cL_areChances 162 = .ok (.daload, 1) := by decide +kernel
theorem dL_areChances_163 : decode cL_areChances 163 = .ok (.dadd, 1) := by decide +kernel
theorem dL_areChances_164 : decode cL_areChances 164 = .ok (.dstore 5, 2) := by decide +kernel
theorem dL_areChances_166 : decode cL_areChances 166 = .ok (.dload 7, 2) := by decide +kernel
theorem dL_areChances_168 : decode cL_areChances 168 = .ok (.iload 9, 2) := by decide +kernel
theorem dL_areChances_170 : decode cL_areChances 170 = .ok (.aload_n 1, 1) := by decide +kernel
theorem dL_areChances_171 : decode cL_areChances 171 = .ok (.invokestatic 125, 3) := by decide +kernel
theorem dL_areChances_174 : decode cL_areChances 174 = .ok (.isub, 1) := by decide +kernel
theorem dL_areChances_175 : decode cL_areChances 175 = .ok (.i2d, 1) := by decide +kernel
theorem dL_areChances_176 : decode cL_areChances 176 = .ok (.aload 4, 2) := by decide +kernel
theorem dL_areChances_178 : decode cL_areChances 178 = .ok (.iload 9, 2) := by decide +kernel
theorem dL_areChances_180 : decode cL_areChances 180 = .ok (.daload, 1) := by decide +kernel
theorem dL_areChances_181 : decode cL_areChances 181 = .ok (.dmul, 1) := by decide +kernel
theorem dL_areChances_182 : decode cL_areChances 182 = .ok (.dadd, 1) := by decide +kernel
theorem dL_areChances_183 : decode cL_areChances 183 = .ok (.dstore 7, 2) := by decide +kernel
theorem dL_areChances_185 : decode cL_areChances 185 = .ok (.iinc 9 1, 3) := by decide +kernel
theorem dL_areChances_188 : decode cL_areChances 188 = .ok (.goto (-39), 3) := by decide +kernel
theorem dL_areChances_191 : decode cL_areChances 191 = .ok (.iconst 0, 1) := by decide +kernel
theorem dL_areChances_192 : decode cL_areChances 192 = .ok (.istore 9, 2) := by decide +kernel
theorem dL_areChances_194 : decode cL_areChances 194 = .ok (.iload 9, 2) := by decide +kernel
theorem dL_areChances_196 : decode cL_areChances 196 = .ok (.bipush 40, 2) := by decide +kernel
theorem dL_areChances_198 : decode cL_areChances 198 = .ok (.if_icmp .ge 27, 3) := by decide +kernel
theorem dL_areChances_201 : decode cL_areChances 201 = .ok (.aload_n 0, 1) := by decide +kernel
theorem dL_areChances_202 : decode cL_areChances 202 = .ok (.iload_n 3, 1) := by decide +kernel
theorem dL_areChances_203 : decode cL_areChances 203 = .ok (.iload 9, 2) := by decide +kernel
theorem dL_areChances_205 : decode cL_areChances 205 = .ok (.invokevirtual 198, 3) := by decide +kernel
theorem dL_areChances_208 : decode cL_areChances 208 = .ok (.aload 4, 2) := by decide +kernel
theorem dL_areChances_210 : decode cL_areChances 210 = .ok (.iload 9, 2) := by decide +kernel
theorem dL_areChances_212 : decode cL_areChances 212 = .ok (.daload, 1) := by decide +kernel
theorem dL_areChances_213 : decode cL_areChances 213 = .ok (.dcmp .l, 1) := by decide +kernel
theorem dL_areChances_214 : decode cL_areChances 214 = .ok (.ifCond .eq 5, 3) := by decide +kernel
theorem dL_areChances_217 : decode cL_areChances 217 = .ok (.iconst 0, 1) := by decide +kernel
theorem dL_areChances_218 : decode cL_areChances 218 = .ok (.ireturn, 1) := by decide +kernel
theorem dL_areChances_219 : decode cL_areChances 219 = .ok (.iinc 9 1, 3) := by decide +kernel
theorem dL_areChances_222 : decode cL_areChances 222 = .ok (.goto (-28), 3) := by decide +kernel
theorem dL_areChances_225 : decode cL_areChances 225 = .ok (.aload_n 0, 1) := by decide +kernel
theorem dL_areChances_226 : decode cL_areChances 226 = .ok (.iload_n 3, 1) := by decide +kernel
theorem dL_areChances_227 : decode cL_areChances 227 = .ok (.invokevirtual 202, 3) := by decide +kernel
theorem dL_areChances_230 : decode cL_areChances 230 = .ok (.dload 5, 2) := by decide +kernel
theorem dL_areChances_232 : decode cL_areChances 232 = .ok (.dcmp .l, 1) := by decide +kernel
theorem dL_areChances_233 : decode cL_areChances 233 = .ok (.ifCond .ne 42, 3) := by decide +kernel
theorem dL_areChances_236 : decode cL_areChances 236 = .ok (.aload_n 0, 1) := by decide +kernel
theorem dL_areChances_237 : decode cL_areChances 237 = .ok (.iload_n 3, 1) := by decide +kernel
theorem dL_areChances_238 : decode cL_areChances 238 = .ok (.invokevirtual 206, 3) := by decide +kernel
theorem dL_areChances_241 : decode cL_areChances 241 = .ok (.dload 7, 2) := by decide +kernel
theorem dL_areChances_243 : decode cL_areChances 243 = .ok (.dcmp .l, 1) := by decide +kernel
theorem dL_areChances_244 : decode cL_areChances 244 = .ok (.ifCond .ne 31, 3) := by decide +kernel
theorem dL_areChances_247 : decode cL_areChances 247 = .ok (.aload_n 0, 1) := by decide +kernel
theorem dL_areChances_248 : decode cL_areChances 248 = .ok (.iload_n 3, 1) := by decide +kernel
theorem dL_areChances_249 : decode cL_areChances 249 = .ok (.iconst (-1), 1) := by decide +kernel
theorem dL_areChances_250 : decode cL_areChances 250 = .ok (.invokevirtual 198, 3) := by decide +kernel
theorem dL_areChances_253 : decode cL_areChances 253 = .ok (.dconst 0, 1) := by decide +kernel
theorem dL_areChances_254 : decode cL_areChances 254 = .ok (.dcmp .l, 1) := by decide +kernel
theorem dL_areChances_255 : decode cL_areChances 255 = .ok (.ifCond .ne 20, 3) := by decide +kernel
theorem dL_areChances_258 : decode cL_areChances 258 = .ok (.aload_n 0, 1) := by decide +kernel
theorem dL_areChances_259 : decode cL_areChances 259 = .ok (.iload_n 3, 1) := by decide +kernel
theorem dL_areChances_260 : decode cL_areChances 260 = .ok (.sipush 9999, 3) := by decide +kernel
theorem dL_areChances_263 : decode cL_areChances 263 = .ok (.invokevirtual 198, 3) := by decide +kernel
theorem dL_areChances_266 : decode cL_areChances 266 = .ok (.dconst 0, 1) := by decide +kernel
theorem dL_areChances_267 : decode cL_areChances 267 = .ok (.dcmp .l, 1) := by decide +kernel
theorem dL_areChances_268 : decode cL_areChances 268 = .ok (.ifCond .ne 7, 3) := by decide +kernel
theorem dL_areChances_271 : decode cL_areChances 271 = .ok (.iconst 1, 1) := by decide +kernel
theorem dL_areChances_272 : decode cL_areChances 272 = .ok (.goto 4, 3) := by decide +kernel
theorem dL_areChances_275 : decode cL_areChances 275 = .ok (.iconst 0, 1) := by decide +kernel
theorem dL_areChances_276 : decode cL_areChances 276 = .ok (.ireturn, 1) := by decide +kernel
theorem dL_law_0 : decode cL_law 0 = .ok (.new 9, 3) := by decide +kernel
theorem dL_law_3 : decode cL_law 3 = .ok (.dup, 1) := by decide +kernel
theorem dL_law_4 : decode cL_law 4 = .ok (.invokespecial 209, 3) := by decide +kernel
theorem dL_law_7 : decode cL_law 7 = .ok (.astore_n 1, 1) := by decide +kernel
theorem dL_law_8 : decode cL_law 8 = .ok (.aload_n 1, 1) := by decide +kernel
theorem dL_law_9 : decode cL_law 9 = .ok (.iconst 0, 1) := by decide +kernel
theorem dL_law_10 : decode cL_law 10 = .ok (.invokevirtual 210, 3) := by decide +kernel
theorem dL_law_13 : decode cL_law 13 = .ok (.ifCond .ne 47, 3) := by decide +kernel
theorem dL_law_16 : decode cL_law 16 = .ok (.aload_n 1, 1) := by decide +kernel
theorem dL_law_17 : decode cL_law 17 = .ok (.iconst 1, 1) := by decide +kernel
theorem dL_law_18 : decode cL_law 18 = .ok (.invokevirtual 213, 3) := by decide +kernel
theorem dL_law_21 : decode cL_law 21 = .ok (.bipush 60, 2) := by decide +kernel
theorem dL_law_23 : decode cL_law 23 = .ok (.if_icmp .ne 37, 3) := by decide +kernel
theorem dL_law_26 : decode cL_law 26 = .ok (.aload_n 1, 1) := by decide +kernel
theorem dL_law_27 : decode cL_law 27 = .ok (.iconst 2, 1) := by decide +kernel
theorem dL_law_28 : decode cL_law 28 = .ok (.invokevirtual 213, 3) := by decide +kernel
theorem dL_law_31 : decode cL_law 31 = .ok (.bipush 7, 2) := by decide +kernel
theorem dL_law_33 : decode cL_law 33 = .ok (.if_icmp .ne 27, 3) := by decide +kernel
theorem dL_law_36 : decode cL_law 36 = .ok (.aload_n 1, 1) := by decide +kernel
theorem dL_law_37 : decode cL_law 37 = .ok (.iconst 3, 1) := by decide +kernel
theorem dL_law_38 : decode cL_law 38 = .ok (.invokevirtual 213, 3) := by decide +kernel
theorem dL_law_41 : decode cL_law 41 = .ok (.bipush 10, 2) := by decide +kernel
theorem dL_law_43 : decode cL_law 43 = .ok (.if_icmp .ne 17, 3) := by decide +kernel
theorem dL_law_46 : decode cL_law 46 = .ok (.aload_n 1, 1) := by decide +kernel
theorem dL_law_47 : decode cL_law 47 = .ok (.invokevirtual 188, 3) := by decide +kernel
theorem dL_law_50 : decode cL_law 50 = .ok (.ifCond .ne 10, 3) := by decide +kernel
theorem dL_law_53 : decode cL_law 53 = .ok (.aload_n 1, 1) := by decide +kernel
theorem dL_law_54 : decode cL_law 54 = .ok (.invokevirtual 215, 3) := by decide +kernel
theorem dL_law_57 : decode cL_law 57 = .ok (.ifCond .eq 5, 3) := by decide +kernel
theorem dL_law_60 : decode cL_law 60 = .ok (.iconst 0, 1) := by decide +kernel
theorem dL_law_61 : decode cL_law 61 = .ok (.ireturn, 1) := by decide +kernel
theorem dL_law_62 : decode cL_law 62 = .ok (.aload_n 1, 1) := by decide +kernel
theorem dL_law_63 : decode cL_law 63 = .ok (.aload_n 0, 1) := by decide +kernel
theorem dL_law_64 : decode cL_law 64 = .ok (.invokestatic 218, 3) := by decide +kernel
theorem dL_law_67 : decode cL_law 67 = .ok (.invokestatic 222, 3) := by decide +kernel
theorem dL_law_70 : decode cL_law 70 = .ok (.aload_n 0, 1) := by decide +kernel
theorem dL_law_71 : decode cL_law 71 = .ok (.invokestatic 93, 3) := by decide +kernel
theorem dL_law_74 : decode cL_law 74 = .ok (.if_icmp .ne 27, 3) := by decide +kernel
theorem dL_law_77 : decode cL_law 77 = .ok (.aload_n 1, 1) := by decide +kernel
theorem dL_law_78 : decode cL_law 78 = .ok (.iconst 0, 1) := by decide +kernel
theorem dL_law_79 : decode cL_law 79 = .ok (.invokevirtual 210, 3) := by decide +kernel
theorem dL_law_82 : decode cL_law 82 = .ok (.aload_n 0, 1) := by decide +kernel
theorem dL_law_83 : decode cL_law 83 = .ok (.invokestatic 65, 3) := by decide +kernel
theorem dL_law_86 : decode cL_law 86 = .ok (.if_icmp .ne 15, 3) := by decide +kernel
theorem dL_law_89 : decode cL_law 89 = .ok (.aload_n 1, 1) := by decide +kernel
theorem dL_law_90 : decode cL_law 90 = .ok (.iconst 1, 1) := by decide +kernel
theorem dL_law_91 : decode cL_law 91 = .ok (.invokevirtual 210, 3) := by decide +kernel
theorem dL_law_94 : decode cL_law 94 = .ok (.aload_n 0, 1) := by decide +kernel
theorem dL_law_95 : decode cL_law 95 = .ok (.invokestatic 125, 3) := by decide +kernel
theorem dL_law_98 : decode cL_law 98 = .ok (.if_icmp .eq 5, 3) := by decide +kernel
theorem dL_law_101 : decode cL_law 101 = .ok (.iconst 0, 1) := by decide +kernel
theorem dL_law_102 : decode cL_law 102 = .ok (.ireturn, 1) := by decide +kernel
theorem dL_law_103 : decode cL_law 103 = .ok (.aload_n 0, 1) := by decide +kernel
theorem dL_law_104 : decode cL_law 104 = .ok (.invokestatic 225, 3) := by decide +kernel
theorem dL_law_107 : decode cL_law 107 = .ok (.astore_n 2, 1) := by decide +kernel
theorem dL_law_108 : decode cL_law 108 = .ok (.iconst 0, 1) := by decide +kernel
theorem dL_law_109 : decode cL_law 109 = .ok (.istore_n 3, 1) := by decide +kernel
theorem dL_law_110 : decode cL_law 110 = .ok (.iconst 0, 1) := by decide +kernel
theorem dL_law_111 : decode cL_law 111 = .ok (.istore 4, 2) := by decide +kernel
theorem dL_law_113 : decode cL_law 113 = .ok (.iload 4, 2) := by decide +kernel
theorem dL_law_115 : decode cL_law 115 = .ok (.aload_n 0, 1) := by decide +kernel
theorem dL_law_116 : decode cL_law 116 = .ok (.invokestatic 93, 3) := by decide +kernel
theorem dL_law_119 : decode cL_law 119 = .ok (.if_icmp .ge 112, 3) := by decide +kernel
theorem dL_law_122 : decode cL_law 122 = .ok (.iconst 0, 1) := by decide +kernel
theorem dL_law_123 : decode cL_law 123 = .ok (.istore 5, 2) := by decide +kernel
theorem dL_law_125 : decode cL_law 125 = .ok (.iload 5, 2) := by decide +kernel
theorem dL_law_127 : decode cL_law 127 = .ok (.bipush 7, 2) := by decide +kernel
theorem dL_law_129 : decode cL_law 129 = .ok (.if_icmp .ge 30, 3) := by decide +kernel
theorem dL_law_132 : decode cL_law 132 = .ok (.aload_n 1, 1) := by decide +kernel
theorem dL_law_133 : decode cL_law 133 = .ok (.iload 4, 2) := by decide +kernel
theorem dL_law_135 : decode cL_law 135 = .ok (.iload 5, 2) := by decide +kernel
theorem dL_law_137 : decode cL_law 137 = .ok (.invokevirtual 116, 3) := by decide +kernel
theorem dL_law_140 : decode cL_law 140 = .ok (.aload_n 0, 1) := by decide +kernel
theorem dL_law_141 : decode cL_law 141 = .ok (.iload 4, 2) := by decide +kernel
theorem dL_law_143 : decode cL_law 143 = .ok (.iload 5, 2) := by decide +kernel
theorem dL_law_145 : decode cL_law 145 = .ok (.invokestatic 98, 3) := by decide +kernel
theorem dL_law_148 : decode cL_law 148 = .ok (.if_icmp .eq 5, 3) := by decide +kernel
theorem dL_law_151 : decode cL_law 151 = .ok (.iconst 0, 1) := by decide +kernel
theorem dL_law_152 : decode cL_law 152 = .ok (.ireturn, 1) := by decide +kernel
theorem dL_law_153 : decode cL_law 153 = .ok (.iinc 5 1, 3) := by decide +kernel
theorem dL_law_156 : decode cL_law 156 = .ok (.goto (-31), 3) := by decide +kernel
theorem dL_law_159 : decode cL_law 159 = .ok (.aload_n 1, 1) := by decide +kernel
theorem dL_law_160 : decode cL_law 160 = .ok (.iload 4, 2) := by decide +kernel
theorem dL_law_162 : decode cL_law 162 = .ok (.invokevirtual 229, 3) := by decide +kernel
theorem dL_law_165 : decode cL_law 165 = .ok (.aload_n 2, 1) := by decide +kernel
theorem dL_law_166 : decode cL_law 166 = .ok (.iload 4, 2) := by decide +kernel
theorem dL_law_168 : decode cL_law 168 = .ok (.baload, 1) := by decide +kernel
theorem dL_law_169 : decode cL_law 169 = .ok (.ifCond .eq 7, 3) := by decide +kernel
theorem dL_law_172 : decode cL_law 172 = .ok (.iconst 1, 1) := by decide +kernel
theorem dL_law_173 : decode cL_law 173 = .ok (.goto 4, 3) := by decide +kernel
theorem dL_law_176 : decode cL_law 176 = .ok (.iconst 0, 1) := by decide +kernel
theorem dL_law_177 : decode cL_law 177 = .ok (.if_icmp .eq 5, 3) := by decide +kernel
theorem dL_law_180 : decode cL_law 180 = .ok (.iconst 0, 1) := by decide +kernel
theorem dL_law_181 : decode cL_law 181 = .ok (.ireturn, 1) := by decide +kernel
theorem dL_law_182 : decode cL_law 182 = .ok (.aload_n 2, 1) := by decide +kernel
theorem dL_law_183 : decode cL_law 183 = .ok (.iload 4, 2) := by decide +kernel
theorem dL_law_185 : decode cL_law 185 = .ok (.baload, 1) := by decide +kernel
theorem dL_law_186 : decode cL_law 186 = .ok (.ifCond .eq 6, 3) := by decide +kernel
theorem dL_law_189 : decode cL_law 189 = .ok (.goto 36, 3) := by decide +kernel
theorem dL_law_192 : decode cL_law 192 = .ok (.aload_n 1, 1) := by decide +kernel
theorem dL_law_193 : decode cL_law 193 = .ok (.iload_n 3, 1) := by decide +kernel
theorem dL_law_194 : decode cL_law 194 = .ok (.invokevirtual 232, 3) := by decide +kernel
theorem dL_law_197 : decode cL_law 197 = .ok (.iload 4, 2) := by decide +kernel
theorem dL_law_199 : decode cL_law 199 = .ok (.if_icmp .ne 21, 3) := by decide +kernel
theorem dL_law_202 : decode cL_law 202 = .ok (.aload_n 1, 1) := by decide +kernel
theorem dL_law_203 : decode cL_law 203 = .ok (.iload 4, 2) := by decide +kernel
theorem dL_law_205 : decode cL_law 205 = .ok (.invokevirtual 159, 3) := by decide +kernel
theorem dL_law_208 : decode cL_law 208 = .ok (.ifCond .ne 12, 3) := by decide +kernel
theorem dL_law_211 : decode cL_law 211 = .ok (.aload_n 1, 1) := by decide +kernel
theorem dL_law_212 : decode cL_law 212 = .ok (.iload 4, 2) := by decide +kernel
theorem dL_law_214 : decode cL_law 214 = .ok (.invokevirtual 164, 3) := by decide +kernel
theorem dL_law_217 : decode cL_law 217 = .ok (.ifCond .eq 5, 3) := by decide +kernel
theorem dL_law_220 : decode cL_law 220 = .ok (.iconst 0, 1) := by decide +kernel
theorem dL_law_221 : decode cL_law 221 = .ok (.ireturn, 1) := by decide +kernel
theorem dL_law_222 : decode cL_law 222 = .ok (.iinc 3 1, 3) := by decide +kernel
theorem dL_law_225 : decode cL_law 225 = .ok (.iinc 4 1, 3) := by decide +kernel
theorem dL_law_228 : decode cL_law 228 = .ok (.goto (-115), 3) := by decide +kernel
theorem dL_law_231 : decode cL_law 231 = .ok (.iconst 0, 1) := by decide +kernel
theorem dL_law_232 : decode cL_law 232 = .ok (.istore 4, 2) := by decide +kernel
theorem dL_law_234 : decode cL_law 234 = .ok (.iload 4, 2) := by decide +kernel
theorem dL_law_236 : decode cL_law 236 = .ok (.aload_n 0, 1) := by decide +kernel
theorem dL_law_237 : decode cL_law 237 = .ok (.invokestatic 65, 3) := by decide +kernel
theorem dL_law_240 : decode cL_law 240 = .ok (.if_icmp .ge 45, 3) := by decide +kernel
theorem dL_law_243 : decode cL_law 243 = .ok (.iconst 0, 1) := by decide +kernel
theorem dL_law_244 : decode cL_law 244 = .ok (.istore 5, 2) := by decide +kernel
theorem dL_law_246 : decode cL_law 246 = .ok (.iload 5, 2) := by decide +kernel
theorem dL_law_248 : decode cL_law 248 = .ok (.iconst 4, 1) := by decide +kernel
theorem dL_law_249 : decode cL_law 249 = .ok (.if_icmp .ge 30, 3) := by decide +kernel
theorem dL_law_252 : decode cL_law 252 = .ok (.aload_n 1, 1) := by decide +kernel
theorem dL_law_253 : decode cL_law 253 = .ok (.iload 4, 2) := by decide +kernel
theorem dL_law_255 : decode cL_law 255 = .ok (.iload 5, 2) := by decide +kernel
theorem dL_law_257 : decode cL_law 257 = .ok (.invokevirtual 235, 3) := by decide +kernel
theorem dL_law_260 : decode cL_law 260 = .ok (.aload_n 0, 1) := by decide +kernel
theorem dL_law_261 : decode cL_law 261 = .ok (.iload 4, 2) := by decide +kernel
theorem dL_law_263 : decode cL_law 263 = .ok (.iload 5, 2) := by decide +kernel
theorem dL_law_265 : decode cL_law 265 = .ok (.invokestatic 77, 3) := by decide +kernel
theorem dL_law_268 : decode cL_law 268 = .ok (.if_icmp .eq 5, 3) := by decide +kernel
theorem dL_law_271 : decode cL_law 271 = .ok (.iconst 0, 1) := by decide +kernel
theorem dL_law_272 : decode cL_law 272 = .ok (.ireturn, 1) := by decide +kernel
theorem dL_law_273 : decode cL_law 273 = .ok (.iinc 5 1, 3) := by decide +kernel
theorem dL_law_276 : decode cL_law 276 = .ok (.goto (-30), 3) := by decide +kernel
theorem dL_law_279 : decode cL_law 279 = .ok (.iinc 4 1, 3) := by decide +kernel
theorem dL_law_282 : decode cL_law 282 = .ok (.goto (-48), 3) := by decide +kernel
theorem dL_law_285 : decode cL_law 285 = .ok (.aload_n 1, 1) := by decide +kernel
theorem dL_law_286 : decode cL_law 286 = .ok (.iconst 3, 1) := by decide +kernel
theorem dL_law_287 : decode cL_law 287 = .ok (.invokevirtual 210, 3) := by decide +kernel
theorem dL_law_290 : decode cL_law 290 = .ok (.iload_n 3, 1) := by decide +kernel
theorem dL_law_291 : decode cL_law 291 = .ok (.if_icmp .ne 32, 3) := by decide +kernel
theorem dL_law_294 : decode cL_law 294 = .ok (.aload_n 1, 1) := by decide +kernel
theorem dL_law_295 : decode cL_law 295 = .ok (.aload_n 0, 1) := by decide +kernel
theorem dL_law_296 : decode cL_law 296 = .ok (.aload_n 2, 1) := by decide +kernel
theorem dL_law_297 : decode cL_law 297 = .ok (.invokestatic 237, 3) := by decide +kernel
theorem dL_law_300 : decode cL_law 300 = .ok (.ifCond .eq 23, 3) := by decide +kernel
theorem dL_law_303 : decode cL_law 303 = .ok (.aload_n 1, 1) := by decide +kernel
theorem dL_law_304 : decode cL_law 304 = .ok (.aload_n 0, 1) := by decide +kernel
theorem dL_law_305 : decode cL_law 305 = .ok (.aload_n 2, 1) := by decide +kernel
theorem dL_law_306 : decode cL_law 306 = .ok (.aload_n 0, 1) := by decide +kernel
theorem dL_law_307 : decode cL_law 307 = .ok (.bipush 13, 2) := by decide +kernel
theorem dL_law_309 : decode cL_law 309 = .ok (.invokestatic 43, 3) := by decide +kernel
theorem dL_law_312 : decode cL_law 312 = .ok (.bipush 30, 2) := by decide +kernel
theorem dL_law_314 : decode cL_law 314 = .ok (.invokestatic 47, 3) := by decide +kernel
theorem dL_law_317 : decode cL_law 317 = .ok (.invokestatic 241, 3) := by decide +kernel
theorem dL_law_320 : decode cL_law 320 = .ok (.ifCond .ne 5, 3) := by decide +kernel
theorem dL_law_323 : decode cL_law 323 = .ok (.iconst 0, 1) := by decide +kernel
theorem dL_law_324 : decode cL_law 324 = .ok (.ireturn, 1) := by decide +kernel
theorem dL_law_325 : decode cL_law 325 = .ok (.aload_n 1, 1) := by decide +kernel
theorem dL_law_326 : decode cL_law 326 = .ok (.aload_n 0, 1) := by decide +kernel
theorem dL_law_327 : decode cL_law 327 = .ok (.invokestatic 93, 3) := by decide +kernel
theorem dL_law_330 : decode cL_law 330 = .ok (.iconst 0, 1) := by decide +kernel
theorem dL_law_331 : decode cL_law 331 = .ok (.invokestatic 167, 3) := by decide +kernel
theorem dL_law_334 : decode cL_law 334 = .ok (.aload_n 1, 1) := by decide +kernel
theorem dL_law_335 : decode cL_law 335 = .ok (.iconst (-1), 1) := by decide +kernel
theorem dL_law_336 : decode cL_law 336 = .ok (.iconst 0, 1) := by decide +kernel
theorem dL_law_337 : decode cL_law 337 = .ok (.invokestatic 245, 3) := by decide +kernel
theorem dL_law_340 : decode cL_law 340 = .ok (.iadd, 1) := by decide +kernel
theorem dL_law_341 : decode cL_law 341 = .ok (.aload_n 1, 1) := by decide +kernel
theorem dL_law_342 : decode cL_law 342 = .ok (.aload_n 0, 1) := by decide +kernel
theorem dL_law_343 : decode cL_law 343 = .ok (.invokestatic 93, 3) := by decide +kernel
theorem dL_law_346 : decode cL_law 346 = .ok (.bipush 9, 2) := by decide +kernel
theorem dL_law_348 : decode cL_law 348 = .ok (.invokestatic 245, 3) := by decide +kernel
theorem dL_law_351 : decode cL_law 351 = .ok (.iadd, 1) := by decide +kernel
theorem dL_law_352 : decode cL_law 352 = .ok (.istore 4, 2) := by decide +kernel
theorem dL_law_354 : decode cL_law 354 = .ok (.iload 4, 2) := by decide +kernel
theorem dL_law_356 : decode cL_law 356 = .ok (.iconst 3, 1) := by decide +kernel
theorem dL_law_357 : decode cL_law 357 = .ok (.if_icmp .ne 39, 3) := by decide +kernel
theorem dL_law_360 : decode cL_law 360 = .ok (.aload_n 0, 1) := by decide +kernel
theorem dL_law_361 : decode cL_law 361 = .ok (.invokestatic 93, 3) := by decide +kernel
theorem dL_law_364 : decode cL_law 364 = .ok (.ifCond .eq 28, 3) := by decide +kernel
theorem dL_law_367 : decode cL_law 367 = .ok (.aload_n 1, 1) := by decide +kernel
theorem dL_law_368 : decode cL_law 368 = .ok (.iconst 0, 1) := by decide +kernel
theorem dL_law_369 : decode cL_law 369 = .ok (.bipush 8, 2) := by decide +kernel
theorem dL_law_371 : decode cL_law 371 = .ok (.invokestatic 245, 3) := by decide +kernel
theorem dL_law_374 : decode cL_law 374 = .ok (.iconst 2, 1) := by decide +kernel
theorem dL_law_375 : decode cL_law 375 = .ok (.if_icmp .ne 21, 3) := by decide +kernel
theorem dL_law_378 : decode cL_law 378 = .ok (.aload_n 1, 1) := by decide +kernel
theorem dL_law_379 : decode cL_law 379 = .ok (.iconst 0, 1) := by decide +kernel
theorem dL_law_380 : decode cL_law 380 = .ok (.aload_n 0, 1) := by decide +kernel
theorem dL_law_381 : decode cL_law 381 = .ok (.iconst 0, 1) := by decide +kernel
theorem dL_law_382 : decode cL_law 382 = .ok (.invokestatic 122, 3) := by decide +kernel
theorem dL_law_385 : decode cL_law 385 = .ok (.invokestatic 167, 3) := by decide +kernel
theorem dL_law_388 : decode cL_law 388 = .ok (.iconst 1, 1) := by decide +kernel
theorem dL_law_389 : decode cL_law 389 = .ok (.if_icmp .ne 7, 3) := by decide +kernel
theorem dL_law_392 : decode cL_law 392 = .ok (.iconst 1, 1) := by decide +kernel
theorem dL_law_393 : decode cL_law 393 = .ok (.goto 4, 3) := by decide +kernel
theorem dL_law_396 : decode cL_law 396 = .ok (.iconst 0, 1) := by decide +kernel
theorem dL_law_397 : decode cL_law 397 = .ok (.ireturn, 1) := by decide +kernel
