theorem dX0_init_0 : decode cX0_init 0 = .ok (.aload_n 0, 1) := by decide +kernel
theorem dX0_init_1 : decode cX0_init 1 = .ok (.invokespecial 1, 3) := by decide +kernel
theorem dX0_init_4 : decode cX0_init 4 = .ok (.return_, 1) := by decide +kernel
theorem dX0_fill_0 : decode cX0_fill 0 = .ok (.aload_n 0, 1) := by decide +kernel
theorem dX0_fill_1 : decode cX0_fill 1 = .ok (.lconst 0, 1) := by decide +kernel
theorem dX0_fill_2 : decode cX0_fill 2 = .ok (.putfield 7, 3) := by decide +kernel
theorem dX0_fill_5 : decode cX0_fill 5 = .ok (.aload_n 0, 1) := by decide +kernel
theorem dX0_fill_6 : decode cX0_fill 6 = .ok (.iload_n 1, 1) := by decide +kernel
theorem dX0_fill_7 : decode cX0_fill 7 = .ok (.putfield 13, 3) := by decide +kernel
theorem dX0_fill_10 : decode cX0_fill 10 = .ok (.aload_n 0, 1) := by decide +kernel
theorem dX0_fill_11 : decode cX0_fill 11 = .ok (.iload_n 2, 1) := by decide +kernel
theorem dX0_fill_12 : decode cX0_fill 12 = .ok (.putfield 17, 3) := by decide +kernel
theorem dX0_fill_15 : decode cX0_fill 15 = .ok (.aload_n 0, 1) := by decide +kernel
theorem dX0_fill_16 : decode cX0_fill 16 = .ok (.iload_n 3, 1) := by decide +kernel
theorem dX0_fill_17 : decode cX0_fill 17 = .ok (.putfield 20, 3) := by decide +kernel
theorem dX0_fill_20 : decode cX0_fill 20 = .ok (.aload_n 0, 1) := by decide +kernel
theorem dX0_fill_21 : decode cX0_fill 21 = .ok (.iload 4, 2) := by decide +kernel
theorem dX0_fill_23 : decode cX0_fill 23 = .ok (.putfield 23, 3) := by decide +kernel
theorem dX0_fill_26 : decode cX0_fill 26 = .ok (.aload_n 0, 1) := by decide +kernel
theorem dX0_fill_27 : decode cX0_fill 27 = .ok (.iload_n 3, 1) := by decide +kernel
theorem dX0_fill_28 : decode cX0_fill 28 = .ok (.iload 4, 2) := by decide +kernel
theorem dX0_fill_30 : decode cX0_fill 30 = .ok (.iadd, 1) := by decide +kernel
theorem dX0_fill_31 : decode cX0_fill 31 = .ok (.putfield 26, 3) := by decide +kernel
theorem dX0_fill_34 : decode cX0_fill 34 = .ok (.aload_n 0, 1) := by decide +kernel
theorem dX0_fill_35 : decode cX0_fill 35 = .ok (.iload 5, 2) := by decide +kernel
theorem dX0_fill_37 : decode cX0_fill 37 = .ok (.putfield 29, 3) := by decide +kernel
theorem dX0_fill_40 : decode cX0_fill 40 = .ok (.aload_n 0, 1) := by decide +kernel
theorem dX0_fill_41 : decode cX0_fill 41 = .ok (.iload 6, 2) := by decide +kernel
theorem dX0_fill_43 : decode cX0_fill 43 = .ok (.putfield 32, 3) := by decide +kernel
theorem dX0_fill_46 : decode cX0_fill 46 = .ok (.aload_n 0, 1) := by decide +kernel
theorem dX0_fill_47 : decode cX0_fill 47 = .ok (.iconst 0, 1) := by decide +kernel
theorem dX0_fill_48 : decode cX0_fill 48 = .ok (.putfield 35, 3) := by decide +kernel
theorem dX0_fill_51 : decode cX0_fill 51 = .ok (.aload_n 0, 1) := by decide +kernel
theorem dX0_fill_52 : decode cX0_fill 52 = .ok (.iconst 0, 1) := by decide +kernel
theorem dX0_fill_53 : decode cX0_fill 53 = .ok (.putfield 39, 3) := by decide +kernel
theorem dX0_fill_56 : decode cX0_fill 56 = .ok (.return_, 1) := by decide +kernel
theorem dX0_copy_0 : decode cX0_copy 0 = .ok (.aload_n 0, 1) := by decide +kernel
theorem dX0_copy_1 : decode cX0_copy 1 = .ok (.aload_n 1, 1) := by decide +kernel
theorem dX0_copy_2 : decode cX0_copy 2 = .ok (.getfield 13, 3) := by decide +kernel
theorem dX0_copy_5 : decode cX0_copy 5 = .ok (.aload_n 1, 1) := by decide +kernel
theorem dX0_copy_6 : decode cX0_copy 6 = .ok (.getfield 17, 3) := by decide +kernel
theorem dX0_copy_9 : decode cX0_copy 9 = .ok (.aload_n 1, 1) := by decide +kernel
theorem dX0_copy_10 : decode cX0_copy 10 = .ok (.getfield 20, 3) := by decide +kernel
theorem dX0_copy_13 : decode cX0_copy 13 = .ok (.aload_n 1, 1) := by decide +kernel
theorem dX0_copy_14 : decode cX0_copy 14 = .ok (.getfield 23, 3) := by decide +kernel
theorem dX0_copy_17 : decode cX0_copy 17 = .ok (.aload_n 1, 1) := by decide +kernel
theorem dX0_copy_18 : decode cX0_copy 18 = .ok (.getfield 29, 3) := by decide +kernel
theorem dX0_copy_21 : decode cX0_copy 21 = .ok (.aload_n 1, 1) := by decide +kernel
theorem dX0_copy_22 : decode cX0_copy 22 = .ok (.getfield 32, 3) := by decide +kernel
theorem dX0_copy_25 : decode cX0_copy 25 = .ok (.invokevirtual 42, 3) := by decide +kernel
theorem dX0_copy_28 : decode cX0_copy 28 = .ok (.aload_n 0, 1) := by decide +kernel
theorem dX0_copy_29 : decode cX0_copy 29 = .ok (.aload_n 1, 1) := by decide +kernel
theorem dX0_copy_30 : decode cX0_copy 30 = .ok (.getfield 7, 3) := by decide +kernel
theorem dX0_copy_33 : decode cX0_copy 33 = .ok (.putfield 7, 3) := by decide +kernel
theorem dX0_copy_36 : decode cX0_copy 36 = .ok (.aload_n 0, 1) := by decide +kernel
theorem dX0_copy_37 : decode cX0_copy 37 = .ok (.aload_n 1, 1) := by decide +kernel
theorem dX0_copy_38 : decode cX0_copy 38 = .ok (.getfield 35, 3) := by decide +kernel
theorem dX0_copy_41 : decode cX0_copy 41 = .ok (.putfield 35, 3) := by decide +kernel
theorem dX0_copy_44 : decode cX0_copy 44 = .ok (.aload_n 0, 1) := by decide +kernel
theorem dX0_copy_45 : decode cX0_copy 45 = .ok (.aload_n 1, 1) := by decide +kernel
theorem dX0_copy_46 : decode cX0_copy 46 = .ok (.getfield 39, 3) := by decide +kernel
theorem dX0_copy_49 : decode cX0_copy 49 = .ok (.putfield 39, 3) := by decide +kernel
theorem dX0_copy_52 : decode cX0_copy 52 = .ok (.aload_n 0, 1) := by decide +kernel
theorem dX0_copy_53 : decode cX0_copy 53 = .ok (.aload_n 1, 1) := by decide +kernel
theorem dX0_copy_54 : decode cX0_copy 54 = .ok (.getfield 46, 3) := by decide +kernel
theorem dX0_copy_57 : decode cX0_copy 57 = .ok (.putfield 46, 3) := by decide +kernel
theorem dX0_copy_60 : decode cX0_copy 60 = .ok (.return_, 1) := by decide +kernel
theorem dX0_staysIn_0 : decode cX0_staysIn 0 = .ok (.iload_n 1, 1) := by decide +kernel
theorem dX0_staysIn_1 : decode cX0_staysIn 1 = .ok (.aload_n 0, 1) := by decide +kernel
theorem dX0_staysIn_2 : decode cX0_staysIn 2 = .ok (.getfield 13, 3) := by decide +kernel
theorem dX0_staysIn_5 : decode cX0_staysIn 5 = .ok (.if_icmp .lt 20, 3) := by decide +kernel
theorem dX0_staysIn_8 : decode cX0_staysIn 8 = .ok (.iload_n 1, 1) := by decide +kernel
theorem dX0_staysIn_9 : decode cX0_staysIn 9 = .ok (.aload_n 0, 1) := by decide +kernel
theorem dX0_staysIn_10 : decode cX0_staysIn 10 = .ok (.getfield 13, 3) := by decide +kernel
theorem dX0_staysIn_13 : decode cX0_staysIn 13 = .ok (.aload_n 0, 1) := by decide +kernel
theorem dX0_staysIn_14 : decode cX0_staysIn 14 = .ok (.getfield 17, 3) := by decide +kernel
theorem dX0_staysIn_17 : decode cX0_staysIn 17 = .ok (.iadd, 1) := by decide +kernel
theorem dX0_staysIn_18 : decode cX0_staysIn 18 = .ok (.if_icmp .ge 7, 3) := by decide +kernel
theorem dX0_staysIn_21 : decode cX0_staysIn 21 = .ok (.iconst 1, 1) := by decide +kernel
theorem dX0_staysIn_22 : decode cX0_staysIn 22 = .ok (.goto 4, 3) := by decide +kernel
theorem dX0_staysIn_25 : decode cX0_staysIn 25 = .ok (.iconst 0, 1) := by decide +kernel
theorem dX0_staysIn_26 : decode cX0_staysIn 26 = .ok (.ireturn, 1) := by decide +kernel
theorem dX0_nightBits_0 : decode cX0_nightBits 0 = .ok (.iconst 1, 1) := by decide +kernel
theorem dX0_nightBits_1 : decode cX0_nightBits 1 = .ok (.aload_n 0, 1) := by decide +kernel
theorem dX0_nightBits_2 : decode cX0_nightBits 2 = .ok (.getfield 17, 3) := by decide +kernel
theorem dX0_nightBits_5 : decode cX0_nightBits 5 = .ok (.ishl, 1) := by decide +kernel
theorem dX0_nightBits_6 : decode cX0_nightBits 6 = .ok (.iconst 1, 1) := by decide +kernel
theorem dX0_nightBits_7 : decode cX0_nightBits 7 = .ok (.isub, 1) := by decide +kernel
theorem dX0_nightBits_8 : decode cX0_nightBits 8 = .ok (.aload_n 0, 1) := by decide +kernel
theorem dX0_nightBits_9 : decode cX0_nightBits 9 = .ok (.getfield 13, 3) := by decide +kernel
theorem dX0_nightBits_12 : decode cX0_nightBits 12 = .ok (.ishl, 1) := by decide +kernel
theorem dX0_nightBits_13 : decode cX0_nightBits 13 = .ok (.ireturn, 1) := by decide +kernel
theorem dX1_init_0 : decode cX1_init 0 = .ok (.aload_n 0, 1) := by decide +kernel
theorem dX1_init_1 : decode cX1_init 1 = .ok (.invokespecial 3, 3) := by decide +kernel
theorem dX1_init_4 : decode cX1_init 4 = .ok (.aload_n 0, 1) := by decide +kernel
theorem dX1_init_5 : decode cX1_init 5 = .ok (.bipush 8, 2) := by decide +kernel
theorem dX1_init_7 : decode cX1_init 7 = .ok (.anewarray 9, 3) := by decide +kernel
theorem dX1_init_10 : decode cX1_init 10 = .ok (.putfield 11, 3) := by decide +kernel
theorem dX1_init_13 : decode cX1_init 13 = .ok (.aload_n 0, 1) := by decide +kernel
theorem dX1_init_14 : decode cX1_init 14 = .ok (.bipush 17, 2) := by decide +kernel
theorem dX1_init_16 : decode cX1_init 16 = .ok (.anewarray 17, 3) := by decide +kernel
theorem dX1_init_19 : decode cX1_init 19 = .ok (.putfield 19, 3) := by decide +kernel
theorem dX1_init_22 : decode cX1_init 22 = .ok (.aload_n 0, 1) := by decide +kernel
theorem dX1_init_23 : decode cX1_init 23 = .ok (.bipush 17, 2) := by decide +kernel
theorem dX1_init_25 : decode cX1_init 25 = .ok (.newarray .int, 2) := by decide +kernel
theorem dX1_init_27 : decode cX1_init 27 = .ok (.putfield 23, 3) := by decide +kernel
theorem dX1_init_30 : decode cX1_init 30 = .ok (.aload_n 0, 1) := by decide +kernel
theorem dX1_init_31 : decode cX1_init 31 = .ok (.bipush 30, 2) := by decide +kernel
theorem dX1_init_33 : decode cX1_init 33 = .ok (.newarray .int, 2) := by decide +kernel
theorem dX1_init_35 : decode cX1_init 35 = .ok (.putfield 27, 3) := by decide +kernel
theorem dX1_init_38 : decode cX1_init 38 = .ok (.iconst 0, 1) := by decide +kernel
theorem dX1_init_39 : decode cX1_init 39 = .ok (.istore_n 1, 1) := by decide +kernel
theorem dX1_init_40 : decode cX1_init 40 = .ok (.iload_n 1, 1) := by decide +kernel
theorem dX1_init_41 : decode cX1_init 41 = .ok (.aload_n 0, 1) := by decide +kernel
theorem dX1_init_42 : decode cX1_init 42 = .ok (.getfield 11, 3) := by decide +kernel
theorem dX1_init_45 : decode cX1_init 45 = .ok (.arraylength, 1) := by decide +kernel
theorem dX1_init_46 : decode cX1_init 46 = .ok (.if_icmp .ge 22, 3) := by decide +kernel
theorem dX1_init_49 : decode cX1_init 49 = .ok (.aload_n 0, 1) := by decide +kernel
theorem dX1_init_50 : decode cX1_init 50 = .ok (.getfield 11, 3) := by decide +kernel
theorem dX1_init_53 : decode cX1_init 53 = .ok (.iload_n 1, 1) := by decide +kernel
theorem dX1_init_54 : decode cX1_init 54 = .ok (.new 9, 3) := by decide +kernel
theorem dX1_init_57 : decode cX1_init 57 = .ok (.dup, 1) := by decide +kernel
theorem dX1_init_58 : decode cX1_init 58 = .ok (.invokespecial 30, 3) := by decide +kernel
theorem dX1_init_61 : decode cX1_init 61 = .ok (.aastore, 1) := by decide +kernel
theorem dX1_init_62 : decode cX1_init 62 = .ok (.iinc 1 1, 3) := by decide +kernel
theorem dX1_init_65 : decode cX1_init 65 = .ok (.goto (-25), 3) := by decide +kernel
theorem dX1_init_68 : decode cX1_init 68 = .ok (.iconst 0, 1) := by decide +kernel
theorem dX1_init_69 : decode cX1_init 69 = .ok (.istore_n 1, 1) := by decide +kernel
theorem dX1_init_70 : decode cX1_init 70 = .ok (.iload_n 1, 1) := by decide +kernel
theorem dX1_init_71 : decode cX1_init 71 = .ok (.aload_n 0, 1) := by decide +kernel
theorem dX1_init_72 : decode cX1_init 72 = .ok (.getfield 19, 3) := by decide +kernel
theorem dX1_init_75 : decode cX1_init 75 = .ok (.arraylength, 1) := by decide +kernel
theorem dX1_init_76 : decode cX1_init 76 = .ok (.if_icmp .ge 22, 3) := by decide +kernel
theorem dX1_init_79 : decode cX1_init 79 = .ok (.aload_n 0, 1) := by decide +kernel
theorem dX1_init_80 : decode cX1_init 80 = .ok (.getfield 19, 3) := by decide +kernel
theorem dX1_init_83 : decode cX1_init 83 = .ok (.iload_n 1, 1) := by decide +kernel
theorem dX1_init_84 : decode cX1_init 84 = .ok (.new 17, 3) := by decide +kernel
theorem dX1_init_87 : decode cX1_init 87 = .ok (.dup, 1) := by decide +kernel
theorem dX1_init_88 : decode cX1_init 88 = .ok (.invokespecial 31, 3) := by decide +kernel
theorem dX1_init_91 : decode cX1_init 91 = .ok (.aastore, 1) := by decide +kernel
theorem dX1_init_92 : decode cX1_init 92 = .ok (.iinc 1 1, 3) := by decide +kernel
theorem dX1_init_95 : decode cX1_init 95 = .ok (.goto (-25), 3) := by decide +kernel
theorem dX1_init_98 : decode cX1_init 98 = .ok (.aload_n 0, 1) := by decide +kernel
theorem dX1_init_99 : decode cX1_init 99 = .ok (.invokevirtual 32, 3) := by decide +kernel
theorem dX1_init_102 : decode cX1_init 102 = .ok (.return_, 1) := by decide +kernel
theorem dX1_clear_0 : decode cX1_clear 0 = .ok (.aload_n 0, 1) := by decide +kernel
theorem dX1_clear_1 : decode cX1_clear 1 = .ok (.iconst 0, 1) := by decide +kernel
theorem dX1_clear_2 : decode cX1_clear 2 = .ok (.putfield 35, 3) := by decide +kernel
theorem dX1_clear_5 : decode cX1_clear 5 = .ok (.aload_n 0, 1) := by decide +kernel
theorem dX1_clear_6 : decode cX1_clear 6 = .ok (.iconst 0, 1) := by decide +kernel
theorem dX1_clear_7 : decode cX1_clear 7 = .ok (.putfield 39, 3) := by decide +kernel
theorem dX1_clear_10 : decode cX1_clear 10 = .ok (.aload_n 0, 1) := by decide +kernel
theorem dX1_clear_11 : decode cX1_clear 11 = .ok (.iconst 0, 1) := by decide +kernel
theorem dX1_clear_12 : decode cX1_clear 12 = .ok (.putfield 42, 3) := by decide +kernel
theorem dX1_clear_15 : decode cX1_clear 15 = .ok (.aload_n 0, 1) := by decide +kernel
theorem dX1_clear_16 : decode cX1_clear 16 = .ok (.invokevirtual 45, 3) := by decide +kernel
theorem dX1_clear_19 : decode cX1_clear 19 = .ok (.aload_n 0, 1) := by decide +kernel
theorem dX1_clear_20 : decode cX1_clear 20 = .ok (.iconst 0, 1) := by decide +kernel
theorem dX1_clear_21 : decode cX1_clear 21 = .ok (.putfield 48, 3) := by decide +kernel
theorem dX1_clear_24 : decode cX1_clear 24 = .ok (.aload_n 0, 1) := by decide +kernel
theorem dX1_clear_25 : decode cX1_clear 25 = .ok (.bipush 60, 2) := by decide +kernel
theorem dX1_clear_27 : decode cX1_clear 27 = .ok (.putfield 51, 3) := by decide +kernel
theorem dX1_clear_30 : decode cX1_clear 30 = .ok (.aload_n 0, 1) := by decide +kernel
theorem dX1_clear_31 : decode cX1_clear 31 = .ok (.bipush 7, 2) := by decide +kernel
theorem dX1_clear_33 : decode cX1_clear 33 = .ok (.putfield 54, 3) := by decide +kernel
theorem dX1_clear_36 : decode cX1_clear 36 = .ok (.aload_n 0, 1) := by decide +kernel
theorem dX1_clear_37 : decode cX1_clear 37 = .ok (.bipush 10, 2) := by decide +kernel
theorem dX1_clear_39 : decode cX1_clear 39 = .ok (.putfield 57, 3) := by decide +kernel
theorem dX1_clear_42 : decode cX1_clear 42 = .ok (.return_, 1) := by decide +kernel
theorem dX1_forgetStates_0 : decode cX1_forgetStates 0 = .ok (.aload_n 0, 1) := by decide +kernel
theorem dX1_forgetStates_1 : decode cX1_forgetStates 1 = .ok (.iconst 0, 1) := by decide +kernel
theorem dX1_forgetStates_2 : decode cX1_forgetStates 2 = .ok (.putfield 60, 3) := by decide +kernel
theorem dX1_forgetStates_5 : decode cX1_forgetStates 5 = .ok (.iconst 0, 1) := by decide +kernel
theorem dX1_forgetStates_6 : decode cX1_forgetStates 6 = .ok (.istore_n 1, 1) := by decide +kernel
theorem dX1_forgetStates_7 : decode cX1_forgetStates 7 = .ok (.iload_n 1, 1) := by decide +kernel
theorem dX1_forgetStates_8 : decode cX1_forgetStates 8 = .ok (.aload_n 0, 1) := by decide +kernel
theorem dX1_forgetStates_9 : decode cX1_forgetStates 9 = .ok (.getfield 27, 3) := by decide +kernel
theorem dX1_forgetStates_12 : decode cX1_forgetStates 12 = .ok (.arraylength, 1) := by decide +kernel
theorem dX1_forgetStates_13 : decode cX1_forgetStates 13 = .ok (.if_icmp .ge 16, 3) := by decide +kernel
theorem dX1_forgetStates_16 : decode cX1_forgetStates 16 = .ok (.aload_n 0, 1) := by decide +kernel
theorem dX1_forgetStates_17 : decode cX1_forgetStates 17 = .ok (.getfield 27, 3) := by decide +kernel
theorem dX1_forgetStates_20 : decode cX1_forgetStates 20 = .ok (.iload_n 1, 1) := by decide +kernel
theorem dX1_forgetStates_21 : decode cX1_forgetStates 21 = .ok (.iconst 0, 1) := by decide +kernel
theorem dX1_forgetStates_22 : decode cX1_forgetStates 22 = .ok (.iastore, 1) := by decide +kernel
theorem dX1_forgetStates_23 : decode cX1_forgetStates 23 = .ok (.iinc 1 1, 3) := by decide +kernel
theorem dX1_forgetStates_26 : decode cX1_forgetStates 26 = .ok (.goto (-19), 3) := by decide +kernel
theorem dX1_forgetStates_29 : decode cX1_forgetStates 29 = .ok (.return_, 1) := by decide +kernel
theorem dX1_copy_0 : decode cX1_copy 0 = .ok (.aload_n 0, 1) := by decide +kernel
theorem dX1_copy_1 : decode cX1_copy 1 = .ok (.aload_n 1, 1) := by decide +kernel
theorem dX1_copy_2 : decode cX1_copy 2 = .ok (.getfield 35, 3) := by decide +kernel
theorem dX1_copy_5 : decode cX1_copy 5 = .ok (.putfield 35, 3) := by decide +kernel
theorem dX1_copy_8 : decode cX1_copy 8 = .ok (.iconst 0, 1) := by decide +kernel
theorem dX1_copy_9 : decode cX1_copy 9 = .ok (.istore_n 2, 1) := by decide +kernel
theorem dX1_copy_10 : decode cX1_copy 10 = .ok (.iload_n 2, 1) := by decide +kernel
theorem dX1_copy_11 : decode cX1_copy 11 = .ok (.aload_n 0, 1) := by decide +kernel
theorem dX1_copy_12 : decode cX1_copy 12 = .ok (.getfield 35, 3) := by decide +kernel
theorem dX1_copy_15 : decode cX1_copy 15 = .ok (.if_icmp .ge 24, 3) := by decide +kernel
theorem dX1_copy_18 : decode cX1_copy 18 = .ok (.aload_n 0, 1) := by decide +kernel
theorem dX1_copy_19 : decode cX1_copy 19 = .ok (.getfield 11, 3) := by decide +kernel
theorem dX1_copy_22 : decode cX1_copy 22 = .ok (.iload_n 2, 1) := by decide +kernel
theorem dX1_copy_23 : decode cX1_copy 23 = .ok (.aaload, 1) := by decide +kernel
theorem dX1_copy_24 : decode cX1_copy 24 = .ok (.aload_n 1, 1) := by decide +kernel
theorem dX1_copy_25 : decode cX1_copy 25 = .ok (.getfield 11, 3) := by decide +kernel
theorem dX1_copy_28 : decode cX1_copy 28 = .ok (.iload_n 2, 1) := by decide +kernel
theorem dX1_copy_29 : decode cX1_copy 29 = .ok (.aaload, 1) := by decide +kernel
theorem dX1_copy_30 : decode cX1_copy 30 = .ok (.invokevirtual 63, 3) := by decide +kernel
theorem dX1_copy_33 : decode cX1_copy 33 = .ok (.iinc 2 1, 3) := by decide +kernel
theorem dX1_copy_36 : decode cX1_copy 36 = .ok (.goto (-26), 3) := by decide +kernel
theorem dX1_copy_39 : decode cX1_copy 39 = .ok (.aload_n 0, 1) := by decide +kernel
theorem dX1_copy_40 : decode cX1_copy 40 = .ok (.aload_n 1, 1) := by decide +kernel
theorem dX1_copy_41 : decode cX1_copy 41 = .ok (.getfield 39, 3) := by decide +kernel
theorem dX1_copy_44 : decode cX1_copy 44 = .ok (.putfield 39, 3) := by decide +kernel
theorem dX1_copy_47 : decode cX1_copy 47 = .ok (.aload_n 0, 1) := by decide +kernel
theorem dX1_copy_48 : decode cX1_copy 48 = .ok (.aload_n 1, 1) := by decide +kernel
theorem dX1_copy_49 : decode cX1_copy 49 = .ok (.getfield 42, 3) := by decide +kernel
theorem dX1_copy_52 : decode cX1_copy 52 = .ok (.putfield 42, 3) := by decide +kernel
theorem dX1_copy_55 : decode cX1_copy 55 = .ok (.iconst 0, 1) := by decide +kernel
theorem dX1_copy_56 : decode cX1_copy 56 = .ok (.istore_n 2, 1) := by decide +kernel
theorem dX1_copy_57 : decode cX1_copy 57 = .ok (.iload_n 2, 1) := by decide +kernel
theorem dX1_copy_58 : decode cX1_copy 58 = .ok (.aload_n 0, 1) := by decide +kernel
theorem dX1_copy_59 : decode cX1_copy 59 = .ok (.getfield 42, 3) := by decide +kernel
theorem dX1_copy_62 : decode cX1_copy 62 = .ok (.if_icmp .ge 24, 3) := by decide +kernel
theorem dX1_copy_65 : decode cX1_copy 65 = .ok (.aload_n 0, 1) := by decide +kernel
theorem dX1_copy_66 : decode cX1_copy 66 = .ok (.getfield 19, 3) := by decide +kernel
theorem dX1_copy_69 : decode cX1_copy 69 = .ok (.iload_n 2, 1) := by decide +kernel
theorem dX1_copy_70 : decode cX1_copy 70 = .ok (.aaload, 1) := by decide +kernel
theorem dX1_copy_71 : decode cX1_copy 71 = .ok (.aload_n 1, 1) := by decide +kernel
theorem dX1_copy_72 : decode cX1_copy 72 = .ok (.getfield 19, 3) := by decide +kernel
theorem dX1_copy_75 : decode cX1_copy 75 = .ok (.iload_n 2, 1) := by decide +kernel
theorem dX1_copy_76 : decode cX1_copy 76 = .ok (.aaload, 1) := by decide +kernel
theorem dX1_copy_77 : decode cX1_copy 77 = .ok (.invokevirtual 67, 3) := by decide +kernel
theorem dX1_copy_80 : decode cX1_copy 80 = .ok (.iinc 2 1, 3) := by decide +kernel
theorem dX1_copy_83 : decode cX1_copy 83 = .ok (.goto (-26), 3) := by decide +kernel
theorem dX1_copy_86 : decode cX1_copy 86 = .ok (.aload_n 0, 1) := by decide +kernel
theorem dX1_copy_87 : decode cX1_copy 87 = .ok (.aload_n 1, 1) := by decide +kernel
theorem dX1_copy_88 : decode cX1_copy 88 = .ok (.getfield 60, 3) := by decide +kernel
theorem dX1_copy_91 : decode cX1_copy 91 = .ok (.putfield 60, 3) := by decide +kernel
theorem dX1_copy_94 : decode cX1_copy 94 = .ok (.aload_n 1, 1) := by decide +kernel
theorem dX1_copy_95 : decode cX1_copy 95 = .ok (.getfield 23, 3) := by decide +kernel
theorem dX1_copy_98 : decode cX1_copy 98 = .ok (.iconst 0, 1) := by decide +kernel
theorem dX1_copy_99 : decode cX1_copy 99 = .ok (.aload_n 0, 1) := by decide +kernel
theorem dX1_copy_100 : decode cX1_copy 100 = .ok (.getfield 23, 3) := by decide +kernel
theorem dX1_copy_103 : decode cX1_copy 103 = .ok (.iconst 0, 1) := by decide +kernel
theorem dX1_copy_104 : decode cX1_copy 104 = .ok (.aload_n 0, 1) := by decide +kernel
theorem dX1_copy_105 : decode cX1_copy 105 = .ok (.getfield 23, 3) := by decide +kernel
theorem dX1_copy_108 : decode cX1_copy 108 = .ok (.arraylength, 1) := by decide +kernel
theorem dX1_copy_109 : decode cX1_copy 109 = .ok (.invokestatic 70, 3) := by decide +kernel
theorem dX1_copy_112 : decode cX1_copy 112 = .ok (.aload_n 1, 1) := by decide +kernel
theorem dX1_copy_113 : decode cX1_copy 113 = .ok (.getfield 27, 3) := by decide +kernel
theorem dX1_copy_116 : decode cX1_copy 116 = .ok (.iconst 0, 1) := by decide +kernel
theorem dX1_copy_117 : decode cX1_copy 117 = .ok (.aload_n 0, 1) := by decide +kernel
theorem dX1_copy_118 : decode cX1_copy 118 = .ok (.getfield 27, 3) := by decide +kernel
theorem dX1_copy_121 : decode cX1_copy 121 = .ok (.iconst 0, 1) := by decide +kernel
theorem dX1_copy_122 : decode cX1_copy 122 = .ok (.aload_n 0, 1) := by decide +kernel
theorem dX1_copy_123 : decode cX1_copy 123 = .ok (.getfield 27, 3) := by decide +kernel
theorem dX1_copy_126 : decode cX1_copy 126 = .ok (.arraylength, 1) := by decide +kernel
theorem dX1_copy_127 : decode cX1_copy 127 = .ok (.invokestatic 70, 3) := by decide +kernel
theorem dX1_copy_130 : decode cX1_copy 130 = .ok (.aload_n 0, 1) := by decide +kernel
theorem dX1_copy_131 : decode cX1_copy 131 = .ok (.aload_n 1, 1) := by decide +kernel
theorem dX1_copy_132 : decode cX1_copy 132 = .ok (.getfield 48, 3) := by decide +kernel
theorem dX1_copy_135 : decode cX1_copy 135 = .ok (.putfield 48, 3) := by decide +kernel
theorem dX1_copy_138 : decode cX1_copy 138 = .ok (.aload_n 0, 1) := by decide +kernel
theorem dX1_copy_139 : decode cX1_copy 139 = .ok (.aload_n 1, 1) := by decide +kernel
theorem dX1_copy_140 : decode cX1_copy 140 = .ok (.getfield 51, 3) := by decide +kernel
theorem dX1_copy_143 : decode cX1_copy 143 = .ok (.putfield 51, 3) := by decide +kernel
theorem dX1_copy_146 : decode cX1_copy 146 = .ok (.aload_n 0, 1) := by decide +kernel
theorem dX1_copy_147 : decode cX1_copy 147 = .ok (.aload_n 1, 1) := by decide +kernel
theorem dX1_copy_148 : decode cX1_copy 148 = .ok (.getfield 54, 3) := by decide +kernel
theorem dX1_copy_151 : decode cX1_copy 151 = .ok (.putfield 54, 3) := by decide +kernel
theorem dX1_copy_154 : decode cX1_copy 154 = .ok (.aload_n 0, 1) := by decide +kernel
theorem dX1_copy_155 : decode cX1_copy 155 = .ok (.aload_n 1, 1) := by decide +kernel
theorem dX1_copy_156 : decode cX1_copy 156 = .ok (.getfield 57, 3) := by decide +kernel
theorem dX1_copy_159 : decode cX1_copy 159 = .ok (.putfield 57, 3) := by decide +kernel
theorem dX1_copy_162 : decode cX1_copy 162 = .ok (.return_, 1) := by decide +kernel
theorem dX1_roomNamed_0 : decode cX1_roomNamed 0 = .ok (.iconst 0, 1) := by decide +kernel
theorem dX1_roomNamed_1 : decode cX1_roomNamed 1 = .ok (.istore_n 3, 1) := by decide +kernel
theorem dX1_roomNamed_2 : decode cX1_roomNamed 2 = .ok (.iload_n 3, 1) := by decide +kernel
theorem dX1_roomNamed_3 : decode cX1_roomNamed 3 = .ok (.aload_n 0, 1) := by decide +kernel
theorem dX1_roomNamed_4 : decode cX1_roomNamed 4 = .ok (.getfield 35, 3) := by decide +kernel
theorem dX1_roomNamed_7 : decode cX1_roomNamed 7 = .ok (.if_icmp .ge 25, 3) := by decide +kernel
theorem dX1_roomNamed_10 : decode cX1_roomNamed 10 = .ok (.aload_n 0, 1) := by decide +kernel
theorem dX1_roomNamed_11 : decode cX1_roomNamed 11 = .ok (.getfield 11, 3) := by decide +kernel
theorem dX1_roomNamed_14 : decode cX1_roomNamed 14 = .ok (.iload_n 3, 1) := by decide +kernel
theorem dX1_roomNamed_15 : decode cX1_roomNamed 15 = .ok (.aaload, 1) := by decide +kernel
theorem dX1_roomNamed_16 : decode cX1_roomNamed 16 = .ok (.getfield 76, 3) := by decide +kernel
theorem dX1_roomNamed_19 : decode cX1_roomNamed 19 = .ok (.lload_n 1, 1) := by decide +kernel
theorem dX1_roomNamed_20 : decode cX1_roomNamed 20 = .ok (.lcmp, 1) := by decide +kernel
theorem dX1_roomNamed_21 : decode cX1_roomNamed 21 = .ok (.ifCond .ne 5, 3) := by decide +kernel
theorem dX1_roomNamed_24 : decode cX1_roomNamed 24 = .ok (.iload_n 3, 1) := by decide +kernel
theorem dX1_roomNamed_25 : decode cX1_roomNamed 25 = .ok (.ireturn, 1) := by decide +kernel
theorem dX1_roomNamed_26 : decode cX1_roomNamed 26 = .ok (.iinc 3 1, 3) := by decide +kernel
theorem dX1_roomNamed_29 : decode cX1_roomNamed 29 = .ok (.goto (-27), 3) := by decide +kernel
theorem dX1_roomNamed_32 : decode cX1_roomNamed 32 = .ok (.iconst (-1), 1) := by decide +kernel
theorem dX1_roomNamed_33 : decode cX1_roomNamed 33 = .ok (.ireturn, 1) := by decide +kernel
theorem dX1_bookingNamed_0 : decode cX1_bookingNamed 0 = .ok (.iconst 0, 1) := by decide +kernel
theorem dX1_bookingNamed_1 : decode cX1_bookingNamed 1 = .ok (.istore_n 3, 1) := by decide +kernel
theorem dX1_bookingNamed_2 : decode cX1_bookingNamed 2 = .ok (.iload_n 3, 1) := by decide +kernel
theorem dX1_bookingNamed_3 : decode cX1_bookingNamed 3 = .ok (.aload_n 0, 1) := by decide +kernel
theorem dX1_bookingNamed_4 : decode cX1_bookingNamed 4 = .ok (.getfield 42, 3) := by decide +kernel
theorem dX1_bookingNamed_7 : decode cX1_bookingNamed 7 = .ok (.if_icmp .ge 31, 3) := by decide +kernel
theorem dX1_bookingNamed_10 : decode cX1_bookingNamed 10 = .ok (.lload_n 1, 1) := by decide +kernel
theorem dX1_bookingNamed_11 : decode cX1_bookingNamed 11 = .ok (.lconst 0, 1) := by decide +kernel
theorem dX1_bookingNamed_12 : decode cX1_bookingNamed 12 = .ok (.lcmp, 1) := by decide +kernel
theorem dX1_bookingNamed_13 : decode cX1_bookingNamed 13 = .ok (.ifCond .eq 19, 3) := by decide +kernel
theorem dX1_bookingNamed_16 : decode cX1_bookingNamed 16 = .ok (.aload_n 0, 1) := by decide +kernel
theorem dX1_bookingNamed_17 : decode cX1_bookingNamed 17 = .ok (.getfield 19, 3) := by decide +kernel
theorem dX1_bookingNamed_20 : decode cX1_bookingNamed 20 = .ok (.iload_n 3, 1) := by decide +kernel
theorem dX1_bookingNamed_21 : decode cX1_bookingNamed 21 = .ok (.aaload, 1) := by decide +kernel
theorem dX1_bookingNamed_22 : decode cX1_bookingNamed 22 = .ok (.getfield 80, 3) := by decide +kernel
theorem dX1_bookingNamed_25 : decode cX1_bookingNamed 25 = .ok (.lload_n 1, 1) := by decide +kernel
theorem dX1_bookingNamed_26 : decode cX1_bookingNamed 26 = .ok (.lcmp, 1) := by decide +kernel
theorem dX1_bookingNamed_27 : decode cX1_bookingNamed 27 = .ok (.ifCond .ne 5, 3) := by decide +kernel
theorem dX1_bookingNamed_30 : decode cX1_bookingNamed 30 = .ok (.iload_n 3, 1) := by decide +kernel
theorem dX1_bookingNamed_31 : decode cX1_bookingNamed 31 = .ok (.ireturn, 1) := by decide +kernel
theorem dX1_bookingNamed_32 : decode cX1_bookingNamed 32 = .ok (.iinc 3 1, 3) := by decide +kernel
theorem dX1_bookingNamed_35 : decode cX1_bookingNamed 35 = .ok (.goto (-33), 3) := by decide +kernel
theorem dX1_bookingNamed_38 : decode cX1_bookingNamed 38 = .ok (.iconst (-1), 1) := by decide +kernel
theorem dX1_bookingNamed_39 : decode cX1_bookingNamed 39 = .ok (.ireturn, 1) := by decide +kernel
theorem dX1_countState_0 : decode cX1_countState 0 = .ok (.iconst 0, 1) := by decide +kernel
theorem dX1_countState_1 : decode cX1_countState 1 = .ok (.istore_n 2, 1) := by decide +kernel
theorem dX1_countState_2 : decode cX1_countState 2 = .ok (.iconst 0, 1) := by decide +kernel
theorem dX1_countState_3 : decode cX1_countState 3 = .ok (.istore_n 3, 1) := by decide +kernel
theorem dX1_countState_4 : decode cX1_countState 4 = .ok (.iload_n 3, 1) := by decide +kernel
theorem dX1_countState_5 : decode cX1_countState 5 = .ok (.aload_n 0, 1) := by decide +kernel
theorem dX1_countState_6 : decode cX1_countState 6 = .ok (.getfield 42, 3) := by decide +kernel
theorem dX1_countState_9 : decode cX1_countState 9 = .ok (.if_icmp .ge 25, 3) := by decide +kernel
theorem dX1_countState_12 : decode cX1_countState 12 = .ok (.aload_n 0, 1) := by decide +kernel
theorem dX1_countState_13 : decode cX1_countState 13 = .ok (.getfield 19, 3) := by decide +kernel
theorem dX1_countState_16 : decode cX1_countState 16 = .ok (.iload_n 3, 1) := by decide +kernel
theorem dX1_countState_17 : decode cX1_countState 17 = .ok (.aaload, 1) := by decide +kernel
theorem dX1_countState_18 : decode cX1_countState 18 = .ok (.getfield 81, 3) := by decide +kernel
theorem dX1_countState_21 : decode cX1_countState 21 = .ok (.iload_n 1, 1) := by decide +kernel
theorem dX1_countState_22 : decode cX1_countState 22 = .ok (.if_icmp .ne 6, 3) := by decide +kernel
theorem dX1_countState_25 : decode cX1_countState 25 = .ok (.iinc 2 1, 3) := by decide +kernel
theorem dX1_countState_28 : decode cX1_countState 28 = .ok (.iinc 3 1, 3) := by decide +kernel
theorem dX1_countState_31 : decode cX1_countState 31 = .ok (.goto (-27), 3) := by decide +kernel
theorem dX1_countState_34 : decode cX1_countState 34 = .ok (.iload_n 2, 1) := by decide +kernel
theorem dX1_countState_35 : decode cX1_countState 35 = .ok (.ireturn, 1) := by decide +kernel
theorem dX1_canAccept_0 : decode cX1_canAccept 0 = .ok (.aload_n 0, 1) := by decide +kernel
theorem dX1_canAccept_1 : decode cX1_canAccept 1 = .ok (.getfield 39, 3) := by decide +kernel
theorem dX1_canAccept_4 : decode cX1_canAccept 4 = .ok (.bipush 100, 2) := by decide +kernel
theorem dX1_canAccept_6 : decode cX1_canAccept 6 = .ok (.aload_n 0, 1) := by decide +kernel
theorem dX1_canAccept_7 : decode cX1_canAccept 7 = .ok (.getfield 48, 3) := by decide +kernel
theorem dX1_canAccept_10 : decode cX1_canAccept 10 = .ok (.iadd, 1) := by decide +kernel
theorem dX1_canAccept_11 : decode cX1_canAccept 11 = .ok (.imul, 1) := by decide +kernel
theorem dX1_canAccept_12 : decode cX1_canAccept 12 = .ok (.bipush 100, 2) := by decide +kernel
theorem dX1_canAccept_14 : decode cX1_canAccept 14 = .ok (.idiv, 1) := by decide +kernel
theorem dX1_canAccept_15 : decode cX1_canAccept 15 = .ok (.istore_n 2, 1) := by decide +kernel
theorem dX1_canAccept_16 : decode cX1_canAccept 16 = .ok (.iconst 0, 1) := by decide +kernel
theorem dX1_canAccept_17 : decode cX1_canAccept 17 = .ok (.istore_n 3, 1) := by decide +kernel
theorem dX1_canAccept_18 : decode cX1_canAccept 18 = .ok (.iload_n 3, 1) := by decide +kernel
theorem dX1_canAccept_19 : decode cX1_canAccept 19 = .ok (.aload_n 0, 1) := by decide +kernel
theorem dX1_canAccept_20 : decode cX1_canAccept 20 = .ok (.getfield 27, 3) := by decide +kernel
theorem dX1_canAccept_23 : decode cX1_canAccept 23 = .ok (.arraylength, 1) := by decide +kernel
theorem dX1_canAccept_24 : decode cX1_canAccept 24 = .ok (.if_icmp .ge 34, 3) := by decide +kernel
theorem dX1_canAccept_27 : decode cX1_canAccept 27 = .ok (.aload_n 1, 1) := by decide +kernel
theorem dX1_canAccept_28 : decode cX1_canAccept 28 = .ok (.iload_n 3, 1) := by decide +kernel
theorem dX1_canAccept_29 : decode cX1_canAccept 29 = .ok (.invokevirtual 84, 3) := by decide +kernel
theorem dX1_canAccept_32 : decode cX1_canAccept 32 = .ok (.ifCond .eq 20, 3) := by decide +kernel
theorem dX1_canAccept_35 : decode cX1_canAccept 35 = .ok (.aload_n 0, 1) := by decide +kernel
theorem dX1_canAccept_36 : decode cX1_canAccept 36 = .ok (.getfield 27, 3) := by decide +kernel
theorem dX1_canAccept_39 : decode cX1_canAccept 39 = .ok (.iload_n 3, 1) := by decide +kernel
theorem dX1_canAccept_40 : decode cX1_canAccept 40 = .ok (.iaload, 1) := by decide +kernel
theorem dX1_canAccept_41 : decode cX1_canAccept 41 = .ok (.aload_n 1, 1) := by decide +kernel
theorem dX1_canAccept_42 : decode cX1_canAccept 42 = .ok (.getfield 88, 3) := by decide +kernel
theorem dX1_canAccept_45 : decode cX1_canAccept 45 = .ok (.iadd, 1) := by decide +kernel
theorem dX1_canAccept_46 : decode cX1_canAccept 46 = .ok (.iload_n 2, 1) := by decide +kernel
theorem dX1_canAccept_47 : decode cX1_canAccept 47 = .ok (.if_icmp .le 5, 3) := by decide +kernel
theorem dX1_canAccept_50 : decode cX1_canAccept 50 = .ok (.iconst 0, 1) := by decide +kernel
theorem dX1_canAccept_51 : decode cX1_canAccept 51 = .ok (.ireturn, 1) := by decide +kernel
theorem dX1_canAccept_52 : decode cX1_canAccept 52 = .ok (.iinc 3 1, 3) := by decide +kernel
theorem dX1_canAccept_55 : decode cX1_canAccept 55 = .ok (.goto (-37), 3) := by decide +kernel
theorem dX1_canAccept_58 : decode cX1_canAccept 58 = .ok (.iconst 1, 1) := by decide +kernel
theorem dX1_canAccept_59 : decode cX1_canAccept 59 = .ok (.ireturn, 1) := by decide +kernel
theorem dX1_accept_0 : decode cX1_accept 0 = .ok (.aload_n 1, 1) := by decide +kernel
theorem dX1_accept_1 : decode cX1_accept 1 = .ok (.iconst 1, 1) := by decide +kernel
theorem dX1_accept_2 : decode cX1_accept 2 = .ok (.putfield 81, 3) := by decide +kernel
theorem dX1_accept_5 : decode cX1_accept 5 = .ok (.aload_n 0, 1) := by decide +kernel
theorem dX1_accept_6 : decode cX1_accept 6 = .ok (.aload_n 1, 1) := by decide +kernel
theorem dX1_accept_7 : decode cX1_accept 7 = .ok (.aload_n 1, 1) := by decide +kernel
theorem dX1_accept_8 : decode cX1_accept 8 = .ok (.getfield 88, 3) := by decide +kernel
theorem dX1_accept_11 : decode cX1_accept 11 = .ok (.invokevirtual 91, 3) := by decide +kernel
theorem dX1_accept_14 : decode cX1_accept 14 = .ok (.return_, 1) := by decide +kernel
theorem dX1_addToCrowd_0 : decode cX1_addToCrowd 0 = .ok (.aload_n 1, 1) := by decide +kernel
theorem dX1_addToCrowd_1 : decode cX1_addToCrowd 1 = .ok (.getfield 95, 3) := by decide +kernel
theorem dX1_addToCrowd_4 : decode cX1_addToCrowd 4 = .ok (.aload_n 1, 1) := by decide +kernel
theorem dX1_addToCrowd_5 : decode cX1_addToCrowd 5 = .ok (.getfield 98, 3) := by decide +kernel
theorem dX1_addToCrowd_8 : decode cX1_addToCrowd 8 = .ok (.iadd, 1) := by decide +kernel
theorem dX1_addToCrowd_9 : decode cX1_addToCrowd 9 = .ok (.aload_n 0, 1) := by decide +kernel
theorem dX1_addToCrowd_10 : decode cX1_addToCrowd 10 = .ok (.getfield 27, 3) := by decide +kernel
theorem dX1_addToCrowd_13 : decode cX1_addToCrowd 13 = .ok (.arraylength, 1) := by decide +kernel
theorem dX1_addToCrowd_14 : decode cX1_addToCrowd 14 = .ok (.invokestatic 101, 3) := by decide +kernel
theorem dX1_addToCrowd_17 : decode cX1_addToCrowd 17 = .ok (.istore_n 3, 1) := by decide +kernel
theorem dX1_addToCrowd_18 : decode cX1_addToCrowd 18 = .ok (.aload_n 1, 1) := by decide +kernel
theorem dX1_addToCrowd_19 : decode cX1_addToCrowd 19 = .ok (.getfield 95, 3) := by decide +kernel
theorem dX1_addToCrowd_22 : decode cX1_addToCrowd 22 = .ok (.istore 4, 2) := by decide +kernel
theorem dX1_addToCrowd_24 : decode cX1_addToCrowd 24 = .ok (.iload 4, 2) := by decide +kernel
theorem dX1_addToCrowd_26 : decode cX1_addToCrowd 26 = .ok (.iload_n 3, 1) := by decide +kernel
theorem dX1_addToCrowd_27 : decode cX1_addToCrowd 27 = .ok (.if_icmp .ge 20, 3) := by decide +kernel
theorem dX1_addToCrowd_30 : decode cX1_addToCrowd 30 = .ok (.aload_n 0, 1) := by decide +kernel
theorem dX1_addToCrowd_31 : decode cX1_addToCrowd 31 = .ok (.getfield 27, 3) := by decide +kernel
theorem dX1_addToCrowd_34 : decode cX1_addToCrowd 34 = .ok (.iload 4, 2) := by decide +kernel
theorem dX1_addToCrowd_36 : decode cX1_addToCrowd 36 = .ok (.dup2, 1) := by decide +kernel
theorem dX1_addToCrowd_37 : decode cX1_addToCrowd 37 = .ok (.iaload, 1) := by decide +kernel
theorem dX1_addToCrowd_38 : decode cX1_addToCrowd 38 = .ok (.iload_n 2, 1) := by decide +kernel
theorem dX1_addToCrowd_39 : decode cX1_addToCrowd 39 = .ok (.iadd, 1) := by decide +kernel
theorem dX1_addToCrowd_40 : decode cX1_addToCrowd 40 = .ok (.iastore, 1) := by decide +kernel
theorem dX1_addToCrowd_41 : decode cX1_addToCrowd 41 = .ok (.iinc 4 1, 3) := by decide +kernel
theorem dX1_addToCrowd_44 : decode cX1_addToCrowd 44 = .ok (.goto (-20), 3) := by decide +kernel
theorem dX1_addToCrowd_47 : decode cX1_addToCrowd 47 = .ok (.return_, 1) := by decide +kernel
theorem dX1_tellNext_0 : decode cX1_tellNext 0 = .ok (.aload_n 0, 1) := by decide +kernel
theorem dX1_tellNext_1 : decode cX1_tellNext 1 = .ok (.aload_n 0, 1) := by decide +kernel
theorem dX1_tellNext_2 : decode cX1_tellNext 2 = .ok (.getfield 42, 3) := by decide +kernel
theorem dX1_tellNext_5 : decode cX1_tellNext 5 = .ok (.invokevirtual 107, 3) := by decide +kernel
theorem dX1_tellNext_8 : decode cX1_tellNext 8 = .ok (.aload_n 0, 1) := by decide +kernel
theorem dX1_tellNext_9 : decode cX1_tellNext 9 = .ok (.dup, 1) := by decide +kernel
theorem dX1_tellNext_10 : decode cX1_tellNext 10 = .ok (.getfield 42, 3) := by decide +kernel
theorem dX1_tellNext_13 : decode cX1_tellNext 13 = .ok (.iconst 1, 1) := by decide +kernel
theorem dX1_tellNext_14 : decode cX1_tellNext 14 = .ok (.iadd, 1) := by decide +kernel
theorem dX1_tellNext_15 : decode cX1_tellNext 15 = .ok (.putfield 42, 3) := by decide +kernel
theorem dX1_tellNext_18 : decode cX1_tellNext 18 = .ok (.return_, 1) := by decide +kernel
theorem dX1_tell_0 : decode cX1_tell 0 = .ok (.aload_n 0, 1) := by decide +kernel
theorem dX1_tell_1 : decode cX1_tell 1 = .ok (.aload_n 0, 1) := by decide +kernel
theorem dX1_tell_2 : decode cX1_tell 2 = .ok (.getfield 19, 3) := by decide +kernel
theorem dX1_tell_5 : decode cX1_tell 5 = .ok (.iload_n 1, 1) := by decide +kernel
theorem dX1_tell_6 : decode cX1_tell 6 = .ok (.aaload, 1) := by decide +kernel
theorem dX1_tell_7 : decode cX1_tell 7 = .ok (.invokevirtual 111, 3) := by decide +kernel
theorem dX1_tell_10 : decode cX1_tell 10 = .ok (.ifCond .eq 16, 3) := by decide +kernel
theorem dX1_tell_13 : decode cX1_tell 13 = .ok (.aload_n 0, 1) := by decide +kernel
theorem dX1_tell_14 : decode cX1_tell 14 = .ok (.aload_n 0, 1) := by decide +kernel
theorem dX1_tell_15 : decode cX1_tell 15 = .ok (.getfield 19, 3) := by decide +kernel
theorem dX1_tell_18 : decode cX1_tell 18 = .ok (.iload_n 1, 1) := by decide +kernel
theorem dX1_tell_19 : decode cX1_tell 19 = .ok (.aaload, 1) := by decide +kernel
theorem dX1_tell_20 : decode cX1_tell 20 = .ok (.invokevirtual 115, 3) := by decide +kernel
theorem dX1_tell_23 : decode cX1_tell 23 = .ok (.goto 45, 3) := by decide +kernel
theorem dX1_tell_26 : decode cX1_tell 26 = .ok (.aload_n 0, 1) := by decide +kernel
theorem dX1_tell_27 : decode cX1_tell 27 = .ok (.getfield 60, 3) := by decide +kernel
theorem dX1_tell_30 : decode cX1_tell 30 = .ok (.aload_n 0, 1) := by decide +kernel
theorem dX1_tell_31 : decode cX1_tell 31 = .ok (.getfield 23, 3) := by decide +kernel
theorem dX1_tell_34 : decode cX1_tell 34 = .ok (.arraylength, 1) := by decide +kernel
theorem dX1_tell_35 : decode cX1_tell 35 = .ok (.if_icmp .ge 33, 3) := by decide +kernel
theorem dX1_tell_38 : decode cX1_tell 38 = .ok (.aload_n 0, 1) := by decide +kernel
theorem dX1_tell_39 : decode cX1_tell 39 = .ok (.getfield 19, 3) := by decide +kernel
theorem dX1_tell_42 : decode cX1_tell 42 = .ok (.iload_n 1, 1) := by decide +kernel
theorem dX1_tell_43 : decode cX1_tell 43 = .ok (.aaload, 1) := by decide +kernel
theorem dX1_tell_44 : decode cX1_tell 44 = .ok (.iconst 0, 1) := by decide +kernel
theorem dX1_tell_45 : decode cX1_tell 45 = .ok (.putfield 81, 3) := by decide +kernel
theorem dX1_tell_48 : decode cX1_tell 48 = .ok (.aload_n 0, 1) := by decide +kernel
theorem dX1_tell_49 : decode cX1_tell 49 = .ok (.getfield 23, 3) := by decide +kernel
theorem dX1_tell_52 : decode cX1_tell 52 = .ok (.aload_n 0, 1) := by decide +kernel
theorem dX1_tell_53 : decode cX1_tell 53 = .ok (.getfield 60, 3) := by decide +kernel
theorem dX1_tell_56 : decode cX1_tell 56 = .ok (.iload_n 1, 1) := by decide +kernel
theorem dX1_tell_57 : decode cX1_tell 57 = .ok (.iastore, 1) := by decide +kernel
theorem dX1_tell_58 : decode cX1_tell 58 = .ok (.aload_n 0, 1) := by decide +kernel
theorem dX1_tell_59 : decode cX1_tell 59 = .ok (.dup, 1) := by decide +kernel
theorem dX1_tell_60 : decode cX1_tell 60 = .ok (.getfield 60, 3) := by decide +kernel
theorem dX1_tell_63 : decode cX1_tell 63 = .ok (.iconst 1, 1) := by decide +kernel
theorem dX1_tell_64 : decode cX1_tell 64 = .ok (.iadd, 1) := by decide +kernel
theorem dX1_tell_65 : decode cX1_tell 65 = .ok (.putfield 60, 3) := by decide +kernel
theorem dX1_tell_68 : decode cX1_tell 68 = .ok (.return_, 1) := by decide +kernel
theorem dX1_tellAnew_0 : decode cX1_tellAnew 0 = .ok (.aload_n 0, 1) := by decide +kernel
theorem dX1_tellAnew_1 : decode cX1_tellAnew 1 = .ok (.invokevirtual 45, 3) := by decide +kernel
theorem dX1_tellAnew_4 : decode cX1_tellAnew 4 = .ok (.iconst 0, 1) := by decide +kernel
theorem dX1_tellAnew_5 : decode cX1_tellAnew 5 = .ok (.istore_n 1, 1) := by decide +kernel
theorem dX1_tellAnew_6 : decode cX1_tellAnew 6 = .ok (.iconst 0, 1) := by decide +kernel
theorem dX1_tellAnew_7 : decode cX1_tellAnew 7 = .ok (.istore_n 2, 1) := by decide +kernel
theorem dX1_tellAnew_8 : decode cX1_tellAnew 8 = .ok (.iload_n 2, 1) := by decide +kernel
theorem dX1_tellAnew_9 : decode cX1_tellAnew 9 = .ok (.aload_n 0, 1) := by decide +kernel
theorem dX1_tellAnew_10 : decode cX1_tellAnew 10 = .ok (.getfield 42, 3) := by decide +kernel
theorem dX1_tellAnew_13 : decode cX1_tellAnew 13 = .ok (.if_icmp .ge 50, 3) := by decide +kernel
theorem dX1_tellAnew_16 : decode cX1_tellAnew 16 = .ok (.aload_n 0, 1) := by decide +kernel
theorem dX1_tellAnew_17 : decode cX1_tellAnew 17 = .ok (.getfield 19, 3) := by decide +kernel
theorem dX1_tellAnew_20 : decode cX1_tellAnew 20 = .ok (.iload_n 2, 1) := by decide +kernel
theorem dX1_tellAnew_21 : decode cX1_tellAnew 21 = .ok (.aaload, 1) := by decide +kernel
theorem dX1_tellAnew_22 : decode cX1_tellAnew 22 = .ok (.getfield 81, 3) := by decide +kernel
theorem dX1_tellAnew_25 : decode cX1_tellAnew 25 = .ok (.iconst 2, 1) := by decide +kernel
theorem dX1_tellAnew_26 : decode cX1_tellAnew 26 = .ok (.if_icmp .eq 31, 3) := by decide +kernel
theorem dX1_tellAnew_29 : decode cX1_tellAnew 29 = .ok (.aload_n 0, 1) := by decide +kernel
theorem dX1_tellAnew_30 : decode cX1_tellAnew 30 = .ok (.iload_n 2, 1) := by decide +kernel
theorem dX1_tellAnew_31 : decode cX1_tellAnew 31 = .ok (.invokevirtual 107, 3) := by decide +kernel
theorem dX1_tellAnew_34 : decode cX1_tellAnew 34 = .ok (.iload_n 1, 1) := by decide +kernel
theorem dX1_tellAnew_35 : decode cX1_tellAnew 35 = .ok (.aload_n 0, 1) := by decide +kernel
theorem dX1_tellAnew_36 : decode cX1_tellAnew 36 = .ok (.getfield 19, 3) := by decide +kernel
theorem dX1_tellAnew_39 : decode cX1_tellAnew 39 = .ok (.iload_n 2, 1) := by decide +kernel
theorem dX1_tellAnew_40 : decode cX1_tellAnew 40 = .ok (.aaload, 1) := by decide +kernel
theorem dX1_tellAnew_41 : decode cX1_tellAnew 41 = .ok (.getfield 81, 3) := by decide +kernel
theorem dX1_tellAnew_44 : decode cX1_tellAnew 44 = .ok (.iconst 1, 1) := by decide +kernel
theorem dX1_tellAnew_45 : decode cX1_tellAnew 45 = .ok (.if_icmp .ne 9, 3) := by decide +kernel
theorem dX1_tellAnew_48 : decode cX1_tellAnew 48 = .ok (.iconst 1, 1) := by decide +kernel
theorem dX1_tellAnew_49 : decode cX1_tellAnew 49 = .ok (.iload_n 2, 1) := by decide +kernel
theorem dX1_tellAnew_50 : decode cX1_tellAnew 50 = .ok (.ishl, 1) := by decide +kernel
theorem dX1_tellAnew_51 : decode cX1_tellAnew 51 = .ok (.goto 4, 3) := by decide +kernel
theorem dX1_tellAnew_54 : decode cX1_tellAnew 54 = .ok (.iconst 0, 1) := by decide +kernel
theorem dX1_tellAnew_55 : decode cX1_tellAnew 55 = .ok (.ior, 1) := by decide +kernel
theorem dX1_tellAnew_56 : decode cX1_tellAnew 56 = .ok (.istore_n 1, 1) := by decide +kernel
theorem dX1_tellAnew_57 : decode cX1_tellAnew 57 = .ok (.iinc 2 1, 3) := by decide +kernel
theorem dX1_tellAnew_60 : decode cX1_tellAnew 60 = .ok (.goto (-52), 3) := by decide +kernel
theorem dX1_tellAnew_63 : decode cX1_tellAnew 63 = .ok (.iload_n 1, 1) := by decide +kernel
theorem dX1_tellAnew_64 : decode cX1_tellAnew 64 = .ok (.ireturn, 1) := by decide +kernel
theorem dX1_drop_0 : decode cX1_drop 0 = .ok (.aload_n 0, 1) := by decide +kernel
theorem dX1_drop_1 : decode cX1_drop 1 = .ok (.getfield 19, 3) := by decide +kernel
theorem dX1_drop_4 : decode cX1_drop 4 = .ok (.iload_n 1, 1) := by decide +kernel
theorem dX1_drop_5 : decode cX1_drop 5 = .ok (.aaload, 1) := by decide +kernel
theorem dX1_drop_6 : decode cX1_drop 6 = .ok (.getfield 81, 3) := by decide +kernel
theorem dX1_drop_9 : decode cX1_drop 9 = .ok (.iconst 1, 1) := by decide +kernel
theorem dX1_drop_10 : decode cX1_drop 10 = .ok (.if_icmp .ne 23, 3) := by decide +kernel
theorem dX1_drop_13 : decode cX1_drop 13 = .ok (.aload_n 0, 1) := by decide +kernel
theorem dX1_drop_14 : decode cX1_drop 14 = .ok (.aload_n 0, 1) := by decide +kernel
theorem dX1_drop_15 : decode cX1_drop 15 = .ok (.getfield 19, 3) := by decide +kernel
theorem dX1_drop_18 : decode cX1_drop 18 = .ok (.iload_n 1, 1) := by decide +kernel
theorem dX1_drop_19 : decode cX1_drop 19 = .ok (.aaload, 1) := by decide +kernel
theorem dX1_drop_20 : decode cX1_drop 20 = .ok (.aload_n 0, 1) := by decide +kernel
theorem dX1_drop_21 : decode cX1_drop 21 = .ok (.getfield 19, 3) := by decide +kernel
theorem dX1_drop_24 : decode cX1_drop 24 = .ok (.iload_n 1, 1) := by decide +kernel
theorem dX1_drop_25 : decode cX1_drop 25 = .ok (.aaload, 1) := by decide +kernel
theorem dX1_drop_26 : decode cX1_drop 26 = .ok (.getfield 88, 3) := by decide +kernel
theorem dX1_drop_29 : decode cX1_drop 29 = .ok (.ineg, 1) := by decide +kernel
theorem dX1_drop_30 : decode cX1_drop 30 = .ok (.invokevirtual 91, 3) := by decide +kernel
theorem dX1_drop_33 : decode cX1_drop 33 = .ok (.aload_n 0, 1) := by decide +kernel
theorem dX1_drop_34 : decode cX1_drop 34 = .ok (.getfield 19, 3) := by decide +kernel
theorem dX1_drop_37 : decode cX1_drop 37 = .ok (.iload_n 1, 1) := by decide +kernel
theorem dX1_drop_38 : decode cX1_drop 38 = .ok (.aaload, 1) := by decide +kernel
theorem dX1_drop_39 : decode cX1_drop 39 = .ok (.iconst 2, 1) := by decide +kernel
theorem dX1_drop_40 : decode cX1_drop 40 = .ok (.putfield 81, 3) := by decide +kernel
theorem dX1_drop_43 : decode cX1_drop 43 = .ok (.iconst 0, 1) := by decide +kernel
theorem dX1_drop_44 : decode cX1_drop 44 = .ok (.istore_n 2, 1) := by decide +kernel
theorem dX1_drop_45 : decode cX1_drop 45 = .ok (.iconst 0, 1) := by decide +kernel
theorem dX1_drop_46 : decode cX1_drop 46 = .ok (.istore_n 3, 1) := by decide +kernel
theorem dX1_drop_47 : decode cX1_drop 47 = .ok (.iload_n 3, 1) := by decide +kernel
theorem dX1_drop_48 : decode cX1_drop 48 = .ok (.aload_n 0, 1) := by decide +kernel
theorem dX1_drop_49 : decode cX1_drop 49 = .ok (.getfield 60, 3) := by decide +kernel
theorem dX1_drop_52 : decode cX1_drop 52 = .ok (.if_icmp .ge 34, 3) := by decide +kernel
theorem dX1_drop_55 : decode cX1_drop 55 = .ok (.aload_n 0, 1) := by decide +kernel
theorem dX1_drop_56 : decode cX1_drop 56 = .ok (.getfield 23, 3) := by decide +kernel
theorem dX1_drop_59 : decode cX1_drop 59 = .ok (.iload_n 3, 1) := by decide +kernel
theorem dX1_drop_60 : decode cX1_drop 60 = .ok (.iaload, 1) := by decide +kernel
theorem dX1_drop_61 : decode cX1_drop 61 = .ok (.iload_n 1, 1) := by decide +kernel
theorem dX1_drop_62 : decode cX1_drop 62 = .ok (.if_icmp .eq 18, 3) := by decide +kernel
theorem dX1_drop_65 : decode cX1_drop 65 = .ok (.aload_n 0, 1) := by decide +kernel
theorem dX1_drop_66 : decode cX1_drop 66 = .ok (.getfield 23, 3) := by decide +kernel
theorem dX1_drop_69 : decode cX1_drop 69 = .ok (.iload_n 2, 1) := by decide +kernel
theorem dX1_drop_70 : decode cX1_drop 70 = .ok (.aload_n 0, 1) := by decide +kernel
theorem dX1_drop_71 : decode cX1_drop 71 = .ok (.getfield 23, 3) := by decide +kernel
theorem dX1_drop_74 : decode cX1_drop 74 = .ok (.iload_n 3, 1) := by decide +kernel
theorem dX1_drop_75 : decode cX1_drop 75 = .ok (.iaload, 1) := by decide +kernel
theorem dX1_drop_76 : decode cX1_drop 76 = .ok (.iastore, 1) := by decide +kernel
theorem dX1_drop_77 : decode cX1_drop 77 = .ok (.iinc 2 1, 3) := by decide +kernel
theorem dX1_drop_80 : decode cX1_drop 80 = .ok (.iinc 3 1, 3) := by decide +kernel
theorem dX1_drop_83 : decode cX1_drop 83 = .ok (.goto (-36), 3) := by decide +kernel
theorem dX1_drop_86 : decode cX1_drop 86 = .ok (.aload_n 0, 1) := by decide +kernel
theorem dX1_drop_87 : decode cX1_drop 87 = .ok (.iload_n 2, 1) := by decide +kernel
theorem dX1_drop_88 : decode cX1_drop 88 = .ok (.putfield 60, 3) := by decide +kernel
theorem dX1_drop_91 : decode cX1_drop 91 = .ok (.return_, 1) := by decide +kernel
theorem dX1_acceptWaiting_0 : decode cX1_acceptWaiting 0 = .ok (.iconst 0, 1) := by decide +kernel
theorem dX1_acceptWaiting_1 : decode cX1_acceptWaiting 1 = .ok (.istore_n 1, 1) := by decide +kernel
theorem dX1_acceptWaiting_2 : decode cX1_acceptWaiting 2 = .ok (.iconst 0, 1) := by decide +kernel
theorem dX1_acceptWaiting_3 : decode cX1_acceptWaiting 3 = .ok (.istore_n 2, 1) := by decide +kernel
theorem dX1_acceptWaiting_4 : decode cX1_acceptWaiting 4 = .ok (.iload_n 2, 1) := by decide +kernel
theorem dX1_acceptWaiting_5 : decode cX1_acceptWaiting 5 = .ok (.aload_n 0, 1) := by decide +kernel
theorem dX1_acceptWaiting_6 : decode cX1_acceptWaiting 6 = .ok (.getfield 60, 3) := by decide +kernel
theorem dX1_acceptWaiting_9 : decode cX1_acceptWaiting 9 = .ok (.if_icmp .ge 52, 3) := by decide +kernel
theorem dX1_acceptWaiting_12 : decode cX1_acceptWaiting 12 = .ok (.aload_n 0, 1) := by decide +kernel
theorem dX1_acceptWaiting_13 : decode cX1_acceptWaiting 13 = .ok (.getfield 19, 3) := by decide +kernel
theorem dX1_acceptWaiting_16 : decode cX1_acceptWaiting 16 = .ok (.aload_n 0, 1) := by decide +kernel
theorem dX1_acceptWaiting_17 : decode cX1_acceptWaiting 17 = .ok (.getfield 23, 3) := by decide +kernel
theorem dX1_acceptWaiting_20 : decode cX1_acceptWaiting 20 = .ok (.iload_n 2, 1) := by decide +kernel
theorem dX1_acceptWaiting_21 : decode cX1_acceptWaiting 21 = .ok (.iaload, 1) := by decide +kernel
theorem dX1_acceptWaiting_22 : decode cX1_acceptWaiting 22 = .ok (.aaload, 1) := by decide +kernel
theorem dX1_acceptWaiting_23 : decode cX1_acceptWaiting 23 = .ok (.astore_n 3, 1) := by decide +kernel
theorem dX1_acceptWaiting_24 : decode cX1_acceptWaiting 24 = .ok (.aload_n 0, 1) := by decide +kernel
theorem dX1_acceptWaiting_25 : decode cX1_acceptWaiting 25 = .ok (.aload_n 3, 1) := by decide +kernel
theorem dX1_acceptWaiting_26 : decode cX1_acceptWaiting 26 = .ok (.invokevirtual 111, 3) := by decide +kernel
theorem dX1_acceptWaiting_29 : decode cX1_acceptWaiting 29 = .ok (.ifCond .eq 11, 3) := by decide +kernel
theorem dX1_acceptWaiting_32 : decode cX1_acceptWaiting 32 = .ok (.aload_n 0, 1) := by decide +kernel
theorem dX1_acceptWaiting_33 : decode cX1_acceptWaiting 33 = .ok (.aload_n 3, 1) := by decide +kernel
theorem dX1_acceptWaiting_34 : decode cX1_acceptWaiting 34 = .ok (.invokevirtual 115, 3) := by decide +kernel
theorem dX1_acceptWaiting_37 : decode cX1_acceptWaiting 37 = .ok (.goto 18, 3) := by decide +kernel
theorem dX1_acceptWaiting_40 : decode cX1_acceptWaiting 40 = .ok (.aload_n 0, 1) := by decide +kernel
theorem dX1_acceptWaiting_41 : decode cX1_acceptWaiting 41 = .ok (.getfield 23, 3) := by decide +kernel
theorem dX1_acceptWaiting_44 : decode cX1_acceptWaiting 44 = .ok (.iload_n 1, 1) := by decide +kernel
theorem dX1_acceptWaiting_45 : decode cX1_acceptWaiting 45 = .ok (.aload_n 0, 1) := by decide +kernel
theorem dX1_acceptWaiting_46 : decode cX1_acceptWaiting 46 = .ok (.getfield 23, 3) := by decide +kernel
theorem dX1_acceptWaiting_49 : decode cX1_acceptWaiting 49 = .ok (.iload_n 2, 1) := by decide +kernel
theorem dX1_acceptWaiting_50 : decode cX1_acceptWaiting 50 = .ok (.iaload, 1) := by decide +kernel
theorem dX1_acceptWaiting_51 : decode cX1_acceptWaiting 51 = .ok (.iastore, 1) := by decide +kernel
theorem dX1_acceptWaiting_52 : decode cX1_acceptWaiting 52 = .ok (.iinc 1 1, 3) := by decide +kernel
theorem dX1_acceptWaiting_55 : decode cX1_acceptWaiting 55 = .ok (.iinc 2 1, 3) := by decide +kernel
theorem dX1_acceptWaiting_58 : decode cX1_acceptWaiting 58 = .ok (.goto (-54), 3) := by decide +kernel
theorem dX1_acceptWaiting_61 : decode cX1_acceptWaiting 61 = .ok (.aload_n 0, 1) := by decide +kernel
theorem dX1_acceptWaiting_62 : decode cX1_acceptWaiting 62 = .ok (.getfield 60, 3) := by decide +kernel
theorem dX1_acceptWaiting_65 : decode cX1_acceptWaiting 65 = .ok (.iload_n 1, 1) := by decide +kernel
theorem dX1_acceptWaiting_66 : decode cX1_acceptWaiting 66 = .ok (.isub, 1) := by decide +kernel
theorem dX1_acceptWaiting_67 : decode cX1_acceptWaiting 67 = .ok (.istore_n 2, 1) := by decide +kernel
theorem dX1_acceptWaiting_68 : decode cX1_acceptWaiting 68 = .ok (.aload_n 0, 1) := by decide +kernel
theorem dX1_acceptWaiting_69 : decode cX1_acceptWaiting 69 = .ok (.iload_n 1, 1) := by decide +kernel
theorem dX1_acceptWaiting_70 : decode cX1_acceptWaiting 70 = .ok (.putfield 60, 3) := by decide +kernel
theorem dX1_acceptWaiting_73 : decode cX1_acceptWaiting 73 = .ok (.iload_n 2, 1) := by decide +kernel
theorem dX1_acceptWaiting_74 : decode cX1_acceptWaiting 74 = .ok (.ireturn, 1) := by decide +kernel
theorem dX2_init_0 : decode cX2_init 0 = .ok (.aload_n 0, 1) := by decide +kernel
theorem dX2_init_1 : decode cX2_init 1 = .ok (.invokespecial 3, 3) := by decide +kernel
theorem dX2_init_4 : decode cX2_init 4 = .ok (.aload_n 0, 1) := by decide +kernel
theorem dX2_init_5 : decode cX2_init 5 = .ok (.sipush 700, 3) := by decide +kernel
theorem dX2_init_8 : decode cX2_init 8 = .ok (.newarray .byte, 2) := by decide +kernel
theorem dX2_init_10 : decode cX2_init 10 = .ok (.putfield 9, 3) := by decide +kernel
theorem dX2_init_13 : decode cX2_init 13 = .ok (.return_, 1) := by decide +kernel
theorem dX2_put_0 : decode cX2_put 0 = .ok (.bipush 24, 2) := by decide +kernel
theorem dX2_put_2 : decode cX2_put 2 = .ok (.istore_n 2, 1) := by decide +kernel
theorem dX2_put_3 : decode cX2_put 3 = .ok (.iload_n 2, 1) := by decide +kernel
theorem dX2_put_4 : decode cX2_put 4 = .ok (.ifCond .lt 44, 3) := by decide +kernel
theorem dX2_put_7 : decode cX2_put 7 = .ok (.aload_n 0, 1) := by decide +kernel
theorem dX2_put_8 : decode cX2_put 8 = .ok (.getfield 15, 3) := by decide +kernel
theorem dX2_put_11 : decode cX2_put 11 = .ok (.aload_n 0, 1) := by decide +kernel
theorem dX2_put_12 : decode cX2_put 12 = .ok (.getfield 9, 3) := by decide +kernel
theorem dX2_put_15 : decode cX2_put 15 = .ok (.arraylength, 1) := by decide +kernel
theorem dX2_put_16 : decode cX2_put 16 = .ok (.if_icmp .ge 26, 3) := by decide +kernel
theorem dX2_put_19 : decode cX2_put 19 = .ok (.aload_n 0, 1) := by decide +kernel
theorem dX2_put_20 : decode cX2_put 20 = .ok (.getfield 9, 3) := by decide +kernel
theorem dX2_put_23 : decode cX2_put 23 = .ok (.aload_n 0, 1) := by decide +kernel
theorem dX2_put_24 : decode cX2_put 24 = .ok (.getfield 15, 3) := by decide +kernel
theorem dX2_put_27 : decode cX2_put 27 = .ok (.iload_n 1, 1) := by decide +kernel
theorem dX2_put_28 : decode cX2_put 28 = .ok (.iload_n 2, 1) := by decide +kernel
theorem dX2_put_29 : decode cX2_put 29 = .ok (.iushr, 1) := by decide +kernel
theorem dX2_put_30 : decode cX2_put 30 = .ok (.i2b, 1) := by decide +kernel
theorem dX2_put_31 : decode cX2_put 31 = .ok (.bastore, 1) := by decide +kernel
theorem dX2_put_32 : decode cX2_put 32 = .ok (.aload_n 0, 1) := by decide +kernel
theorem dX2_put_33 : decode cX2_put 33 = .ok (.dup, 1) := by decide +kernel
theorem dX2_put_34 : decode cX2_put 34 = .ok (.getfield 15, 3) := by decide +kernel
theorem dX2_put_37 : decode cX2_put 37 = .ok (.iconst 1, 1) := by decide +kernel
theorem dX2_put_38 : decode cX2_put 38 = .ok (.iadd, 1) := by decide +kernel
theorem dX2_put_39 : decode cX2_put 39 = .ok (.putfield 15, 3) := by decide +kernel
theorem dX2_put_42 : decode cX2_put 42 = .ok (.iinc 2 (-8), 3) := by decide +kernel
theorem dX2_put_45 : decode cX2_put 45 = .ok (.goto (-42), 3) := by decide +kernel
theorem dX2_put_48 : decode cX2_put 48 = .ok (.return_, 1) := by decide +kernel
theorem dX2_read_0 : decode cX2_read 0 = .ok (.aload_n 1, 1) := by decide +kernel
theorem dX2_read_1 : decode cX2_read 1 = .ok (.invokevirtual 19, 3) := by decide +kernel
theorem dX2_read_4 : decode cX2_read 4 = .ok (.aload_n 0, 1) := by decide +kernel
theorem dX2_read_5 : decode cX2_read 5 = .ok (.iconst 0, 1) := by decide +kernel
theorem dX2_read_6 : decode cX2_read 6 = .ok (.putfield 24, 3) := by decide +kernel
theorem dX2_read_9 : decode cX2_read 9 = .ok (.aload_n 0, 1) := by decide +kernel
theorem dX2_read_10 : decode cX2_read 10 = .ok (.invokevirtual 27, 3) := by decide +kernel
theorem dX2_read_13 : decode cX2_read 13 = .ok (.iconst 0, 1) := by decide +kernel
theorem dX2_read_14 : decode cX2_read 14 = .ok (.istore_n 2, 1) := by decide +kernel
theorem dX2_read_15 : decode cX2_read 15 = .ok (.iload_n 2, 1) := by decide +kernel
theorem dX2_read_16 : decode cX2_read 16 = .ok (.sipush 700, 3) := by decide +kernel
theorem dX2_read_19 : decode cX2_read 19 = .ok (.if_icmp .ge 160, 3) := by decide +kernel
theorem dX2_read_22 : decode cX2_read 22 = .ok (.aload_n 0, 1) := by decide +kernel
theorem dX2_read_23 : decode cX2_read 23 = .ok (.getfield 30, 3) := by decide +kernel
theorem dX2_read_26 : decode cX2_read 26 = .ok (.ifCond .eq 153, 3) := by decide +kernel
theorem dX2_read_29 : decode cX2_read 29 = .ok (.aload_n 0, 1) := by decide +kernel
theorem dX2_read_30 : decode cX2_read 30 = .ok (.ldc 33, 2) := by decide +kernel
theorem dX2_read_32 : decode cX2_read 32 = .ok (.invokevirtual 35, 3) := by decide +kernel
theorem dX2_read_35 : decode cX2_read 35 = .ok (.ifCond .eq 12, 3) := by decide +kernel
theorem dX2_read_38 : decode cX2_read 38 = .ok (.aload_n 0, 1) := by decide +kernel
theorem dX2_read_39 : decode cX2_read 39 = .ok (.aload_n 1, 1) := by decide +kernel
theorem dX2_read_40 : decode cX2_read 40 = .ok (.invokevirtual 39, 3) := by decide +kernel
theorem dX2_read_43 : decode cX2_read 43 = .ok (.istore_n 3, 1) := by decide +kernel
theorem dX2_read_44 : decode cX2_read 44 = .ok (.goto 116, 3) := by decide +kernel
theorem dX2_read_47 : decode cX2_read 47 = .ok (.aload_n 0, 1) := by decide +kernel
theorem dX2_read_48 : decode cX2_read 48 = .ok (.ldc 43, 2) := by decide +kernel
theorem dX2_read_50 : decode cX2_read 50 = .ok (.invokevirtual 35, 3) := by decide +kernel
theorem dX2_read_53 : decode cX2_read 53 = .ok (.ifCond .eq 12, 3) := by decide +kernel
theorem dX2_read_56 : decode cX2_read 56 = .ok (.aload_n 0, 1) := by decide +kernel
theorem dX2_read_57 : decode cX2_read 57 = .ok (.aload_n 1, 1) := by decide +kernel
theorem dX2_read_58 : decode cX2_read 58 = .ok (.invokevirtual 45, 3) := by decide +kernel
theorem dX2_read_61 : decode cX2_read 61 = .ok (.istore_n 3, 1) := by decide +kernel
theorem dX2_read_62 : decode cX2_read 62 = .ok (.goto 98, 3) := by decide +kernel
theorem dX2_read_65 : decode cX2_read 65 = .ok (.aload_n 0, 1) := by decide +kernel
theorem dX2_read_66 : decode cX2_read 66 = .ok (.ldc 48, 2) := by decide +kernel
theorem dX2_read_68 : decode cX2_read 68 = .ok (.invokevirtual 35, 3) := by decide +kernel
theorem dX2_read_71 : decode cX2_read 71 = .ok (.ifCond .eq 12, 3) := by decide +kernel
theorem dX2_read_74 : decode cX2_read 74 = .ok (.aload_n 0, 1) := by decide +kernel
theorem dX2_read_75 : decode cX2_read 75 = .ok (.aload_n 1, 1) := by decide +kernel
theorem dX2_read_76 : decode cX2_read 76 = .ok (.invokevirtual 50, 3) := by decide +kernel
theorem dX2_read_79 : decode cX2_read 79 = .ok (.istore_n 3, 1) := by decide +kernel
theorem dX2_read_80 : decode cX2_read 80 = .ok (.goto 80, 3) := by decide +kernel
theorem dX2_read_83 : decode cX2_read 83 = .ok (.aload_n 0, 1) := by decide +kernel
theorem dX2_read_84 : decode cX2_read 84 = .ok (.ldc 53, 2) := by decide +kernel
theorem dX2_read_86 : decode cX2_read 86 = .ok (.invokevirtual 35, 3) := by decide +kernel
theorem dX2_read_89 : decode cX2_read 89 = .ok (.ifCond .eq 12, 3) := by decide +kernel
theorem dX2_read_92 : decode cX2_read 92 = .ok (.aload_n 0, 1) := by decide +kernel
theorem dX2_read_93 : decode cX2_read 93 = .ok (.aload_n 1, 1) := by decide +kernel
theorem dX2_read_94 : decode cX2_read 94 = .ok (.invokevirtual 55, 3) := by decide +kernel
theorem dX2_read_97 : decode cX2_read 97 = .ok (.istore_n 3, 1) := by decide +kernel
theorem dX2_read_98 : decode cX2_read 98 = .ok (.goto 62, 3) := by decide +kernel
theorem dX2_read_101 : decode cX2_read 101 = .ok (.aload_n 0, 1) := by decide +kernel
theorem dX2_read_102 : decode cX2_read 102 = .ok (.ldc 58, 2) := by decide +kernel
theorem dX2_read_104 : decode cX2_read 104 = .ok (.invokevirtual 35, 3) := by decide +kernel
theorem dX2_read_107 : decode cX2_read 107 = .ok (.ifCond .eq 12, 3) := by decide +kernel
theorem dX2_read_110 : decode cX2_read 110 = .ok (.aload_n 0, 1) := by decide +kernel
theorem dX2_read_111 : decode cX2_read 111 = .ok (.aload_n 1, 1) := by decide +kernel
theorem dX2_read_112 : decode cX2_read 112 = .ok (.invokevirtual 60, 3) := by decide +kernel
theorem dX2_read_115 : decode cX2_read 115 = .ok (.istore_n 3, 1) := by decide +kernel
theorem dX2_read_116 : decode cX2_read 116 = .ok (.goto 44, 3) := by decide +kernel
theorem dX2_read_119 : decode cX2_read 119 = .ok (.aload_n 0, 1) := by decide +kernel
theorem dX2_read_120 : decode cX2_read 120 = .ok (.ldc 63, 2) := by decide +kernel
theorem dX2_read_122 : decode cX2_read 122 = .ok (.invokevirtual 35, 3) := by decide +kernel
theorem dX2_read_125 : decode cX2_read 125 = .ok (.ifCond .eq 12, 3) := by decide +kernel
theorem dX2_read_128 : decode cX2_read 128 = .ok (.aload_n 0, 1) := by decide +kernel
theorem dX2_read_129 : decode cX2_read 129 = .ok (.aload_n 1, 1) := by decide +kernel
theorem dX2_read_130 : decode cX2_read 130 = .ok (.invokevirtual 65, 3) := by decide +kernel
theorem dX2_read_133 : decode cX2_read 133 = .ok (.istore_n 3, 1) := by decide +kernel
theorem dX2_read_134 : decode cX2_read 134 = .ok (.goto 26, 3) := by decide +kernel
theorem dX2_read_137 : decode cX2_read 137 = .ok (.aload_n 0, 1) := by decide +kernel
theorem dX2_read_138 : decode cX2_read 138 = .ok (.ldc 68, 2) := by decide +kernel
theorem dX2_read_140 : decode cX2_read 140 = .ok (.invokevirtual 35, 3) := by decide +kernel
theorem dX2_read_143 : decode cX2_read 143 = .ok (.ifCond .eq 15, 3) := by decide +kernel
theorem dX2_read_146 : decode cX2_read 146 = .ok (.aload_n 0, 1) := by decide +kernel
theorem dX2_read_147 : decode cX2_read 147 = .ok (.aload_n 1, 1) := by decide +kernel
theorem dX2_read_148 : decode cX2_read 148 = .ok (.invokevirtual 70, 3) := by decide +kernel
theorem dX2_read_151 : decode cX2_read 151 = .ok (.ifCond .eq 7, 3) := by decide +kernel
theorem dX2_read_154 : decode cX2_read 154 = .ok (.iconst 1, 1) := by decide +kernel
theorem dX2_read_155 : decode cX2_read 155 = .ok (.goto 4, 3) := by decide +kernel
theorem dX2_read_158 : decode cX2_read 158 = .ok (.iconst 0, 1) := by decide +kernel
theorem dX2_read_159 : decode cX2_read 159 = .ok (.istore_n 3, 1) := by decide +kernel
theorem dX2_read_160 : decode cX2_read 160 = .ok (.iload_n 3, 1) := by decide +kernel
theorem dX2_read_161 : decode cX2_read 161 = .ok (.ifCond .ne 8, 3) := by decide +kernel
theorem dX2_read_164 : decode cX2_read 164 = .ok (.aload_n 0, 1) := by decide +kernel
theorem dX2_read_165 : decode cX2_read 165 = .ok (.getfield 73, 3) := by decide +kernel
theorem dX2_read_168 : decode cX2_read 168 = .ok (.ireturn, 1) := by decide +kernel
theorem dX2_read_169 : decode cX2_read 169 = .ok (.aload_n 0, 1) := by decide +kernel
theorem dX2_read_170 : decode cX2_read 170 = .ok (.invokevirtual 27, 3) := by decide +kernel
theorem dX2_read_173 : decode cX2_read 173 = .ok (.iinc 2 1, 3) := by decide +kernel
theorem dX2_read_176 : decode cX2_read 176 = .ok (.goto (-161), 3) := by decide +kernel
theorem dX2_read_179 : decode cX2_read 179 = .ok (.iconst (-1), 1) := by decide +kernel
theorem dX2_read_180 : decode cX2_read 180 = .ok (.ireturn, 1) := by decide +kernel
theorem dX2_nameOfAll_0 : decode cX2_nameOfAll 0 = .ok (.aload_n 0, 1) := by decide +kernel
theorem dX2_nameOfAll_1 : decode cX2_nameOfAll 1 = .ok (.iconst 0, 1) := by decide +kernel
theorem dX2_nameOfAll_2 : decode cX2_nameOfAll 2 = .ok (.putfield 24, 3) := by decide +kernel
theorem dX2_nameOfAll_5 : decode cX2_nameOfAll 5 = .ok (.aload_n 0, 1) := by decide +kernel
theorem dX2_nameOfAll_6 : decode cX2_nameOfAll 6 = .ok (.invokevirtual 27, 3) := by decide +kernel
theorem dX2_nameOfAll_9 : decode cX2_nameOfAll 9 = .ok (.aload_n 0, 1) := by decide +kernel
theorem dX2_nameOfAll_10 : decode cX2_nameOfAll 10 = .ok (.getfield 30, 3) := by decide +kernel
theorem dX2_nameOfAll_13 : decode cX2_nameOfAll 13 = .ok (.iconst 1, 1) := by decide +kernel
theorem dX2_nameOfAll_14 : decode cX2_nameOfAll 14 = .ok (.if_icmp .ne 28, 3) := by decide +kernel
theorem dX2_nameOfAll_17 : decode cX2_nameOfAll 17 = .ok (.aload_n 0, 1) := by decide +kernel
theorem dX2_nameOfAll_18 : decode cX2_nameOfAll 18 = .ok (.getfield 73, 3) := by decide +kernel
theorem dX2_nameOfAll_21 : decode cX2_nameOfAll 21 = .ok (.ifCond .ne 21, 3) := by decide +kernel
theorem dX2_nameOfAll_24 : decode cX2_nameOfAll 24 = .ok (.aload_n 0, 1) := by decide +kernel
theorem dX2_nameOfAll_25 : decode cX2_nameOfAll 25 = .ok (.getfield 24, 3) := by decide +kernel
theorem dX2_nameOfAll_28 : decode cX2_nameOfAll 28 = .ok (.aload_n 0, 1) := by decide +kernel
theorem dX2_nameOfAll_29 : decode cX2_nameOfAll 29 = .ok (.getfield 15, 3) := by decide +kernel
theorem dX2_nameOfAll_32 : decode cX2_nameOfAll 32 = .ok (.if_icmp .ne 10, 3) := by decide +kernel
theorem dX2_nameOfAll_35 : decode cX2_nameOfAll 35 = .ok (.aload_n 0, 1) := by decide +kernel
theorem dX2_nameOfAll_36 : decode cX2_nameOfAll 36 = .ok (.getfield 76, 3) := by decide +kernel
theorem dX2_nameOfAll_39 : decode cX2_nameOfAll 39 = .ok (.goto 4, 3) := by decide +kernel
theorem dX2_nameOfAll_42 : decode cX2_nameOfAll 42 = .ok (.lconst 0, 1) := by decide +kernel
theorem dX2_nameOfAll_43 : decode cX2_nameOfAll 43 = .ok (.lreturn, 1) := by decide +kernel
theorem dX2_advance_0 : decode cX2_advance 0 = .ok (.aload_n 0, 1) := by decide +kernel
theorem dX2_advance_1 : decode cX2_advance 1 = .ok (.getfield 24, 3) := by decide +kernel
theorem dX2_advance_4 : decode cX2_advance 4 = .ok (.aload_n 0, 1) := by decide +kernel
theorem dX2_advance_5 : decode cX2_advance 5 = .ok (.getfield 15, 3) := by decide +kernel
theorem dX2_advance_8 : decode cX2_advance 8 = .ok (.if_icmp .ge 44, 3) := by decide +kernel
theorem dX2_advance_11 : decode cX2_advance 11 = .ok (.aload_n 0, 1) := by decide +kernel
theorem dX2_advance_12 : decode cX2_advance 12 = .ok (.getfield 9, 3) := by decide +kernel
theorem dX2_advance_15 : decode cX2_advance 15 = .ok (.aload_n 0, 1) := by decide +kernel
theorem dX2_advance_16 : decode cX2_advance 16 = .ok (.getfield 24, 3) := by decide +kernel
theorem dX2_advance_19 : decode cX2_advance 19 = .ok (.baload, 1) := by decide +kernel
theorem dX2_advance_20 : decode cX2_advance 20 = .ok (.bipush 32, 2) := by decide +kernel
theorem dX2_advance_22 : decode cX2_advance 22 = .ok (.if_icmp .eq 17, 3) := by decide +kernel
theorem dX2_advance_25 : decode cX2_advance 25 = .ok (.aload_n 0, 1) := by decide +kernel
theorem dX2_advance_26 : decode cX2_advance 26 = .ok (.getfield 9, 3) := by decide +kernel
theorem dX2_advance_29 : decode cX2_advance 29 = .ok (.aload_n 0, 1) := by decide +kernel
theorem dX2_advance_30 : decode cX2_advance 30 = .ok (.getfield 24, 3) := by decide +kernel
theorem dX2_advance_33 : decode cX2_advance 33 = .ok (.baload, 1) := by decide +kernel
theorem dX2_advance_34 : decode cX2_advance 34 = .ok (.bipush 10, 2) := by decide +kernel
theorem dX2_advance_36 : decode cX2_advance 36 = .ok (.if_icmp .ne 16, 3) := by decide +kernel
theorem dX2_advance_39 : decode cX2_advance 39 = .ok (.aload_n 0, 1) := by decide +kernel
theorem dX2_advance_40 : decode cX2_advance 40 = .ok (.dup, 1) := by decide +kernel
theorem dX2_advance_41 : decode cX2_advance 41 = .ok (.getfield 24, 3) := by decide +kernel
theorem dX2_advance_44 : decode cX2_advance 44 = .ok (.iconst 1, 1) := by decide +kernel
theorem dX2_advance_45 : decode cX2_advance 45 = .ok (.iadd, 1) := by decide +kernel
theorem dX2_advance_46 : decode cX2_advance 46 = .ok (.putfield 24, 3) := by decide +kernel
theorem dX2_advance_49 : decode cX2_advance 49 = .ok (.goto (-49), 3) := by decide +kernel
theorem dX2_advance_52 : decode cX2_advance 52 = .ok (.aload_n 0, 1) := by decide +kernel
theorem dX2_advance_53 : decode cX2_advance 53 = .ok (.aload_n 0, 1) := by decide +kernel
theorem dX2_advance_54 : decode cX2_advance 54 = .ok (.getfield 24, 3) := by decide +kernel
theorem dX2_advance_57 : decode cX2_advance 57 = .ok (.putfield 73, 3) := by decide +kernel
theorem dX2_advance_60 : decode cX2_advance 60 = .ok (.aload_n 0, 1) := by decide +kernel
theorem dX2_advance_61 : decode cX2_advance 61 = .ok (.getfield 24, 3) := by decide +kernel
theorem dX2_advance_64 : decode cX2_advance 64 = .ok (.aload_n 0, 1) := by decide +kernel
theorem dX2_advance_65 : decode cX2_advance 65 = .ok (.getfield 15, 3) := by decide +kernel
theorem dX2_advance_68 : decode cX2_advance 68 = .ok (.if_icmp .lt 11, 3) := by decide +kernel
theorem dX2_advance_71 : decode cX2_advance 71 = .ok (.aload_n 0, 1) := by decide +kernel
theorem dX2_advance_72 : decode cX2_advance 72 = .ok (.iconst 0, 1) := by decide +kernel
theorem dX2_advance_73 : decode cX2_advance 73 = .ok (.putfield 30, 3) := by decide +kernel
theorem dX2_advance_76 : decode cX2_advance 76 = .ok (.goto 106, 3) := by decide +kernel
theorem dX2_advance_79 : decode cX2_advance 79 = .ok (.aload_n 0, 1) := by decide +kernel
theorem dX2_advance_80 : decode cX2_advance 80 = .ok (.getfield 9, 3) := by decide +kernel
theorem dX2_advance_83 : decode cX2_advance 83 = .ok (.aload_n 0, 1) := by decide +kernel
theorem dX2_advance_84 : decode cX2_advance 84 = .ok (.getfield 24, 3) := by decide +kernel
theorem dX2_advance_87 : decode cX2_advance 87 = .ok (.baload, 1) := by decide +kernel
theorem dX2_advance_88 : decode cX2_advance 88 = .ok (.bipush 97, 2) := by decide +kernel
theorem dX2_advance_90 : decode cX2_advance 90 = .ok (.if_icmp .lt 24, 3) := by decide +kernel
theorem dX2_advance_93 : decode cX2_advance 93 = .ok (.aload_n 0, 1) := by decide +kernel
theorem dX2_advance_94 : decode cX2_advance 94 = .ok (.getfield 9, 3) := by decide +kernel
theorem dX2_advance_97 : decode cX2_advance 97 = .ok (.aload_n 0, 1) := by decide +kernel
theorem dX2_advance_98 : decode cX2_advance 98 = .ok (.getfield 24, 3) := by decide +kernel
theorem dX2_advance_101 : decode cX2_advance 101 = .ok (.baload, 1) := by decide +kernel
theorem dX2_advance_102 : decode cX2_advance 102 = .ok (.bipush 122, 2) := by decide +kernel
theorem dX2_advance_104 : decode cX2_advance 104 = .ok (.if_icmp .gt 10, 3) := by decide +kernel
theorem dX2_advance_107 : decode cX2_advance 107 = .ok (.aload_n 0, 1) := by decide +kernel
theorem dX2_advance_108 : decode cX2_advance 108 = .ok (.invokevirtual 80, 3) := by decide +kernel
theorem dX2_advance_111 : decode cX2_advance 111 = .ok (.goto 71, 3) := by decide +kernel
theorem dX2_advance_114 : decode cX2_advance 114 = .ok (.aload_n 0, 1) := by decide +kernel
theorem dX2_advance_115 : decode cX2_advance 115 = .ok (.getfield 9, 3) := by decide +kernel
theorem dX2_advance_118 : decode cX2_advance 118 = .ok (.aload_n 0, 1) := by decide +kernel
theorem dX2_advance_119 : decode cX2_advance 119 = .ok (.getfield 24, 3) := by decide +kernel
theorem dX2_advance_122 : decode cX2_advance 122 = .ok (.baload, 1) := by decide +kernel
theorem dX2_advance_123 : decode cX2_advance 123 = .ok (.bipush 48, 2) := by decide +kernel
theorem dX2_advance_125 : decode cX2_advance 125 = .ok (.if_icmp .lt 24, 3) := by decide +kernel
theorem dX2_advance_128 : decode cX2_advance 128 = .ok (.aload_n 0, 1) := by decide +kernel
theorem dX2_advance_129 : decode cX2_advance 129 = .ok (.getfield 9, 3) := by decide +kernel
theorem dX2_advance_132 : decode cX2_advance 132 = .ok (.aload_n 0, 1) := by decide +kernel
theorem dX2_advance_133 : decode cX2_advance 133 = .ok (.getfield 24, 3) := by decide +kernel
theorem dX2_advance_136 : decode cX2_advance 136 = .ok (.baload, 1) := by decide +kernel
theorem dX2_advance_137 : decode cX2_advance 137 = .ok (.bipush 57, 2) := by decide +kernel
theorem dX2_advance_139 : decode cX2_advance 139 = .ok (.if_icmp .gt 10, 3) := by decide +kernel
theorem dX2_advance_142 : decode cX2_advance 142 = .ok (.aload_n 0, 1) := by decide +kernel
theorem dX2_advance_143 : decode cX2_advance 143 = .ok (.invokevirtual 83, 3) := by decide +kernel
theorem dX2_advance_146 : decode cX2_advance 146 = .ok (.goto 36, 3) := by decide +kernel
theorem dX2_advance_149 : decode cX2_advance 149 = .ok (.aload_n 0, 1) := by decide +kernel
theorem dX2_advance_150 : decode cX2_advance 150 = .ok (.aload_n 0, 1) := by decide +kernel
theorem dX2_advance_151 : decode cX2_advance 151 = .ok (.getfield 9, 3) := by decide +kernel
theorem dX2_advance_154 : decode cX2_advance 154 = .ok (.aload_n 0, 1) := by decide +kernel
theorem dX2_advance_155 : decode cX2_advance 155 = .ok (.getfield 24, 3) := by decide +kernel
theorem dX2_advance_158 : decode cX2_advance 158 = .ok (.baload, 1) := by decide +kernel
theorem dX2_advance_159 : decode cX2_advance 159 = .ok (.bipush 59, 2) := by decide +kernel
theorem dX2_advance_161 : decode cX2_advance 161 = .ok (.if_icmp .ne 7, 3) := by decide +kernel
theorem dX2_advance_164 : decode cX2_advance 164 = .ok (.iconst 3, 1) := by decide +kernel
theorem dX2_advance_165 : decode cX2_advance 165 = .ok (.goto 4, 3) := by decide +kernel
theorem dX2_advance_168 : decode cX2_advance 168 = .ok (.iconst 4, 1) := by decide +kernel
theorem dX2_advance_169 : decode cX2_advance 169 = .ok (.putfield 30, 3) := by decide +kernel
theorem dX2_advance_172 : decode cX2_advance 172 = .ok (.aload_n 0, 1) := by decide +kernel
theorem dX2_advance_173 : decode cX2_advance 173 = .ok (.dup, 1) := by decide +kernel
theorem dX2_advance_174 : decode cX2_advance 174 = .ok (.getfield 24, 3) := by decide +kernel
theorem dX2_advance_177 : decode cX2_advance 177 = .ok (.iconst 1, 1) := by decide +kernel
theorem dX2_advance_178 : decode cX2_advance 178 = .ok (.iadd, 1) := by decide +kernel
theorem dX2_advance_179 : decode cX2_advance 179 = .ok (.putfield 24, 3) := by decide +kernel
theorem dX2_advance_182 : decode cX2_advance 182 = .ok (.return_, 1) := by decide +kernel
theorem dX2_takeWord_0 : decode cX2_takeWord 0 = .ok (.aload_n 0, 1) := by decide +kernel
theorem dX2_takeWord_1 : decode cX2_takeWord 1 = .ok (.lconst 0, 1) := by decide +kernel
theorem dX2_takeWord_2 : decode cX2_takeWord 2 = .ok (.putfield 76, 3) := by decide +kernel
theorem dX2_takeWord_5 : decode cX2_takeWord 5 = .ok (.aload_n 0, 1) := by decide +kernel
theorem dX2_takeWord_6 : decode cX2_takeWord 6 = .ok (.getfield 24, 3) := by decide +kernel
theorem dX2_takeWord_9 : decode cX2_takeWord 9 = .ok (.aload_n 0, 1) := by decide +kernel
theorem dX2_takeWord_10 : decode cX2_takeWord 10 = .ok (.getfield 15, 3) := by decide +kernel
theorem dX2_takeWord_13 : decode cX2_takeWord 13 = .ok (.if_icmp .ge 66, 3) := by decide +kernel
theorem dX2_takeWord_16 : decode cX2_takeWord 16 = .ok (.aload_n 0, 1) := by decide +kernel
theorem dX2_takeWord_17 : decode cX2_takeWord 17 = .ok (.getfield 9, 3) := by decide +kernel
theorem dX2_takeWord_20 : decode cX2_takeWord 20 = .ok (.aload_n 0, 1) := by decide +kernel
theorem dX2_takeWord_21 : decode cX2_takeWord 21 = .ok (.getfield 24, 3) := by decide +kernel
theorem dX2_takeWord_24 : decode cX2_takeWord 24 = .ok (.baload, 1) := by decide +kernel
theorem dX2_takeWord_25 : decode cX2_takeWord 25 = .ok (.bipush 97, 2) := by decide +kernel
theorem dX2_takeWord_27 : decode cX2_takeWord 27 = .ok (.if_icmp .lt 52, 3) := by decide +kernel
theorem dX2_takeWord_30 : decode cX2_takeWord 30 = .ok (.aload_n 0, 1) := by decide +kernel
theorem dX2_takeWord_31 : decode cX2_takeWord 31 = .ok (.getfield 9, 3) := by decide +kernel
theorem dX2_takeWord_34 : decode cX2_takeWord 34 = .ok (.aload_n 0, 1) := by decide +kernel
theorem dX2_takeWord_35 : decode cX2_takeWord 35 = .ok (.getfield 24, 3) := by decide +kernel
theorem dX2_takeWord_38 : decode cX2_takeWord 38 = .ok (.baload, 1) := by decide +kernel
theorem dX2_takeWord_39 : decode cX2_takeWord 39 = .ok (.bipush 122, 2) := by decide +kernel
theorem dX2_takeWord_41 : decode cX2_takeWord 41 = .ok (.if_icmp .gt 38, 3) := by decide +kernel
theorem dX2_takeWord_44 : decode cX2_takeWord 44 = .ok (.aload_n 0, 1) := by decide +kernel
theorem dX2_takeWord_45 : decode cX2_takeWord 45 = .ok (.aload_n 0, 1) := by decide +kernel
theorem dX2_takeWord_46 : decode cX2_takeWord 46 = .ok (.getfield 76, 3) := by decide +kernel
theorem dX2_takeWord_49 : decode cX2_takeWord 49 = .ok (.bipush 8, 2) := by decide +kernel
theorem dX2_takeWord_51 : decode cX2_takeWord 51 = .ok (.lshl, 1) := by decide +kernel
theorem dX2_takeWord_52 : decode cX2_takeWord 52 = .ok (.aload_n 0, 1) := by decide +kernel
theorem dX2_takeWord_53 : decode cX2_takeWord 53 = .ok (.getfield 9, 3) := by decide +kernel
theorem dX2_takeWord_56 : decode cX2_takeWord 56 = .ok (.aload_n 0, 1) := by decide +kernel
theorem dX2_takeWord_57 : decode cX2_takeWord 57 = .ok (.getfield 24, 3) := by decide +kernel
theorem dX2_takeWord_60 : decode cX2_takeWord 60 = .ok (.baload, 1) := by decide +kernel
theorem dX2_takeWord_61 : decode cX2_takeWord 61 = .ok (.i2l, 1) := by decide +kernel
theorem dX2_takeWord_62 : decode cX2_takeWord 62 = .ok (.lor, 1) := by decide +kernel
theorem dX2_takeWord_63 : decode cX2_takeWord 63 = .ok (.putfield 76, 3) := by decide +kernel
theorem dX2_takeWord_66 : decode cX2_takeWord 66 = .ok (.aload_n 0, 1) := by decide +kernel
theorem dX2_takeWord_67 : decode cX2_takeWord 67 = .ok (.dup, 1) := by decide +kernel
theorem dX2_takeWord_68 : decode cX2_takeWord 68 = .ok (.getfield 24, 3) := by decide +kernel
theorem dX2_takeWord_71 : decode cX2_takeWord 71 = .ok (.iconst 1, 1) := by decide +kernel
theorem dX2_takeWord_72 : decode cX2_takeWord 72 = .ok (.iadd, 1) := by decide +kernel
theorem dX2_takeWord_73 : decode cX2_takeWord 73 = .ok (.putfield 24, 3) := by decide +kernel
theorem dX2_takeWord_76 : decode cX2_takeWord 76 = .ok (.goto (-71), 3) := by decide +kernel
theorem dX2_takeWord_79 : decode cX2_takeWord 79 = .ok (.aload_n 0, 1) := by decide +kernel
theorem dX2_takeWord_80 : decode cX2_takeWord 80 = .ok (.aload_n 0, 1) := by decide +kernel
theorem dX2_takeWord_81 : decode cX2_takeWord 81 = .ok (.getfield 24, 3) := by decide +kernel
theorem dX2_takeWord_84 : decode cX2_takeWord 84 = .ok (.aload_n 0, 1) := by decide +kernel
theorem dX2_takeWord_85 : decode cX2_takeWord 85 = .ok (.getfield 73, 3) := by decide +kernel
theorem dX2_takeWord_88 : decode cX2_takeWord 88 = .ok (.isub, 1) := by decide +kernel
theorem dX2_takeWord_89 : decode cX2_takeWord 89 = .ok (.bipush 8, 2) := by decide +kernel
theorem dX2_takeWord_91 : decode cX2_takeWord 91 = .ok (.if_icmp .gt 7, 3) := by decide +kernel
theorem dX2_takeWord_94 : decode cX2_takeWord 94 = .ok (.iconst 1, 1) := by decide +kernel
theorem dX2_takeWord_95 : decode cX2_takeWord 95 = .ok (.goto 4, 3) := by decide +kernel
theorem dX2_takeWord_98 : decode cX2_takeWord 98 = .ok (.iconst 4, 1) := by decide +kernel
theorem dX2_takeWord_99 : decode cX2_takeWord 99 = .ok (.putfield 30, 3) := by decide +kernel
theorem dX2_takeWord_102 : decode cX2_takeWord 102 = .ok (.return_, 1) := by decide +kernel
theorem dX2_takeNumber_0 : decode cX2_takeNumber 0 = .ok (.aload_n 0, 1) := by decide +kernel
theorem dX2_takeNumber_1 : decode cX2_takeNumber 1 = .ok (.iconst 0, 1) := by decide +kernel
theorem dX2_takeNumber_2 : decode cX2_takeNumber 2 = .ok (.putfield 86, 3) := by decide +kernel
theorem dX2_takeNumber_5 : decode cX2_takeNumber 5 = .ok (.aload_n 0, 1) := by decide +kernel
theorem dX2_takeNumber_6 : decode cX2_takeNumber 6 = .ok (.getfield 24, 3) := by decide +kernel
theorem dX2_takeNumber_9 : decode cX2_takeNumber 9 = .ok (.aload_n 0, 1) := by decide +kernel
theorem dX2_takeNumber_10 : decode cX2_takeNumber 10 = .ok (.getfield 15, 3) := by decide +kernel
theorem dX2_takeNumber_13 : decode cX2_takeNumber 13 = .ok (.if_icmp .ge 68, 3) := by decide +kernel
theorem dX2_takeNumber_16 : decode cX2_takeNumber 16 = .ok (.aload_n 0, 1) := by decide +kernel
theorem dX2_takeNumber_17 : decode cX2_takeNumber 17 = .ok (.getfield 9, 3) := by decide +kernel
theorem dX2_takeNumber_20 : decode cX2_takeNumber 20 = .ok (.aload_n 0, 1) := by decide +kernel
theorem dX2_takeNumber_21 : decode cX2_takeNumber 21 = .ok (.getfield 24, 3) := by decide +kernel
theorem dX2_takeNumber_24 : decode cX2_takeNumber 24 = .ok (.baload, 1) := by decide +kernel
theorem dX2_takeNumber_25 : decode cX2_takeNumber 25 = .ok (.bipush 48, 2) := by decide +kernel
theorem dX2_takeNumber_27 : decode cX2_takeNumber 27 = .ok (.if_icmp .lt 54, 3) := by decide +kernel
theorem dX2_takeNumber_30 : decode cX2_takeNumber 30 = .ok (.aload_n 0, 1) := by decide +kernel
theorem dX2_takeNumber_31 : decode cX2_takeNumber 31 = .ok (.getfield 9, 3) := by decide +kernel
theorem dX2_takeNumber_34 : decode cX2_takeNumber 34 = .ok (.aload_n 0, 1) := by decide +kernel
theorem dX2_takeNumber_35 : decode cX2_takeNumber 35 = .ok (.getfield 24, 3) := by decide +kernel
theorem dX2_takeNumber_38 : decode cX2_takeNumber 38 = .ok (.baload, 1) := by decide +kernel
theorem dX2_takeNumber_39 : decode cX2_takeNumber 39 = .ok (.bipush 57, 2) := by decide +kernel
theorem dX2_takeNumber_41 : decode cX2_takeNumber 41 = .ok (.if_icmp .gt 40, 3) := by decide +kernel
theorem dX2_takeNumber_44 : decode cX2_takeNumber 44 = .ok (.aload_n 0, 1) := by decide +kernel
theorem dX2_takeNumber_45 : decode cX2_takeNumber 45 = .ok (.aload_n 0, 1) := by decide +kernel
theorem dX2_takeNumber_46 : decode cX2_takeNumber 46 = .ok (.getfield 86, 3) := by decide +kernel
theorem dX2_takeNumber_49 : decode cX2_takeNumber 49 = .ok (.bipush 10, 2) := by decide +kernel
theorem dX2_takeNumber_51 : decode cX2_takeNumber 51 = .ok (.imul, 1) := by decide +kernel
theorem dX2_takeNumber_52 : decode cX2_takeNumber 52 = .ok (.aload_n 0, 1) := by decide +kernel
theorem dX2_takeNumber_53 : decode cX2_takeNumber 53 = .ok (.getfield 9, 3) := by decide +kernel
theorem dX2_takeNumber_56 : decode cX2_takeNumber 56 = .ok (.aload_n 0, 1) := by decide +kernel
theorem dX2_takeNumber_57 : decode cX2_takeNumber 57 = .ok (.getfield 24, 3) := by decide +kernel
theorem dX2_takeNumber_60 : decode cX2_takeNumber 60 = .ok (.baload, 1) := by decide +kernel
theorem dX2_takeNumber_61 : decode cX2_takeNumber 61 = .ok (.iadd, 1) := by decide +kernel
theorem dX2_takeNumber_62 : decode cX2_takeNumber 62 = .ok (.bipush 48, 2) := by decide +kernel
theorem dX2_takeNumber_64 : decode cX2_takeNumber 64 = .ok (.isub, 1) := by decide +kernel
theorem dX2_takeNumber_65 : decode cX2_takeNumber 65 = .ok (.putfield 86, 3) := by decide +kernel
theorem dX2_takeNumber_68 : decode cX2_takeNumber 68 = .ok (.aload_n 0, 1) := by decide +kernel
theorem dX2_takeNumber_69 : decode cX2_takeNumber 69 = .ok (.dup, 1) := by decide +kernel
theorem dX2_takeNumber_70 : decode cX2_takeNumber 70 = .ok (.getfield 24, 3) := by decide +kernel
theorem dX2_takeNumber_73 : decode cX2_takeNumber 73 = .ok (.iconst 1, 1) := by decide +kernel
theorem dX2_takeNumber_74 : decode cX2_takeNumber 74 = .ok (.iadd, 1) := by decide +kernel
theorem dX2_takeNumber_75 : decode cX2_takeNumber 75 = .ok (.putfield 24, 3) := by decide +kernel
theorem dX2_takeNumber_78 : decode cX2_takeNumber 78 = .ok (.goto (-73), 3) := by decide +kernel
theorem dX2_takeNumber_81 : decode cX2_takeNumber 81 = .ok (.aload_n 0, 1) := by decide +kernel
theorem dX2_takeNumber_82 : decode cX2_takeNumber 82 = .ok (.aload_n 0, 1) := by decide +kernel
theorem dX2_takeNumber_83 : decode cX2_takeNumber 83 = .ok (.getfield 24, 3) := by decide +kernel
theorem dX2_takeNumber_86 : decode cX2_takeNumber 86 = .ok (.aload_n 0, 1) := by decide +kernel
theorem dX2_takeNumber_87 : decode cX2_takeNumber 87 = .ok (.getfield 73, 3) := by decide +kernel
theorem dX2_takeNumber_90 : decode cX2_takeNumber 90 = .ok (.isub, 1) := by decide +kernel
theorem dX2_takeNumber_91 : decode cX2_takeNumber 91 = .ok (.iconst 3, 1) := by decide +kernel
theorem dX2_takeNumber_92 : decode cX2_takeNumber 92 = .ok (.if_icmp .gt 7, 3) := by decide +kernel
theorem dX2_takeNumber_95 : decode cX2_takeNumber 95 = .ok (.iconst 2, 1) := by decide +kernel
theorem dX2_takeNumber_96 : decode cX2_takeNumber 96 = .ok (.goto 4, 3) := by decide +kernel
theorem dX2_takeNumber_99 : decode cX2_takeNumber 99 = .ok (.iconst 4, 1) := by decide +kernel
theorem dX2_takeNumber_100 : decode cX2_takeNumber 100 = .ok (.putfield 30, 3) := by decide +kernel
theorem dX2_takeNumber_103 : decode cX2_takeNumber 103 = .ok (.return_, 1) := by decide +kernel
theorem dX2_isWord_0 : decode cX2_isWord 0 = .ok (.aload_n 0, 1) := by decide +kernel
theorem dX2_isWord_1 : decode cX2_isWord 1 = .ok (.getfield 30, 3) := by decide +kernel
theorem dX2_isWord_4 : decode cX2_isWord 4 = .ok (.iconst 1, 1) := by decide +kernel
theorem dX2_isWord_5 : decode cX2_isWord 5 = .ok (.if_icmp .ne 19, 3) := by decide +kernel
theorem dX2_isWord_8 : decode cX2_isWord 8 = .ok (.aload_n 0, 1) := by decide +kernel
theorem dX2_isWord_9 : decode cX2_isWord 9 = .ok (.getfield 24, 3) := by decide +kernel
theorem dX2_isWord_12 : decode cX2_isWord 12 = .ok (.aload_n 0, 1) := by decide +kernel
theorem dX2_isWord_13 : decode cX2_isWord 13 = .ok (.getfield 73, 3) := by decide +kernel
theorem dX2_isWord_16 : decode cX2_isWord 16 = .ok (.isub, 1) := by decide +kernel
theorem dX2_isWord_17 : decode cX2_isWord 17 = .ok (.aload_n 1, 1) := by decide +kernel
theorem dX2_isWord_18 : decode cX2_isWord 18 = .ok (.invokevirtual 89, 3) := by decide +kernel
theorem dX2_isWord_21 : decode cX2_isWord 21 = .ok (.if_icmp .eq 5, 3) := by decide +kernel
theorem dX2_isWord_24 : decode cX2_isWord 24 = .ok (.iconst 0, 1) := by decide +kernel
theorem dX2_isWord_25 : decode cX2_isWord 25 = .ok (.ireturn, 1) := by decide +kernel
theorem dX2_isWord_26 : decode cX2_isWord 26 = .ok (.iconst 0, 1) := by decide +kernel
theorem dX2_isWord_27 : decode cX2_isWord 27 = .ok (.istore_n 2, 1) := by decide +kernel
theorem dX2_isWord_28 : decode cX2_isWord 28 = .ok (.iload_n 2, 1) := by decide +kernel
theorem dX2_isWord_29 : decode cX2_isWord 29 = .ok (.aload_n 1, 1) := by decide +kernel
theorem dX2_isWord_30 : decode cX2_isWord 30 = .ok (.invokevirtual 89, 3) := by decide +kernel
theorem dX2_isWord_33 : decode cX2_isWord 33 = .ok (.if_icmp .ge 30, 3) := by decide +kernel
theorem dX2_isWord_36 : decode cX2_isWord 36 = .ok (.aload_n 0, 1) := by decide +kernel
theorem dX2_isWord_37 : decode cX2_isWord 37 = .ok (.getfield 9, 3) := by decide +kernel
theorem dX2_isWord_40 : decode cX2_isWord 40 = .ok (.aload_n 0, 1) := by decide +kernel
theorem dX2_isWord_41 : decode cX2_isWord 41 = .ok (.getfield 73, 3) := by decide +kernel
theorem dX2_isWord_44 : decode cX2_isWord 44 = .ok (.iload_n 2, 1) := by decide +kernel
theorem dX2_isWord_45 : decode cX2_isWord 45 = .ok (.iadd, 1) := by decide +kernel
theorem dX2_isWord_46 : decode cX2_isWord 46 = .ok (.baload, 1) := by decide +kernel
theorem dX2_isWord_47 : decode cX2_isWord 47 = .ok (.aload_n 1, 1) := by decide +kernel
theorem dX2_isWord_48 : decode cX2_isWord 48 = .ok (.iload_n 2, 1) := by decide +kernel
theorem dX2_isWord_49 : decode cX2_isWord 49 = .ok (.invokevirtual 94, 3) := by decide +kernel
theorem dX2_isWord_52 : decode cX2_isWord 52 = .ok (.if_icmp .eq 5, 3) := by decide +kernel
theorem dX2_isWord_55 : decode cX2_isWord 55 = .ok (.iconst 0, 1) := by decide +kernel
theorem dX2_isWord_56 : decode cX2_isWord 56 = .ok (.ireturn, 1) := by decide +kernel
theorem dX2_isWord_57 : decode cX2_isWord 57 = .ok (.iinc 2 1, 3) := by decide +kernel
theorem dX2_isWord_60 : decode cX2_isWord 60 = .ok (.goto (-32), 3) := by decide +kernel
theorem dX2_isWord_63 : decode cX2_isWord 63 = .ok (.iconst 1, 1) := by decide +kernel
theorem dX2_isWord_64 : decode cX2_isWord 64 = .ok (.ireturn, 1) := by decide +kernel
theorem dX2_readNumber_0 : decode cX2_readNumber 0 = .ok (.aload_n 0, 1) := by decide +kernel
theorem dX2_readNumber_1 : decode cX2_readNumber 1 = .ok (.invokevirtual 27, 3) := by decide +kernel
theorem dX2_readNumber_4 : decode cX2_readNumber 4 = .ok (.aload_n 0, 1) := by decide +kernel
theorem dX2_readNumber_5 : decode cX2_readNumber 5 = .ok (.getfield 30, 3) := by decide +kernel
theorem dX2_readNumber_8 : decode cX2_readNumber 8 = .ok (.iconst 2, 1) := by decide +kernel
theorem dX2_readNumber_9 : decode cX2_readNumber 9 = .ok (.if_icmp .ne 23, 3) := by decide +kernel
theorem dX2_readNumber_12 : decode cX2_readNumber 12 = .ok (.aload_n 0, 1) := by decide +kernel
theorem dX2_readNumber_13 : decode cX2_readNumber 13 = .ok (.getfield 86, 3) := by decide +kernel
theorem dX2_readNumber_16 : decode cX2_readNumber 16 = .ok (.iload_n 1, 1) := by decide +kernel
theorem dX2_readNumber_17 : decode cX2_readNumber 17 = .ok (.if_icmp .lt 15, 3) := by decide +kernel
theorem dX2_readNumber_20 : decode cX2_readNumber 20 = .ok (.aload_n 0, 1) := by decide +kernel
theorem dX2_readNumber_21 : decode cX2_readNumber 21 = .ok (.getfield 86, 3) := by decide +kernel
theorem dX2_readNumber_24 : decode cX2_readNumber 24 = .ok (.iload_n 2, 1) := by decide +kernel
theorem dX2_readNumber_25 : decode cX2_readNumber 25 = .ok (.if_icmp .gt 7, 3) := by decide +kernel
theorem dX2_readNumber_28 : decode cX2_readNumber 28 = .ok (.iconst 1, 1) := by decide +kernel
theorem dX2_readNumber_29 : decode cX2_readNumber 29 = .ok (.goto 4, 3) := by decide +kernel
theorem dX2_readNumber_32 : decode cX2_readNumber 32 = .ok (.iconst 0, 1) := by decide +kernel
theorem dX2_readNumber_33 : decode cX2_readNumber 33 = .ok (.ireturn, 1) := by decide +kernel
theorem dX2_readEnd_0 : decode cX2_readEnd 0 = .ok (.aload_n 0, 1) := by decide +kernel
theorem dX2_readEnd_1 : decode cX2_readEnd 1 = .ok (.invokevirtual 27, 3) := by decide +kernel
theorem dX2_readEnd_4 : decode cX2_readEnd 4 = .ok (.aload_n 0, 1) := by decide +kernel
theorem dX2_readEnd_5 : decode cX2_readEnd 5 = .ok (.getfield 30, 3) := by decide +kernel
theorem dX2_readEnd_8 : decode cX2_readEnd 8 = .ok (.iconst 3, 1) := by decide +kernel
theorem dX2_readEnd_9 : decode cX2_readEnd 9 = .ok (.if_icmp .ne 7, 3) := by decide +kernel
theorem dX2_readEnd_12 : decode cX2_readEnd 12 = .ok (.iconst 1, 1) := by decide +kernel
theorem dX2_readEnd_13 : decode cX2_readEnd 13 = .ok (.goto 4, 3) := by decide +kernel
theorem dX2_readEnd_16 : decode cX2_readEnd 16 = .ok (.iconst 0, 1) := by decide +kernel
theorem dX2_readEnd_17 : decode cX2_readEnd 17 = .ok (.ireturn, 1) := by decide +kernel
theorem dX2_readRoom_0 : decode cX2_readRoom 0 = .ok (.aload_n 1, 1) := by decide +kernel
theorem dX2_readRoom_1 : decode cX2_readRoom 1 = .ok (.getfield 98, 3) := by decide +kernel
theorem dX2_readRoom_4 : decode cX2_readRoom 4 = .ok (.bipush 8, 2) := by decide +kernel
theorem dX2_readRoom_6 : decode cX2_readRoom 6 = .ok (.if_icmp .lt 5, 3) := by decide +kernel
theorem dX2_readRoom_9 : decode cX2_readRoom 9 = .ok (.iconst 0, 1) := by decide +kernel
theorem dX2_readRoom_10 : decode cX2_readRoom 10 = .ok (.ireturn, 1) := by decide +kernel
theorem dX2_readRoom_11 : decode cX2_readRoom 11 = .ok (.aload_n 1, 1) := by decide +kernel
theorem dX2_readRoom_12 : decode cX2_readRoom 12 = .ok (.getfield 101, 3) := by decide +kernel
theorem dX2_readRoom_15 : decode cX2_readRoom 15 = .ok (.aload_n 1, 1) := by decide +kernel
theorem dX2_readRoom_16 : decode cX2_readRoom 16 = .ok (.getfield 98, 3) := by decide +kernel
theorem dX2_readRoom_19 : decode cX2_readRoom 19 = .ok (.aaload, 1) := by decide +kernel
theorem dX2_readRoom_20 : decode cX2_readRoom 20 = .ok (.astore_n 2, 1) := by decide +kernel
theorem dX2_readRoom_21 : decode cX2_readRoom 21 = .ok (.aload_n 0, 1) := by decide +kernel
theorem dX2_readRoom_22 : decode cX2_readRoom 22 = .ok (.invokevirtual 27, 3) := by decide +kernel
theorem dX2_readRoom_25 : decode cX2_readRoom 25 = .ok (.aload_n 0, 1) := by decide +kernel
theorem dX2_readRoom_26 : decode cX2_readRoom 26 = .ok (.getfield 30, 3) := by decide +kernel
theorem dX2_readRoom_29 : decode cX2_readRoom 29 = .ok (.iconst 1, 1) := by decide +kernel
theorem dX2_readRoom_30 : decode cX2_readRoom 30 = .ok (.if_icmp .ne 15, 3) := by decide +kernel
theorem dX2_readRoom_33 : decode cX2_readRoom 33 = .ok (.aload_n 1, 1) := by decide +kernel
theorem dX2_readRoom_34 : decode cX2_readRoom 34 = .ok (.aload_n 0, 1) := by decide +kernel
theorem dX2_readRoom_35 : decode cX2_readRoom 35 = .ok (.getfield 76, 3) := by decide +kernel
theorem dX2_readRoom_38 : decode cX2_readRoom 38 = .ok (.invokevirtual 105, 3) := by decide +kernel
theorem dX2_readRoom_41 : decode cX2_readRoom 41 = .ok (.iconst (-1), 1) := by decide +kernel
theorem dX2_readRoom_42 : decode cX2_readRoom 42 = .ok (.if_icmp .eq 5, 3) := by decide +kernel
theorem dX2_readRoom_45 : decode cX2_readRoom 45 = .ok (.iconst 0, 1) := by decide +kernel
theorem dX2_readRoom_46 : decode cX2_readRoom 46 = .ok (.ireturn, 1) := by decide +kernel
theorem dX2_readRoom_47 : decode cX2_readRoom 47 = .ok (.aload_n 2, 1) := by decide +kernel
theorem dX2_readRoom_48 : decode cX2_readRoom 48 = .ok (.aload_n 0, 1) := by decide +kernel
theorem dX2_readRoom_49 : decode cX2_readRoom 49 = .ok (.getfield 76, 3) := by decide +kernel
theorem dX2_readRoom_52 : decode cX2_readRoom 52 = .ok (.putfield 109, 3) := by decide +kernel
theorem dX2_readRoom_55 : decode cX2_readRoom 55 = .ok (.aload_n 0, 1) := by decide +kernel
theorem dX2_readRoom_56 : decode cX2_readRoom 56 = .ok (.invokevirtual 27, 3) := by decide +kernel
theorem dX2_readRoom_59 : decode cX2_readRoom 59 = .ok (.aload_n 2, 1) := by decide +kernel
theorem dX2_readRoom_60 : decode cX2_readRoom 60 = .ok (.aload_n 0, 1) := by decide +kernel
theorem dX2_readRoom_61 : decode cX2_readRoom 61 = .ok (.invokevirtual 114, 3) := by decide +kernel
theorem dX2_readRoom_64 : decode cX2_readRoom 64 = .ok (.putfield 117, 3) := by decide +kernel
theorem dX2_readRoom_67 : decode cX2_readRoom 67 = .ok (.aload_n 2, 1) := by decide +kernel
theorem dX2_readRoom_68 : decode cX2_readRoom 68 = .ok (.getfield 117, 3) := by decide +kernel
theorem dX2_readRoom_71 : decode cX2_readRoom 71 = .ok (.iconst (-1), 1) := by decide +kernel
theorem dX2_readRoom_72 : decode cX2_readRoom 72 = .ok (.if_icmp .eq 13, 3) := by decide +kernel
theorem dX2_readRoom_75 : decode cX2_readRoom 75 = .ok (.aload_n 0, 1) := by decide +kernel
theorem dX2_readRoom_76 : decode cX2_readRoom 76 = .ok (.iconst 1, 1) := by decide +kernel
theorem dX2_readRoom_77 : decode cX2_readRoom 77 = .ok (.bipush 10, 2) := by decide +kernel
theorem dX2_readRoom_79 : decode cX2_readRoom 79 = .ok (.invokevirtual 120, 3) := by decide +kernel
theorem dX2_readRoom_82 : decode cX2_readRoom 82 = .ok (.ifCond .ne 5, 3) := by decide +kernel
theorem dX2_readRoom_85 : decode cX2_readRoom 85 = .ok (.iconst 0, 1) := by decide +kernel
theorem dX2_readRoom_86 : decode cX2_readRoom 86 = .ok (.ireturn, 1) := by decide +kernel
theorem dX2_readRoom_87 : decode cX2_readRoom 87 = .ok (.aload_n 2, 1) := by decide +kernel
theorem dX2_readRoom_88 : decode cX2_readRoom 88 = .ok (.aload_n 0, 1) := by decide +kernel
theorem dX2_readRoom_89 : decode cX2_readRoom 89 = .ok (.getfield 86, 3) := by decide +kernel
theorem dX2_readRoom_92 : decode cX2_readRoom 92 = .ok (.putfield 124, 3) := by decide +kernel
theorem dX2_readRoom_95 : decode cX2_readRoom 95 = .ok (.aload_n 0, 1) := by decide +kernel
theorem dX2_readRoom_96 : decode cX2_readRoom 96 = .ok (.iconst 0, 1) := by decide +kernel
theorem dX2_readRoom_97 : decode cX2_readRoom 97 = .ok (.bipush 99, 2) := by decide +kernel
theorem dX2_readRoom_99 : decode cX2_readRoom 99 = .ok (.invokevirtual 120, 3) := by decide +kernel
theorem dX2_readRoom_102 : decode cX2_readRoom 102 = .ok (.ifCond .ne 5, 3) := by decide +kernel
theorem dX2_readRoom_105 : decode cX2_readRoom 105 = .ok (.iconst 0, 1) := by decide +kernel
theorem dX2_readRoom_106 : decode cX2_readRoom 106 = .ok (.ireturn, 1) := by decide +kernel
theorem dX2_readRoom_107 : decode cX2_readRoom 107 = .ok (.aload_n 2, 1) := by decide +kernel
theorem dX2_readRoom_108 : decode cX2_readRoom 108 = .ok (.aload_n 0, 1) := by decide +kernel
theorem dX2_readRoom_109 : decode cX2_readRoom 109 = .ok (.getfield 86, 3) := by decide +kernel
theorem dX2_readRoom_112 : decode cX2_readRoom 112 = .ok (.putfield 127, 3) := by decide +kernel
theorem dX2_readRoom_115 : decode cX2_readRoom 115 = .ok (.aload_n 0, 1) := by decide +kernel
theorem dX2_readRoom_116 : decode cX2_readRoom 116 = .ok (.iconst 1, 1) := by decide +kernel
theorem dX2_readRoom_117 : decode cX2_readRoom 117 = .ok (.sipush 200, 3) := by decide +kernel
theorem dX2_readRoom_120 : decode cX2_readRoom 120 = .ok (.invokevirtual 120, 3) := by decide +kernel
theorem dX2_readRoom_123 : decode cX2_readRoom 123 = .ok (.ifCond .ne 5, 3) := by decide +kernel
theorem dX2_readRoom_126 : decode cX2_readRoom 126 = .ok (.iconst 0, 1) := by decide +kernel
theorem dX2_readRoom_127 : decode cX2_readRoom 127 = .ok (.ireturn, 1) := by decide +kernel
theorem dX2_readRoom_128 : decode cX2_readRoom 128 = .ok (.aload_n 2, 1) := by decide +kernel
theorem dX2_readRoom_129 : decode cX2_readRoom 129 = .ok (.aload_n 0, 1) := by decide +kernel
theorem dX2_readRoom_130 : decode cX2_readRoom 130 = .ok (.getfield 86, 3) := by decide +kernel
theorem dX2_readRoom_133 : decode cX2_readRoom 133 = .ok (.putfield 130, 3) := by decide +kernel
theorem dX2_readRoom_136 : decode cX2_readRoom 136 = .ok (.aload_n 0, 1) := by decide +kernel
theorem dX2_readRoom_137 : decode cX2_readRoom 137 = .ok (.invokevirtual 133, 3) := by decide +kernel
theorem dX2_readRoom_140 : decode cX2_readRoom 140 = .ok (.ifCond .ne 5, 3) := by decide +kernel
theorem dX2_readRoom_143 : decode cX2_readRoom 143 = .ok (.iconst 0, 1) := by decide +kernel
theorem dX2_readRoom_144 : decode cX2_readRoom 144 = .ok (.ireturn, 1) := by decide +kernel
theorem dX2_readRoom_145 : decode cX2_readRoom 145 = .ok (.aload_n 1, 1) := by decide +kernel
theorem dX2_readRoom_146 : decode cX2_readRoom 146 = .ok (.dup, 1) := by decide +kernel
theorem dX2_readRoom_147 : decode cX2_readRoom 147 = .ok (.getfield 98, 3) := by decide +kernel
theorem dX2_readRoom_150 : decode cX2_readRoom 150 = .ok (.iconst 1, 1) := by decide +kernel
theorem dX2_readRoom_151 : decode cX2_readRoom 151 = .ok (.iadd, 1) := by decide +kernel
theorem dX2_readRoom_152 : decode cX2_readRoom 152 = .ok (.putfield 98, 3) := by decide +kernel
theorem dX2_readRoom_155 : decode cX2_readRoom 155 = .ok (.aload_n 1, 1) := by decide +kernel
theorem dX2_readRoom_156 : decode cX2_readRoom 156 = .ok (.dup, 1) := by decide +kernel
theorem dX2_readRoom_157 : decode cX2_readRoom 157 = .ok (.getfield 137, 3) := by decide +kernel
theorem dX2_readRoom_160 : decode cX2_readRoom 160 = .ok (.aload_n 2, 1) := by decide +kernel
theorem dX2_readRoom_161 : decode cX2_readRoom 161 = .ok (.getfield 124, 3) := by decide +kernel
theorem dX2_readRoom_164 : decode cX2_readRoom 164 = .ok (.iadd, 1) := by decide +kernel
theorem dX2_readRoom_165 : decode cX2_readRoom 165 = .ok (.putfield 137, 3) := by decide +kernel
theorem dX2_readRoom_168 : decode cX2_readRoom 168 = .ok (.iconst 1, 1) := by decide +kernel
theorem dX2_readRoom_169 : decode cX2_readRoom 169 = .ok (.ireturn, 1) := by decide +kernel
theorem dX2_kindTold_0 : decode cX2_kindTold 0 = .ok (.aload_n 0, 1) := by decide +kernel
theorem dX2_kindTold_1 : decode cX2_kindTold 1 = .ok (.ldc 140, 2) := by decide +kernel
theorem dX2_kindTold_3 : decode cX2_kindTold 3 = .ok (.invokevirtual 35, 3) := by decide +kernel
theorem dX2_kindTold_6 : decode cX2_kindTold 6 = .ok (.ifCond .eq 5, 3) := by decide +kernel
theorem dX2_kindTold_9 : decode cX2_kindTold 9 = .ok (.iconst 0, 1) := by decide +kernel
theorem dX2_kindTold_10 : decode cX2_kindTold 10 = .ok (.ireturn, 1) := by decide +kernel
theorem dX2_kindTold_11 : decode cX2_kindTold 11 = .ok (.aload_n 0, 1) := by decide +kernel
theorem dX2_kindTold_12 : decode cX2_kindTold 12 = .ok (.ldc 142, 2) := by decide +kernel
theorem dX2_kindTold_14 : decode cX2_kindTold 14 = .ok (.invokevirtual 35, 3) := by decide +kernel
theorem dX2_kindTold_17 : decode cX2_kindTold 17 = .ok (.ifCond .eq 5, 3) := by decide +kernel
theorem dX2_kindTold_20 : decode cX2_kindTold 20 = .ok (.iconst 1, 1) := by decide +kernel
theorem dX2_kindTold_21 : decode cX2_kindTold 21 = .ok (.ireturn, 1) := by decide +kernel
theorem dX2_kindTold_22 : decode cX2_kindTold 22 = .ok (.aload_n 0, 1) := by decide +kernel
theorem dX2_kindTold_23 : decode cX2_kindTold 23 = .ok (.ldc 144, 2) := by decide +kernel
theorem dX2_kindTold_25 : decode cX2_kindTold 25 = .ok (.invokevirtual 35, 3) := by decide +kernel
theorem dX2_kindTold_28 : decode cX2_kindTold 28 = .ok (.ifCond .eq 7, 3) := by decide +kernel
theorem dX2_kindTold_31 : decode cX2_kindTold 31 = .ok (.iconst 2, 1) := by decide +kernel
theorem dX2_kindTold_32 : decode cX2_kindTold 32 = .ok (.goto 4, 3) := by decide +kernel
theorem dX2_kindTold_35 : decode cX2_kindTold 35 = .ok (.iconst (-1), 1) := by decide +kernel
theorem dX2_kindTold_36 : decode cX2_kindTold 36 = .ok (.ireturn, 1) := by decide +kernel
theorem dX2_readBook_0 : decode cX2_readBook 0 = .ok (.aload_n 1, 1) := by decide +kernel
theorem dX2_readBook_1 : decode cX2_readBook 1 = .ok (.getfield 146, 3) := by decide +kernel
theorem dX2_readBook_4 : decode cX2_readBook 4 = .ok (.bipush 16, 2) := by decide +kernel
theorem dX2_readBook_6 : decode cX2_readBook 6 = .ok (.if_icmp .lt 5, 3) := by decide +kernel
theorem dX2_readBook_9 : decode cX2_readBook 9 = .ok (.iconst 0, 1) := by decide +kernel
theorem dX2_readBook_10 : decode cX2_readBook 10 = .ok (.ireturn, 1) := by decide +kernel
theorem dX2_readBook_11 : decode cX2_readBook 11 = .ok (.aload_n 1, 1) := by decide +kernel
theorem dX2_readBook_12 : decode cX2_readBook 12 = .ok (.getfield 149, 3) := by decide +kernel
theorem dX2_readBook_15 : decode cX2_readBook 15 = .ok (.aload_n 1, 1) := by decide +kernel
theorem dX2_readBook_16 : decode cX2_readBook 16 = .ok (.getfield 146, 3) := by decide +kernel
theorem dX2_readBook_19 : decode cX2_readBook 19 = .ok (.aaload, 1) := by decide +kernel
theorem dX2_readBook_20 : decode cX2_readBook 20 = .ok (.astore_n 2, 1) := by decide +kernel
theorem dX2_readBook_21 : decode cX2_readBook 21 = .ok (.aload_n 0, 1) := by decide +kernel
theorem dX2_readBook_22 : decode cX2_readBook 22 = .ok (.invokevirtual 27, 3) := by decide +kernel
theorem dX2_readBook_25 : decode cX2_readBook 25 = .ok (.aload_n 0, 1) := by decide +kernel
theorem dX2_readBook_26 : decode cX2_readBook 26 = .ok (.getfield 30, 3) := by decide +kernel
theorem dX2_readBook_29 : decode cX2_readBook 29 = .ok (.iconst 1, 1) := by decide +kernel
theorem dX2_readBook_30 : decode cX2_readBook 30 = .ok (.if_icmp .ne 15, 3) := by decide +kernel
theorem dX2_readBook_33 : decode cX2_readBook 33 = .ok (.aload_n 1, 1) := by decide +kernel
theorem dX2_readBook_34 : decode cX2_readBook 34 = .ok (.aload_n 0, 1) := by decide +kernel
theorem dX2_readBook_35 : decode cX2_readBook 35 = .ok (.getfield 76, 3) := by decide +kernel
theorem dX2_readBook_38 : decode cX2_readBook 38 = .ok (.invokevirtual 153, 3) := by decide +kernel
theorem dX2_readBook_41 : decode cX2_readBook 41 = .ok (.iconst (-1), 1) := by decide +kernel
theorem dX2_readBook_42 : decode cX2_readBook 42 = .ok (.if_icmp .eq 5, 3) := by decide +kernel
theorem dX2_readBook_45 : decode cX2_readBook 45 = .ok (.iconst 0, 1) := by decide +kernel
theorem dX2_readBook_46 : decode cX2_readBook 46 = .ok (.ireturn, 1) := by decide +kernel
theorem dX2_readBook_47 : decode cX2_readBook 47 = .ok (.aload_n 0, 1) := by decide +kernel
theorem dX2_readBook_48 : decode cX2_readBook 48 = .ok (.getfield 76, 3) := by decide +kernel
theorem dX2_readBook_51 : decode cX2_readBook 51 = .ok (.lstore_n 3, 1) := by decide +kernel
theorem dX2_readBook_52 : decode cX2_readBook 52 = .ok (.aload_n 0, 1) := by decide +kernel
theorem dX2_readBook_53 : decode cX2_readBook 53 = .ok (.aload_n 2, 1) := by decide +kernel
theorem dX2_readBook_54 : decode cX2_readBook 54 = .ok (.invokevirtual 156, 3) := by decide +kernel
theorem dX2_readBook_57 : decode cX2_readBook 57 = .ok (.ifCond .ne 5, 3) := by decide +kernel
theorem dX2_readBook_60 : decode cX2_readBook 60 = .ok (.iconst 0, 1) := by decide +kernel
theorem dX2_readBook_61 : decode cX2_readBook 61 = .ok (.ireturn, 1) := by decide +kernel
theorem dX2_readBook_62 : decode cX2_readBook 62 = .ok (.aload_n 2, 1) := by decide +kernel
theorem dX2_readBook_63 : decode cX2_readBook 63 = .ok (.lload_n 3, 1) := by decide +kernel
theorem dX2_readBook_64 : decode cX2_readBook 64 = .ok (.putfield 160, 3) := by decide +kernel
theorem dX2_readBook_67 : decode cX2_readBook 67 = .ok (.aload_n 0, 1) := by decide +kernel
theorem dX2_readBook_68 : decode cX2_readBook 68 = .ok (.invokevirtual 27, 3) := by decide +kernel
theorem dX2_readBook_71 : decode cX2_readBook 71 = .ok (.aload_n 0, 1) := by decide +kernel
theorem dX2_readBook_72 : decode cX2_readBook 72 = .ok (.ldc 163, 2) := by decide +kernel
theorem dX2_readBook_74 : decode cX2_readBook 74 = .ok (.invokevirtual 35, 3) := by decide +kernel
theorem dX2_readBook_77 : decode cX2_readBook 77 = .ok (.ifCond .eq 12, 3) := by decide +kernel
theorem dX2_readBook_80 : decode cX2_readBook 80 = .ok (.aload_n 2, 1) := by decide +kernel
theorem dX2_readBook_81 : decode cX2_readBook 81 = .ok (.iconst 1, 1) := by decide +kernel
theorem dX2_readBook_82 : decode cX2_readBook 82 = .ok (.putfield 165, 3) := by decide +kernel
theorem dX2_readBook_85 : decode cX2_readBook 85 = .ok (.aload_n 0, 1) := by decide +kernel
theorem dX2_readBook_86 : decode cX2_readBook 86 = .ok (.invokevirtual 27, 3) := by decide +kernel
theorem dX2_readBook_89 : decode cX2_readBook 89 = .ok (.aload_n 0, 1) := by decide +kernel
theorem dX2_readBook_90 : decode cX2_readBook 90 = .ok (.getfield 30, 3) := by decide +kernel
theorem dX2_readBook_93 : decode cX2_readBook 93 = .ok (.iconst 3, 1) := by decide +kernel
theorem dX2_readBook_94 : decode cX2_readBook 94 = .ok (.if_icmp .eq 5, 3) := by decide +kernel
theorem dX2_readBook_97 : decode cX2_readBook 97 = .ok (.iconst 0, 1) := by decide +kernel
theorem dX2_readBook_98 : decode cX2_readBook 98 = .ok (.ireturn, 1) := by decide +kernel
theorem dX2_readBook_99 : decode cX2_readBook 99 = .ok (.aload_n 1, 1) := by decide +kernel
theorem dX2_readBook_100 : decode cX2_readBook 100 = .ok (.invokevirtual 168, 3) := by decide +kernel
theorem dX2_readBook_103 : decode cX2_readBook 103 = .ok (.iconst 1, 1) := by decide +kernel
theorem dX2_readBook_104 : decode cX2_readBook 104 = .ok (.ireturn, 1) := by decide +kernel
theorem dX2_readGroup_0 : decode cX2_readGroup 0 = .ok (.aload_n 0, 1) := by decide +kernel
theorem dX2_readGroup_1 : decode cX2_readGroup 1 = .ok (.iconst 0, 1) := by decide +kernel
theorem dX2_readGroup_2 : decode cX2_readGroup 2 = .ok (.bipush 29, 2) := by decide +kernel
theorem dX2_readGroup_4 : decode cX2_readGroup 4 = .ok (.invokevirtual 120, 3) := by decide +kernel
theorem dX2_readGroup_7 : decode cX2_readGroup 7 = .ok (.ifCond .ne 5, 3) := by decide +kernel
theorem dX2_readGroup_10 : decode cX2_readGroup 10 = .ok (.iconst 0, 1) := by decide +kernel
theorem dX2_readGroup_11 : decode cX2_readGroup 11 = .ok (.ireturn, 1) := by decide +kernel
theorem dX2_readGroup_12 : decode cX2_readGroup 12 = .ok (.aload_n 0, 1) := by decide +kernel
theorem dX2_readGroup_13 : decode cX2_readGroup 13 = .ok (.getfield 86, 3) := by decide +kernel
theorem dX2_readGroup_16 : decode cX2_readGroup 16 = .ok (.istore_n 2, 1) := by decide +kernel
theorem dX2_readGroup_17 : decode cX2_readGroup 17 = .ok (.aload_n 0, 1) := by decide +kernel
theorem dX2_readGroup_18 : decode cX2_readGroup 18 = .ok (.iconst 1, 1) := by decide +kernel
theorem dX2_readGroup_19 : decode cX2_readGroup 19 = .ok (.bipush 30, 2) := by decide +kernel
theorem dX2_readGroup_21 : decode cX2_readGroup 21 = .ok (.iload_n 2, 1) := by decide +kernel
theorem dX2_readGroup_22 : decode cX2_readGroup 22 = .ok (.isub, 1) := by decide +kernel
theorem dX2_readGroup_23 : decode cX2_readGroup 23 = .ok (.invokevirtual 120, 3) := by decide +kernel
theorem dX2_readGroup_26 : decode cX2_readGroup 26 = .ok (.ifCond .ne 5, 3) := by decide +kernel
theorem dX2_readGroup_29 : decode cX2_readGroup 29 = .ok (.iconst 0, 1) := by decide +kernel
theorem dX2_readGroup_30 : decode cX2_readGroup 30 = .ok (.ireturn, 1) := by decide +kernel
theorem dX2_readGroup_31 : decode cX2_readGroup 31 = .ok (.aload_n 0, 1) := by decide +kernel
theorem dX2_readGroup_32 : decode cX2_readGroup 32 = .ok (.getfield 86, 3) := by decide +kernel
theorem dX2_readGroup_35 : decode cX2_readGroup 35 = .ok (.istore_n 3, 1) := by decide +kernel
theorem dX2_readGroup_36 : decode cX2_readGroup 36 = .ok (.aload_n 0, 1) := by decide +kernel
theorem dX2_readGroup_37 : decode cX2_readGroup 37 = .ok (.iconst 0, 1) := by decide +kernel
theorem dX2_readGroup_38 : decode cX2_readGroup 38 = .ok (.bipush 12, 2) := by decide +kernel
theorem dX2_readGroup_40 : decode cX2_readGroup 40 = .ok (.invokevirtual 120, 3) := by decide +kernel
theorem dX2_readGroup_43 : decode cX2_readGroup 43 = .ok (.ifCond .ne 5, 3) := by decide +kernel
theorem dX2_readGroup_46 : decode cX2_readGroup 46 = .ok (.iconst 0, 1) := by decide +kernel
theorem dX2_readGroup_47 : decode cX2_readGroup 47 = .ok (.ireturn, 1) := by decide +kernel
theorem dX2_readGroup_48 : decode cX2_readGroup 48 = .ok (.aload_n 0, 1) := by decide +kernel
theorem dX2_readGroup_49 : decode cX2_readGroup 49 = .ok (.getfield 86, 3) := by decide +kernel
theorem dX2_readGroup_52 : decode cX2_readGroup 52 = .ok (.istore 4, 2) := by decide +kernel
theorem dX2_readGroup_54 : decode cX2_readGroup 54 = .ok (.aload_n 0, 1) := by decide +kernel
theorem dX2_readGroup_55 : decode cX2_readGroup 55 = .ok (.iload 4, 2) := by decide +kernel
theorem dX2_readGroup_57 : decode cX2_readGroup 57 = .ok (.ifCond .ne 7, 3) := by decide +kernel
theorem dX2_readGroup_60 : decode cX2_readGroup 60 = .ok (.iconst 1, 1) := by decide +kernel
theorem dX2_readGroup_61 : decode cX2_readGroup 61 = .ok (.goto 4, 3) := by decide +kernel
theorem dX2_readGroup_64 : decode cX2_readGroup 64 = .ok (.iconst 0, 1) := by decide +kernel
theorem dX2_readGroup_65 : decode cX2_readGroup 65 = .ok (.bipush 12, 2) := by decide +kernel
theorem dX2_readGroup_67 : decode cX2_readGroup 67 = .ok (.iload 4, 2) := by decide +kernel
theorem dX2_readGroup_69 : decode cX2_readGroup 69 = .ok (.isub, 1) := by decide +kernel
theorem dX2_readGroup_70 : decode cX2_readGroup 70 = .ok (.invokevirtual 120, 3) := by decide +kernel
theorem dX2_readGroup_73 : decode cX2_readGroup 73 = .ok (.ifCond .ne 5, 3) := by decide +kernel
theorem dX2_readGroup_76 : decode cX2_readGroup 76 = .ok (.iconst 0, 1) := by decide +kernel
theorem dX2_readGroup_77 : decode cX2_readGroup 77 = .ok (.ireturn, 1) := by decide +kernel
theorem dX2_readGroup_78 : decode cX2_readGroup 78 = .ok (.aload_n 0, 1) := by decide +kernel
theorem dX2_readGroup_79 : decode cX2_readGroup 79 = .ok (.getfield 86, 3) := by decide +kernel
theorem dX2_readGroup_82 : decode cX2_readGroup 82 = .ok (.istore 5, 2) := by decide +kernel
theorem dX2_readGroup_84 : decode cX2_readGroup 84 = .ok (.aload_n 0, 1) := by decide +kernel
theorem dX2_readGroup_85 : decode cX2_readGroup 85 = .ok (.iconst 0, 1) := by decide +kernel
theorem dX2_readGroup_86 : decode cX2_readGroup 86 = .ok (.bipush 99, 2) := by decide +kernel
theorem dX2_readGroup_88 : decode cX2_readGroup 88 = .ok (.invokevirtual 120, 3) := by decide +kernel
theorem dX2_readGroup_91 : decode cX2_readGroup 91 = .ok (.ifCond .ne 5, 3) := by decide +kernel
theorem dX2_readGroup_94 : decode cX2_readGroup 94 = .ok (.iconst 0, 1) := by decide +kernel
theorem dX2_readGroup_95 : decode cX2_readGroup 95 = .ok (.ireturn, 1) := by decide +kernel
theorem dX2_readGroup_96 : decode cX2_readGroup 96 = .ok (.aload_n 0, 1) := by decide +kernel
theorem dX2_readGroup_97 : decode cX2_readGroup 97 = .ok (.getfield 86, 3) := by decide +kernel
theorem dX2_readGroup_100 : decode cX2_readGroup 100 = .ok (.istore 6, 2) := by decide +kernel
theorem dX2_readGroup_102 : decode cX2_readGroup 102 = .ok (.aload_n 0, 1) := by decide +kernel
theorem dX2_readGroup_103 : decode cX2_readGroup 103 = .ok (.iconst 0, 1) := by decide +kernel
theorem dX2_readGroup_104 : decode cX2_readGroup 104 = .ok (.bipush 100, 2) := by decide +kernel
theorem dX2_readGroup_106 : decode cX2_readGroup 106 = .ok (.invokevirtual 120, 3) := by decide +kernel
theorem dX2_readGroup_109 : decode cX2_readGroup 109 = .ok (.ifCond .ne 5, 3) := by decide +kernel
theorem dX2_readGroup_112 : decode cX2_readGroup 112 = .ok (.iconst 0, 1) := by decide +kernel
theorem dX2_readGroup_113 : decode cX2_readGroup 113 = .ok (.ireturn, 1) := by decide +kernel
theorem dX2_readGroup_114 : decode cX2_readGroup 114 = .ok (.aload_n 1, 1) := by decide +kernel
theorem dX2_readGroup_115 : decode cX2_readGroup 115 = .ok (.iload_n 2, 1) := by decide +kernel
theorem dX2_readGroup_116 : decode cX2_readGroup 116 = .ok (.iload_n 3, 1) := by decide +kernel
theorem dX2_readGroup_117 : decode cX2_readGroup 117 = .ok (.iload 4, 2) := by decide +kernel
theorem dX2_readGroup_119 : decode cX2_readGroup 119 = .ok (.iload 5, 2) := by decide +kernel
theorem dX2_readGroup_121 : decode cX2_readGroup 121 = .ok (.iload 6, 2) := by decide +kernel
theorem dX2_readGroup_123 : decode cX2_readGroup 123 = .ok (.aload_n 0, 1) := by decide +kernel
theorem dX2_readGroup_124 : decode cX2_readGroup 124 = .ok (.getfield 86, 3) := by decide +kernel
theorem dX2_readGroup_127 : decode cX2_readGroup 127 = .ok (.invokevirtual 171, 3) := by decide +kernel
theorem dX2_readGroup_130 : decode cX2_readGroup 130 = .ok (.iconst 1, 1) := by decide +kernel
theorem dX2_readGroup_131 : decode cX2_readGroup 131 = .ok (.ireturn, 1) := by decide +kernel
theorem dX2_readBooked_0 : decode cX2_readBooked 0 = .ok (.aload_n 0, 1) := by decide +kernel
theorem dX2_readBooked_1 : decode cX2_readBooked 1 = .ok (.invokevirtual 27, 3) := by decide +kernel
theorem dX2_readBooked_4 : decode cX2_readBooked 4 = .ok (.aload_n 0, 1) := by decide +kernel
theorem dX2_readBooked_5 : decode cX2_readBooked 5 = .ok (.getfield 30, 3) := by decide +kernel
theorem dX2_readBooked_8 : decode cX2_readBooked 8 = .ok (.iconst 1, 1) := by decide +kernel
theorem dX2_readBooked_9 : decode cX2_readBooked 9 = .ok (.if_icmp .ne 14, 3) := by decide +kernel
theorem dX2_readBooked_12 : decode cX2_readBooked 12 = .ok (.aload_n 1, 1) := by decide +kernel
theorem dX2_readBooked_13 : decode cX2_readBooked 13 = .ok (.aload_n 0, 1) := by decide +kernel
theorem dX2_readBooked_14 : decode cX2_readBooked 14 = .ok (.getfield 76, 3) := by decide +kernel
theorem dX2_readBooked_17 : decode cX2_readBooked 17 = .ok (.invokevirtual 153, 3) := by decide +kernel
theorem dX2_readBooked_20 : decode cX2_readBooked 20 = .ok (.goto 4, 3) := by decide +kernel
theorem dX2_readBooked_23 : decode cX2_readBooked 23 = .ok (.iconst (-1), 1) := by decide +kernel
theorem dX2_readBooked_24 : decode cX2_readBooked 24 = .ok (.istore_n 2, 1) := by decide +kernel
theorem dX2_readBooked_25 : decode cX2_readBooked 25 = .ok (.iload_n 2, 1) := by decide +kernel
theorem dX2_readBooked_26 : decode cX2_readBooked 26 = .ok (.iconst (-1), 1) := by decide +kernel
theorem dX2_readBooked_27 : decode cX2_readBooked 27 = .ok (.if_icmp .eq 20, 3) := by decide +kernel
theorem dX2_readBooked_30 : decode cX2_readBooked 30 = .ok (.aload_n 1, 1) := by decide +kernel
theorem dX2_readBooked_31 : decode cX2_readBooked 31 = .ok (.getfield 149, 3) := by decide +kernel
theorem dX2_readBooked_34 : decode cX2_readBooked 34 = .ok (.iload_n 2, 1) := by decide +kernel
theorem dX2_readBooked_35 : decode cX2_readBooked 35 = .ok (.aaload, 1) := by decide +kernel
theorem dX2_readBooked_36 : decode cX2_readBooked 36 = .ok (.getfield 175, 3) := by decide +kernel
theorem dX2_readBooked_39 : decode cX2_readBooked 39 = .ok (.iconst 2, 1) := by decide +kernel
theorem dX2_readBooked_40 : decode cX2_readBooked 40 = .ok (.if_icmp .eq 7, 3) := by decide +kernel
theorem dX2_readBooked_43 : decode cX2_readBooked 43 = .ok (.iload_n 2, 1) := by decide +kernel
theorem dX2_readBooked_44 : decode cX2_readBooked 44 = .ok (.goto 4, 3) := by decide +kernel
theorem dX2_readBooked_47 : decode cX2_readBooked 47 = .ok (.iconst (-1), 1) := by decide +kernel
theorem dX2_readBooked_48 : decode cX2_readBooked 48 = .ok (.ireturn, 1) := by decide +kernel
theorem dX2_readCancel_0 : decode cX2_readCancel 0 = .ok (.aload_n 0, 1) := by decide +kernel
theorem dX2_readCancel_1 : decode cX2_readCancel 1 = .ok (.aload_n 1, 1) := by decide +kernel
theorem dX2_readCancel_2 : decode cX2_readCancel 2 = .ok (.invokevirtual 178, 3) := by decide +kernel
theorem dX2_readCancel_5 : decode cX2_readCancel 5 = .ok (.istore_n 2, 1) := by decide +kernel
theorem dX2_readCancel_6 : decode cX2_readCancel 6 = .ok (.iload_n 2, 1) := by decide +kernel
theorem dX2_readCancel_7 : decode cX2_readCancel 7 = .ok (.iconst (-1), 1) := by decide +kernel
theorem dX2_readCancel_8 : decode cX2_readCancel 8 = .ok (.if_icmp .eq 10, 3) := by decide +kernel
theorem dX2_readCancel_11 : decode cX2_readCancel 11 = .ok (.aload_n 0, 1) := by decide +kernel
theorem dX2_readCancel_12 : decode cX2_readCancel 12 = .ok (.invokevirtual 133, 3) := by decide +kernel
theorem dX2_readCancel_15 : decode cX2_readCancel 15 = .ok (.ifCond .ne 5, 3) := by decide +kernel
theorem dX2_readCancel_18 : decode cX2_readCancel 18 = .ok (.iconst 0, 1) := by decide +kernel
theorem dX2_readCancel_19 : decode cX2_readCancel 19 = .ok (.ireturn, 1) := by decide +kernel
theorem dX2_readCancel_20 : decode cX2_readCancel 20 = .ok (.aload_n 1, 1) := by decide +kernel
theorem dX2_readCancel_21 : decode cX2_readCancel 21 = .ok (.iload_n 2, 1) := by decide +kernel
theorem dX2_readCancel_22 : decode cX2_readCancel 22 = .ok (.invokevirtual 182, 3) := by decide +kernel
theorem dX2_readCancel_25 : decode cX2_readCancel 25 = .ok (.aload_n 1, 1) := by decide +kernel
theorem dX2_readCancel_26 : decode cX2_readCancel 26 = .ok (.invokevirtual 186, 3) := by decide +kernel
theorem dX2_readCancel_29 : decode cX2_readCancel 29 = .ok (.pop, 1) := by decide +kernel
theorem dX2_readCancel_30 : decode cX2_readCancel 30 = .ok (.iconst 1, 1) := by decide +kernel
theorem dX2_readCancel_31 : decode cX2_readCancel 31 = .ok (.ireturn, 1) := by decide +kernel
theorem dX2_readAbsent_0 : decode cX2_readAbsent 0 = .ok (.aload_n 0, 1) := by decide +kernel
theorem dX2_readAbsent_1 : decode cX2_readAbsent 1 = .ok (.aload_n 1, 1) := by decide +kernel
theorem dX2_readAbsent_2 : decode cX2_readAbsent 2 = .ok (.invokevirtual 178, 3) := by decide +kernel
theorem dX2_readAbsent_5 : decode cX2_readAbsent 5 = .ok (.istore_n 2, 1) := by decide +kernel
theorem dX2_readAbsent_6 : decode cX2_readAbsent 6 = .ok (.iload_n 2, 1) := by decide +kernel
theorem dX2_readAbsent_7 : decode cX2_readAbsent 7 = .ok (.iconst (-1), 1) := by decide +kernel
theorem dX2_readAbsent_8 : decode cX2_readAbsent 8 = .ok (.if_icmp .eq 10, 3) := by decide +kernel
theorem dX2_readAbsent_11 : decode cX2_readAbsent 11 = .ok (.aload_n 0, 1) := by decide +kernel
theorem dX2_readAbsent_12 : decode cX2_readAbsent 12 = .ok (.invokevirtual 133, 3) := by decide +kernel
theorem dX2_readAbsent_15 : decode cX2_readAbsent 15 = .ok (.ifCond .ne 5, 3) := by decide +kernel
theorem dX2_readAbsent_18 : decode cX2_readAbsent 18 = .ok (.iconst 0, 1) := by decide +kernel
theorem dX2_readAbsent_19 : decode cX2_readAbsent 19 = .ok (.ireturn, 1) := by decide +kernel
theorem dX2_readAbsent_20 : decode cX2_readAbsent 20 = .ok (.aload_n 1, 1) := by decide +kernel
theorem dX2_readAbsent_21 : decode cX2_readAbsent 21 = .ok (.getfield 149, 3) := by decide +kernel
theorem dX2_readAbsent_24 : decode cX2_readAbsent 24 = .ok (.iload_n 2, 1) := by decide +kernel
theorem dX2_readAbsent_25 : decode cX2_readAbsent 25 = .ok (.aaload, 1) := by decide +kernel
theorem dX2_readAbsent_26 : decode cX2_readAbsent 26 = .ok (.iconst 1, 1) := by decide +kernel
theorem dX2_readAbsent_27 : decode cX2_readAbsent 27 = .ok (.putfield 189, 3) := by decide +kernel
theorem dX2_readAbsent_30 : decode cX2_readAbsent 30 = .ok (.iconst 1, 1) := by decide +kernel
theorem dX2_readAbsent_31 : decode cX2_readAbsent 31 = .ok (.ireturn, 1) := by decide +kernel
theorem dX2_readOver_0 : decode cX2_readOver 0 = .ok (.aload_n 0, 1) := by decide +kernel
theorem dX2_readOver_1 : decode cX2_readOver 1 = .ok (.iconst 0, 1) := by decide +kernel
theorem dX2_readOver_2 : decode cX2_readOver 2 = .ok (.bipush 50, 2) := by decide +kernel
theorem dX2_readOver_4 : decode cX2_readOver 4 = .ok (.invokevirtual 120, 3) := by decide +kernel
theorem dX2_readOver_7 : decode cX2_readOver 7 = .ok (.ifCond .ne 5, 3) := by decide +kernel
theorem dX2_readOver_10 : decode cX2_readOver 10 = .ok (.iconst 0, 1) := by decide +kernel
theorem dX2_readOver_11 : decode cX2_readOver 11 = .ok (.ireturn, 1) := by decide +kernel
theorem dX2_readOver_12 : decode cX2_readOver 12 = .ok (.aload_n 1, 1) := by decide +kernel
theorem dX2_readOver_13 : decode cX2_readOver 13 = .ok (.aload_n 0, 1) := by decide +kernel
theorem dX2_readOver_14 : decode cX2_readOver 14 = .ok (.getfield 86, 3) := by decide +kernel
theorem dX2_readOver_17 : decode cX2_readOver 17 = .ok (.putfield 191, 3) := by decide +kernel
theorem dX2_readOver_20 : decode cX2_readOver 20 = .ok (.aload_n 0, 1) := by decide +kernel
theorem dX2_readOver_21 : decode cX2_readOver 21 = .ok (.invokevirtual 133, 3) := by decide +kernel
theorem dX2_readOver_24 : decode cX2_readOver 24 = .ok (.ireturn, 1) := by decide +kernel
theorem dX2_readWalk_0 : decode cX2_readWalk 0 = .ok (.aload_n 0, 1) := by decide +kernel
theorem dX2_readWalk_1 : decode cX2_readWalk 1 = .ok (.iconst 0, 1) := by decide +kernel
theorem dX2_readWalk_2 : decode cX2_readWalk 2 = .ok (.sipush 300, 3) := by decide +kernel
theorem dX2_readWalk_5 : decode cX2_readWalk 5 = .ok (.invokevirtual 120, 3) := by decide +kernel
theorem dX2_readWalk_8 : decode cX2_readWalk 8 = .ok (.ifCond .ne 5, 3) := by decide +kernel
theorem dX2_readWalk_11 : decode cX2_readWalk 11 = .ok (.iconst 0, 1) := by decide +kernel
theorem dX2_readWalk_12 : decode cX2_readWalk 12 = .ok (.ireturn, 1) := by decide +kernel
theorem dX2_readWalk_13 : decode cX2_readWalk 13 = .ok (.aload_n 1, 1) := by decide +kernel
theorem dX2_readWalk_14 : decode cX2_readWalk 14 = .ok (.aload_n 0, 1) := by decide +kernel
theorem dX2_readWalk_15 : decode cX2_readWalk 15 = .ok (.getfield 86, 3) := by decide +kernel
theorem dX2_readWalk_18 : decode cX2_readWalk 18 = .ok (.putfield 193, 3) := by decide +kernel
theorem dX2_readWalk_21 : decode cX2_readWalk 21 = .ok (.aload_n 0, 1) := by decide +kernel
theorem dX2_readWalk_22 : decode cX2_readWalk 22 = .ok (.invokevirtual 133, 3) := by decide +kernel
theorem dX2_readWalk_25 : decode cX2_readWalk 25 = .ok (.ireturn, 1) := by decide +kernel
theorem dX2_readOffer_0 : decode cX2_readOffer 0 = .ok (.aload_n 0, 1) := by decide +kernel
theorem dX2_readOffer_1 : decode cX2_readOffer 1 = .ok (.iconst 2, 1) := by decide +kernel
theorem dX2_readOffer_2 : decode cX2_readOffer 2 = .ok (.bipush 30, 2) := by decide +kernel
theorem dX2_readOffer_4 : decode cX2_readOffer 4 = .ok (.invokevirtual 120, 3) := by decide +kernel
theorem dX2_readOffer_7 : decode cX2_readOffer 7 = .ok (.ifCond .ne 5, 3) := by decide +kernel
theorem dX2_readOffer_10 : decode cX2_readOffer 10 = .ok (.iconst 0, 1) := by decide +kernel
theorem dX2_readOffer_11 : decode cX2_readOffer 11 = .ok (.ireturn, 1) := by decide +kernel
theorem dX2_readOffer_12 : decode cX2_readOffer 12 = .ok (.aload_n 1, 1) := by decide +kernel
theorem dX2_readOffer_13 : decode cX2_readOffer 13 = .ok (.aload_n 0, 1) := by decide +kernel
theorem dX2_readOffer_14 : decode cX2_readOffer 14 = .ok (.getfield 86, 3) := by decide +kernel
theorem dX2_readOffer_17 : decode cX2_readOffer 17 = .ok (.putfield 195, 3) := by decide +kernel
theorem dX2_readOffer_20 : decode cX2_readOffer 20 = .ok (.aload_n 0, 1) := by decide +kernel
theorem dX2_readOffer_21 : decode cX2_readOffer 21 = .ok (.iconst 0, 1) := by decide +kernel
theorem dX2_readOffer_22 : decode cX2_readOffer 22 = .ok (.bipush 50, 2) := by decide +kernel
theorem dX2_readOffer_24 : decode cX2_readOffer 24 = .ok (.invokevirtual 120, 3) := by decide +kernel
theorem dX2_readOffer_27 : decode cX2_readOffer 27 = .ok (.ifCond .ne 5, 3) := by decide +kernel
theorem dX2_readOffer_30 : decode cX2_readOffer 30 = .ok (.iconst 0, 1) := by decide +kernel
theorem dX2_readOffer_31 : decode cX2_readOffer 31 = .ok (.ireturn, 1) := by decide +kernel
theorem dX2_readOffer_32 : decode cX2_readOffer 32 = .ok (.aload_n 1, 1) := by decide +kernel
theorem dX2_readOffer_33 : decode cX2_readOffer 33 = .ok (.aload_n 0, 1) := by decide +kernel
theorem dX2_readOffer_34 : decode cX2_readOffer 34 = .ok (.getfield 86, 3) := by decide +kernel
theorem dX2_readOffer_37 : decode cX2_readOffer 37 = .ok (.putfield 198, 3) := by decide +kernel
theorem dX2_readOffer_40 : decode cX2_readOffer 40 = .ok (.aload_n 0, 1) := by decide +kernel
theorem dX2_readOffer_41 : decode cX2_readOffer 41 = .ok (.invokevirtual 133, 3) := by decide +kernel
theorem dX2_readOffer_44 : decode cX2_readOffer 44 = .ok (.ireturn, 1) := by decide +kernel
theorem dX3_init_0 : decode cX3_init 0 = .ok (.aload_n 0, 1) := by decide +kernel
theorem dX3_init_1 : decode cX3_init 1 = .ok (.invokespecial 3, 3) := by decide +kernel
theorem dX3_init_4 : decode cX3_init 4 = .ok (.aload_n 0, 1) := by decide +kernel
theorem dX3_init_5 : decode cX3_init 5 = .ok (.bipush 80, 2) := by decide +kernel
theorem dX3_init_7 : decode cX3_init 7 = .ok (.newarray .int, 2) := by decide +kernel
theorem dX3_init_9 : decode cX3_init 9 = .ok (.putfield 9, 3) := by decide +kernel
theorem dX3_init_12 : decode cX3_init 12 = .ok (.aload_n 0, 1) := by decide +kernel
theorem dX3_init_13 : decode cX3_init 13 = .ok (.sipush 204, 3) := by decide +kernel
theorem dX3_init_16 : decode cX3_init 16 = .ok (.newarray .int, 2) := by decide +kernel
theorem dX3_init_18 : decode cX3_init 18 = .ok (.putfield 15, 3) := by decide +kernel
theorem dX3_init_21 : decode cX3_init 21 = .ok (.aload_n 0, 1) := by decide +kernel
theorem dX3_init_22 : decode cX3_init 22 = .ok (.bipush 17, 2) := by decide +kernel
theorem dX3_init_24 : decode cX3_init 24 = .ok (.newarray .int, 2) := by decide +kernel
theorem dX3_init_26 : decode cX3_init 26 = .ok (.putfield 18, 3) := by decide +kernel
theorem dX3_init_29 : decode cX3_init 29 = .ok (.aload_n 0, 1) := by decide +kernel
theorem dX3_init_30 : decode cX3_init 30 = .ok (.bipush 17, 2) := by decide +kernel
theorem dX3_init_32 : decode cX3_init 32 = .ok (.newarray .int, 2) := by decide +kernel
theorem dX3_init_34 : decode cX3_init 34 = .ok (.putfield 21, 3) := by decide +kernel
theorem dX3_init_37 : decode cX3_init 37 = .ok (.aload_n 0, 1) := by decide +kernel
theorem dX3_init_38 : decode cX3_init 38 = .ok (.bipush 17, 2) := by decide +kernel
theorem dX3_init_40 : decode cX3_init 40 = .ok (.newarray .int, 2) := by decide +kernel
theorem dX3_init_42 : decode cX3_init 42 = .ok (.putfield 24, 3) := by decide +kernel
theorem dX3_init_45 : decode cX3_init 45 = .ok (.aload_n 0, 1) := by decide +kernel
theorem dX3_init_46 : decode cX3_init 46 = .ok (.bipush 8, 2) := by decide +kernel
theorem dX3_init_48 : decode cX3_init 48 = .ok (.newarray .int, 2) := by decide +kernel
theorem dX3_init_50 : decode cX3_init 50 = .ok (.putfield 27, 3) := by decide +kernel
theorem dX3_init_53 : decode cX3_init 53 = .ok (.return_, 1) := by decide +kernel
theorem dX3_isBusy_0 : decode cX3_isBusy 0 = .ok (.aload_n 0, 1) := by decide +kernel
theorem dX3_isBusy_1 : decode cX3_isBusy 1 = .ok (.getfield 9, 3) := by decide +kernel
theorem dX3_isBusy_4 : decode cX3_isBusy 4 = .ok (.iload_n 1, 1) := by decide +kernel
theorem dX3_isBusy_5 : decode cX3_isBusy 5 = .ok (.iaload, 1) := by decide +kernel
theorem dX3_isBusy_6 : decode cX3_isBusy 6 = .ok (.iload_n 2, 1) := by decide +kernel
theorem dX3_isBusy_7 : decode cX3_isBusy 7 = .ok (.ishr, 1) := by decide +kernel
theorem dX3_isBusy_8 : decode cX3_isBusy 8 = .ok (.iconst 1, 1) := by decide +kernel
theorem dX3_isBusy_9 : decode cX3_isBusy 9 = .ok (.iand, 1) := by decide +kernel
theorem dX3_isBusy_10 : decode cX3_isBusy 10 = .ok (.iconst 1, 1) := by decide +kernel
theorem dX3_isBusy_11 : decode cX3_isBusy 11 = .ok (.if_icmp .ne 7, 3) := by decide +kernel
theorem dX3_isBusy_14 : decode cX3_isBusy 14 = .ok (.iconst 1, 1) := by decide +kernel
theorem dX3_isBusy_15 : decode cX3_isBusy 15 = .ok (.goto 4, 3) := by decide +kernel
theorem dX3_isBusy_18 : decode cX3_isBusy 18 = .ok (.iconst 0, 1) := by decide +kernel
theorem dX3_isBusy_19 : decode cX3_isBusy 19 = .ok (.ireturn, 1) := by decide +kernel
theorem dX3_taken_0 : decode cX3_taken 0 = .ok (.iconst 0, 1) := by decide +kernel
theorem dX3_taken_1 : decode cX3_taken 1 = .ok (.istore_n 3, 1) := by decide +kernel
theorem dX3_taken_2 : decode cX3_taken 2 = .ok (.iload_n 1, 1) := by decide +kernel
theorem dX3_taken_3 : decode cX3_taken 3 = .ok (.bipush 10, 2) := by decide +kernel
theorem dX3_taken_5 : decode cX3_taken 5 = .ok (.imul, 1) := by decide +kernel
theorem dX3_taken_6 : decode cX3_taken 6 = .ok (.istore 4, 2) := by decide +kernel
theorem dX3_taken_8 : decode cX3_taken 8 = .ok (.iload 4, 2) := by decide +kernel
theorem dX3_taken_10 : decode cX3_taken 10 = .ok (.iload_n 1, 1) := by decide +kernel
theorem dX3_taken_11 : decode cX3_taken 11 = .ok (.iconst 1, 1) := by decide +kernel
theorem dX3_taken_12 : decode cX3_taken 12 = .ok (.iadd, 1) := by decide +kernel
theorem dX3_taken_13 : decode cX3_taken 13 = .ok (.bipush 10, 2) := by decide +kernel
theorem dX3_taken_15 : decode cX3_taken 15 = .ok (.imul, 1) := by decide +kernel
theorem dX3_taken_16 : decode cX3_taken 16 = .ok (.if_icmp .ge 22, 3) := by decide +kernel
theorem dX3_taken_19 : decode cX3_taken 19 = .ok (.aload_n 0, 1) := by decide +kernel
theorem dX3_taken_20 : decode cX3_taken 20 = .ok (.iload 4, 2) := by decide +kernel
theorem dX3_taken_22 : decode cX3_taken 22 = .ok (.iload_n 2, 1) := by decide +kernel
theorem dX3_taken_23 : decode cX3_taken 23 = .ok (.invokevirtual 30, 3) := by decide +kernel
theorem dX3_taken_26 : decode cX3_taken 26 = .ok (.ifCond .eq 6, 3) := by decide +kernel
theorem dX3_taken_29 : decode cX3_taken 29 = .ok (.iinc 3 1, 3) := by decide +kernel
theorem dX3_taken_32 : decode cX3_taken 32 = .ok (.iinc 4 1, 3) := by decide +kernel
theorem dX3_taken_35 : decode cX3_taken 35 = .ok (.goto (-27), 3) := by decide +kernel
theorem dX3_taken_38 : decode cX3_taken 38 = .ok (.iload_n 3, 1) := by decide +kernel
theorem dX3_taken_39 : decode cX3_taken 39 = .ok (.ireturn, 1) := by decide +kernel
theorem dX3_hasBeds_0 : decode cX3_hasBeds 0 = .ok (.aload_n 0, 1) := by decide +kernel
theorem dX3_hasBeds_1 : decode cX3_hasBeds 1 = .ok (.getfield 18, 3) := by decide +kernel
theorem dX3_hasBeds_4 : decode cX3_hasBeds 4 = .ok (.iload_n 1, 1) := by decide +kernel
theorem dX3_hasBeds_5 : decode cX3_hasBeds 5 = .ok (.iaload, 1) := by decide +kernel
theorem dX3_hasBeds_6 : decode cX3_hasBeds 6 = .ok (.iconst 1, 1) := by decide +kernel
theorem dX3_hasBeds_7 : decode cX3_hasBeds 7 = .ok (.if_icmp .eq 13, 3) := by decide +kernel
theorem dX3_hasBeds_10 : decode cX3_hasBeds 10 = .ok (.aload_n 0, 1) := by decide +kernel
theorem dX3_hasBeds_11 : decode cX3_hasBeds 11 = .ok (.getfield 18, 3) := by decide +kernel
theorem dX3_hasBeds_14 : decode cX3_hasBeds 14 = .ok (.iload_n 1, 1) := by decide +kernel
theorem dX3_hasBeds_15 : decode cX3_hasBeds 15 = .ok (.iaload, 1) := by decide +kernel
theorem dX3_hasBeds_16 : decode cX3_hasBeds 16 = .ok (.iconst 2, 1) := by decide +kernel
theorem dX3_hasBeds_17 : decode cX3_hasBeds 17 = .ok (.if_icmp .ne 7, 3) := by decide +kernel
theorem dX3_hasBeds_20 : decode cX3_hasBeds 20 = .ok (.iconst 1, 1) := by decide +kernel
theorem dX3_hasBeds_21 : decode cX3_hasBeds 21 = .ok (.goto 4, 3) := by decide +kernel
theorem dX3_hasBeds_24 : decode cX3_hasBeds 24 = .ok (.iconst 0, 1) := by decide +kernel
theorem dX3_hasBeds_25 : decode cX3_hasBeds 25 = .ok (.ireturn, 1) := by decide +kernel
theorem dX3_hasBed_0 : decode cX3_hasBed 0 = .ok (.iconst 0, 1) := by decide +kernel
theorem dX3_hasBed_1 : decode cX3_hasBed 1 = .ok (.istore 4, 2) := by decide +kernel
theorem dX3_hasBed_3 : decode cX3_hasBed 3 = .ok (.iload 4, 2) := by decide +kernel
theorem dX3_hasBed_5 : decode cX3_hasBed 5 = .ok (.iload_n 2, 1) := by decide +kernel
theorem dX3_hasBed_6 : decode cX3_hasBed 6 = .ok (.if_icmp .ge 35, 3) := by decide +kernel
theorem dX3_hasBed_9 : decode cX3_hasBed 9 = .ok (.aload_n 0, 1) := by decide +kernel
theorem dX3_hasBed_10 : decode cX3_hasBed 10 = .ok (.iload_n 1, 1) := by decide +kernel
theorem dX3_hasBed_11 : decode cX3_hasBed 11 = .ok (.invokevirtual 34, 3) := by decide +kernel
theorem dX3_hasBed_14 : decode cX3_hasBed 14 = .ok (.ifCond .eq 21, 3) := by decide +kernel
theorem dX3_hasBed_17 : decode cX3_hasBed 17 = .ok (.aload_n 0, 1) := by decide +kernel
theorem dX3_hasBed_18 : decode cX3_hasBed 18 = .ok (.getfield 15, 3) := by decide +kernel
theorem dX3_hasBed_21 : decode cX3_hasBed 21 = .ok (.iload_n 1, 1) := by decide +kernel
theorem dX3_hasBed_22 : decode cX3_hasBed 22 = .ok (.bipush 12, 2) := by decide +kernel
theorem dX3_hasBed_24 : decode cX3_hasBed 24 = .ok (.imul, 1) := by decide +kernel
theorem dX3_hasBed_25 : decode cX3_hasBed 25 = .ok (.iload 4, 2) := by decide +kernel
theorem dX3_hasBed_27 : decode cX3_hasBed 27 = .ok (.iadd, 1) := by decide +kernel
theorem dX3_hasBed_28 : decode cX3_hasBed 28 = .ok (.iaload, 1) := by decide +kernel
theorem dX3_hasBed_29 : decode cX3_hasBed 29 = .ok (.iload_n 3, 1) := by decide +kernel
theorem dX3_hasBed_30 : decode cX3_hasBed 30 = .ok (.if_icmp .ne 5, 3) := by decide +kernel
theorem dX3_hasBed_33 : decode cX3_hasBed 33 = .ok (.iconst 1, 1) := by decide +kernel
theorem dX3_hasBed_34 : decode cX3_hasBed 34 = .ok (.ireturn, 1) := by decide +kernel
theorem dX3_hasBed_35 : decode cX3_hasBed 35 = .ok (.iinc 4 1, 3) := by decide +kernel
theorem dX3_hasBed_38 : decode cX3_hasBed 38 = .ok (.goto (-35), 3) := by decide +kernel
theorem dX3_hasBed_41 : decode cX3_hasBed 41 = .ok (.iconst 0, 1) := by decide +kernel
theorem dX3_hasBed_42 : decode cX3_hasBed 42 = .ok (.ireturn, 1) := by decide +kernel
theorem dX3_areBedsFree_0 : decode cX3_areBedsFree 0 = .ok (.iconst 0, 1) := by decide +kernel
theorem dX3_areBedsFree_1 : decode cX3_areBedsFree 1 = .ok (.istore 4, 2) := by decide +kernel
theorem dX3_areBedsFree_3 : decode cX3_areBedsFree 3 = .ok (.iload 4, 2) := by decide +kernel
theorem dX3_areBedsFree_5 : decode cX3_areBedsFree 5 = .ok (.iload_n 2, 1) := by decide +kernel
theorem dX3_areBedsFree_6 : decode cX3_areBedsFree 6 = .ok (.if_icmp .ge 31, 3) := by decide +kernel
theorem dX3_areBedsFree_9 : decode cX3_areBedsFree 9 = .ok (.aload_n 0, 1) := by decide +kernel
theorem dX3_areBedsFree_10 : decode cX3_areBedsFree 10 = .ok (.aload_n 0, 1) := by decide +kernel
theorem dX3_areBedsFree_11 : decode cX3_areBedsFree 11 = .ok (.getfield 15, 3) := by decide +kernel
theorem dX3_areBedsFree_14 : decode cX3_areBedsFree 14 = .ok (.iload_n 1, 1) := by decide +kernel
theorem dX3_areBedsFree_15 : decode cX3_areBedsFree 15 = .ok (.bipush 12, 2) := by decide +kernel
theorem dX3_areBedsFree_17 : decode cX3_areBedsFree 17 = .ok (.imul, 1) := by decide +kernel
theorem dX3_areBedsFree_18 : decode cX3_areBedsFree 18 = .ok (.iload 4, 2) := by decide +kernel
theorem dX3_areBedsFree_20 : decode cX3_areBedsFree 20 = .ok (.iadd, 1) := by decide +kernel
theorem dX3_areBedsFree_21 : decode cX3_areBedsFree 21 = .ok (.iaload, 1) := by decide +kernel
theorem dX3_areBedsFree_22 : decode cX3_areBedsFree 22 = .ok (.iload_n 3, 1) := by decide +kernel
theorem dX3_areBedsFree_23 : decode cX3_areBedsFree 23 = .ok (.invokevirtual 30, 3) := by decide +kernel
theorem dX3_areBedsFree_26 : decode cX3_areBedsFree 26 = .ok (.ifCond .eq 5, 3) := by decide +kernel
theorem dX3_areBedsFree_29 : decode cX3_areBedsFree 29 = .ok (.iconst 0, 1) := by decide +kernel
theorem dX3_areBedsFree_30 : decode cX3_areBedsFree 30 = .ok (.ireturn, 1) := by decide +kernel
theorem dX3_areBedsFree_31 : decode cX3_areBedsFree 31 = .ok (.iinc 4 1, 3) := by decide +kernel
theorem dX3_areBedsFree_34 : decode cX3_areBedsFree 34 = .ok (.goto (-31), 3) := by decide +kernel
theorem dX3_areBedsFree_37 : decode cX3_areBedsFree 37 = .ok (.iconst 1, 1) := by decide +kernel
theorem dX3_areBedsFree_38 : decode cX3_areBedsFree 38 = .ok (.ireturn, 1) := by decide +kernel
theorem dX3_make_0 : decode cX3_make 0 = .ok (.aload_n 0, 1) := by decide +kernel
theorem dX3_make_1 : decode cX3_make 1 = .ok (.invokevirtual 38, 3) := by decide +kernel
theorem dX3_make_4 : decode cX3_make 4 = .ok (.iconst 0, 1) := by decide +kernel
theorem dX3_make_5 : decode cX3_make 5 = .ok (.istore_n 2, 1) := by decide +kernel
theorem dX3_make_6 : decode cX3_make 6 = .ok (.iload_n 2, 1) := by decide +kernel
theorem dX3_make_7 : decode cX3_make 7 = .ok (.bipush 30, 2) := by decide +kernel
theorem dX3_make_9 : decode cX3_make 9 = .ok (.if_icmp .ge 65, 3) := by decide +kernel
theorem dX3_make_12 : decode cX3_make 12 = .ok (.iconst 0, 1) := by decide +kernel
theorem dX3_make_13 : decode cX3_make 13 = .ok (.istore_n 3, 1) := by decide +kernel
theorem dX3_make_14 : decode cX3_make 14 = .ok (.iload_n 3, 1) := by decide +kernel
theorem dX3_make_15 : decode cX3_make 15 = .ok (.aload_n 1, 1) := by decide +kernel
theorem dX3_make_16 : decode cX3_make 16 = .ok (.getfield 41, 3) := by decide +kernel
theorem dX3_make_19 : decode cX3_make 19 = .ok (.if_icmp .ge 49, 3) := by decide +kernel
theorem dX3_make_22 : decode cX3_make 22 = .ok (.aload_n 1, 1) := by decide +kernel
theorem dX3_make_23 : decode cX3_make 23 = .ok (.getfield 47, 3) := by decide +kernel
theorem dX3_make_26 : decode cX3_make 26 = .ok (.iload_n 3, 1) := by decide +kernel
theorem dX3_make_27 : decode cX3_make 27 = .ok (.aaload, 1) := by decide +kernel
theorem dX3_make_28 : decode cX3_make 28 = .ok (.astore 4, 2) := by decide +kernel
theorem dX3_make_30 : decode cX3_make 30 = .ok (.aload 4, 2) := by decide +kernel
theorem dX3_make_32 : decode cX3_make 32 = .ok (.getfield 51, 3) := by decide +kernel
theorem dX3_make_35 : decode cX3_make 35 = .ok (.iload_n 2, 1) := by decide +kernel
theorem dX3_make_36 : decode cX3_make 36 = .ok (.if_icmp .ne 26, 3) := by decide +kernel
theorem dX3_make_39 : decode cX3_make 39 = .ok (.aload 4, 2) := by decide +kernel
theorem dX3_make_41 : decode cX3_make 41 = .ok (.getfield 56, 3) := by decide +kernel
theorem dX3_make_44 : decode cX3_make 44 = .ok (.iconst 1, 1) := by decide +kernel
theorem dX3_make_45 : decode cX3_make 45 = .ok (.if_icmp .ne 17, 3) := by decide +kernel
theorem dX3_make_48 : decode cX3_make 48 = .ok (.aload 4, 2) := by decide +kernel
theorem dX3_make_50 : decode cX3_make 50 = .ok (.getfield 59, 3) := by decide +kernel
theorem dX3_make_53 : decode cX3_make 53 = .ok (.ifCond .ne 9, 3) := by decide +kernel
theorem dX3_make_56 : decode cX3_make 56 = .ok (.aload_n 0, 1) := by decide +kernel
theorem dX3_make_57 : decode cX3_make 57 = .ok (.aload_n 1, 1) := by decide +kernel
theorem dX3_make_58 : decode cX3_make 58 = .ok (.iload_n 3, 1) := by decide +kernel
theorem dX3_make_59 : decode cX3_make 59 = .ok (.invokevirtual 63, 3) := by decide +kernel
theorem dX3_make_62 : decode cX3_make 62 = .ok (.iinc 3 1, 3) := by decide +kernel
theorem dX3_make_65 : decode cX3_make 65 = .ok (.goto (-51), 3) := by decide +kernel
theorem dX3_make_68 : decode cX3_make 68 = .ok (.iinc 2 1, 3) := by decide +kernel
theorem dX3_make_71 : decode cX3_make 71 = .ok (.goto (-65), 3) := by decide +kernel
theorem dX3_make_74 : decode cX3_make 74 = .ok (.return_, 1) := by decide +kernel
theorem dX3_clear_0 : decode cX3_clear 0 = .ok (.iconst 0, 1) := by decide +kernel
theorem dX3_clear_1 : decode cX3_clear 1 = .ok (.istore_n 1, 1) := by decide +kernel
theorem dX3_clear_2 : decode cX3_clear 2 = .ok (.iload_n 1, 1) := by decide +kernel
theorem dX3_clear_3 : decode cX3_clear 3 = .ok (.aload_n 0, 1) := by decide +kernel
theorem dX3_clear_4 : decode cX3_clear 4 = .ok (.getfield 9, 3) := by decide +kernel
theorem dX3_clear_7 : decode cX3_clear 7 = .ok (.arraylength, 1) := by decide +kernel
theorem dX3_clear_8 : decode cX3_clear 8 = .ok (.if_icmp .ge 16, 3) := by decide +kernel
theorem dX3_clear_11 : decode cX3_clear 11 = .ok (.aload_n 0, 1) := by decide +kernel
theorem dX3_clear_12 : decode cX3_clear 12 = .ok (.getfield 9, 3) := by decide +kernel
theorem dX3_clear_15 : decode cX3_clear 15 = .ok (.iload_n 1, 1) := by decide +kernel
theorem dX3_clear_16 : decode cX3_clear 16 = .ok (.iconst 0, 1) := by decide +kernel
theorem dX3_clear_17 : decode cX3_clear 17 = .ok (.iastore, 1) := by decide +kernel
theorem dX3_clear_18 : decode cX3_clear 18 = .ok (.iinc 1 1, 3) := by decide +kernel
theorem dX3_clear_21 : decode cX3_clear 21 = .ok (.goto (-19), 3) := by decide +kernel
theorem dX3_clear_24 : decode cX3_clear 24 = .ok (.iconst 0, 1) := by decide +kernel
theorem dX3_clear_25 : decode cX3_clear 25 = .ok (.istore_n 1, 1) := by decide +kernel
theorem dX3_clear_26 : decode cX3_clear 26 = .ok (.iload_n 1, 1) := by decide +kernel
theorem dX3_clear_27 : decode cX3_clear 27 = .ok (.aload_n 0, 1) := by decide +kernel
theorem dX3_clear_28 : decode cX3_clear 28 = .ok (.getfield 18, 3) := by decide +kernel
theorem dX3_clear_31 : decode cX3_clear 31 = .ok (.arraylength, 1) := by decide +kernel
theorem dX3_clear_32 : decode cX3_clear 32 = .ok (.if_icmp .ge 30, 3) := by decide +kernel
theorem dX3_clear_35 : decode cX3_clear 35 = .ok (.aload_n 0, 1) := by decide +kernel
theorem dX3_clear_36 : decode cX3_clear 36 = .ok (.getfield 18, 3) := by decide +kernel
theorem dX3_clear_39 : decode cX3_clear 39 = .ok (.iload_n 1, 1) := by decide +kernel
theorem dX3_clear_40 : decode cX3_clear 40 = .ok (.iconst 0, 1) := by decide +kernel
theorem dX3_clear_41 : decode cX3_clear 41 = .ok (.iastore, 1) := by decide +kernel
theorem dX3_clear_42 : decode cX3_clear 42 = .ok (.aload_n 0, 1) := by decide +kernel
theorem dX3_clear_43 : decode cX3_clear 43 = .ok (.getfield 21, 3) := by decide +kernel
theorem dX3_clear_46 : decode cX3_clear 46 = .ok (.iload_n 1, 1) := by decide +kernel
theorem dX3_clear_47 : decode cX3_clear 47 = .ok (.iconst 0, 1) := by decide +kernel
theorem dX3_clear_48 : decode cX3_clear 48 = .ok (.iastore, 1) := by decide +kernel
theorem dX3_clear_49 : decode cX3_clear 49 = .ok (.aload_n 0, 1) := by decide +kernel
theorem dX3_clear_50 : decode cX3_clear 50 = .ok (.getfield 24, 3) := by decide +kernel
theorem dX3_clear_53 : decode cX3_clear 53 = .ok (.iload_n 1, 1) := by decide +kernel
theorem dX3_clear_54 : decode cX3_clear 54 = .ok (.iconst 0, 1) := by decide +kernel
theorem dX3_clear_55 : decode cX3_clear 55 = .ok (.iastore, 1) := by decide +kernel
theorem dX3_clear_56 : decode cX3_clear 56 = .ok (.iinc 1 1, 3) := by decide +kernel
theorem dX3_clear_59 : decode cX3_clear 59 = .ok (.goto (-33), 3) := by decide +kernel
theorem dX3_clear_62 : decode cX3_clear 62 = .ok (.aload_n 0, 1) := by decide +kernel
theorem dX3_clear_63 : decode cX3_clear 63 = .ok (.iconst 0, 1) := by decide +kernel
theorem dX3_clear_64 : decode cX3_clear 64 = .ok (.putfield 67, 3) := by decide +kernel
theorem dX3_clear_67 : decode cX3_clear 67 = .ok (.aload_n 0, 1) := by decide +kernel
theorem dX3_clear_68 : decode cX3_clear 68 = .ok (.iconst 0, 1) := by decide +kernel
theorem dX3_clear_69 : decode cX3_clear 69 = .ok (.putfield 70, 3) := by decide +kernel
theorem dX3_clear_72 : decode cX3_clear 72 = .ok (.return_, 1) := by decide +kernel
theorem dX3_place_0 : decode cX3_place 0 = .ok (.aload_n 1, 1) := by decide +kernel
theorem dX3_place_1 : decode cX3_place 1 = .ok (.getfield 47, 3) := by decide +kernel
theorem dX3_place_4 : decode cX3_place 4 = .ok (.iload_n 2, 1) := by decide +kernel
theorem dX3_place_5 : decode cX3_place 5 = .ok (.aaload, 1) := by decide +kernel
theorem dX3_place_6 : decode cX3_place 6 = .ok (.astore_n 3, 1) := by decide +kernel
theorem dX3_place_7 : decode cX3_place 7 = .ok (.aload_n 0, 1) := by decide +kernel
theorem dX3_place_8 : decode cX3_place 8 = .ok (.aload_n 1, 1) := by decide +kernel
theorem dX3_place_9 : decode cX3_place 9 = .ok (.aload_n 3, 1) := by decide +kernel
theorem dX3_place_10 : decode cX3_place 10 = .ok (.invokevirtual 73, 3) := by decide +kernel
theorem dX3_place_13 : decode cX3_place 13 = .ok (.aload_n 0, 1) := by decide +kernel
theorem dX3_place_14 : decode cX3_place 14 = .ok (.aload_n 1, 1) := by decide +kernel
theorem dX3_place_15 : decode cX3_place 15 = .ok (.aload_n 3, 1) := by decide +kernel
theorem dX3_place_16 : decode cX3_place 16 = .ok (.invokevirtual 77, 3) := by decide +kernel
theorem dX3_place_19 : decode cX3_place 19 = .ok (.istore 4, 2) := by decide +kernel
theorem dX3_place_21 : decode cX3_place 21 = .ok (.aload_n 0, 1) := by decide +kernel
theorem dX3_place_22 : decode cX3_place 22 = .ok (.getfield 18, 3) := by decide +kernel
theorem dX3_place_25 : decode cX3_place 25 = .ok (.iload_n 2, 1) := by decide +kernel
theorem dX3_place_26 : decode cX3_place 26 = .ok (.iconst 1, 1) := by decide +kernel
theorem dX3_place_27 : decode cX3_place 27 = .ok (.iastore, 1) := by decide +kernel
theorem dX3_place_28 : decode cX3_place 28 = .ok (.iload 4, 2) := by decide +kernel
theorem dX3_place_30 : decode cX3_place 30 = .ok (.ifCond .ne 25, 3) := by decide +kernel
theorem dX3_place_33 : decode cX3_place 33 = .ok (.aload_n 3, 1) := by decide +kernel
theorem dX3_place_34 : decode cX3_place 34 = .ok (.getfield 81, 3) := by decide +kernel
theorem dX3_place_37 : decode cX3_place 37 = .ok (.ifCond .ne 18, 3) := by decide +kernel
theorem dX3_place_40 : decode cX3_place 40 = .ok (.aload_n 0, 1) := by decide +kernel
theorem dX3_place_41 : decode cX3_place 41 = .ok (.aload_n 1, 1) := by decide +kernel
theorem dX3_place_42 : decode cX3_place 42 = .ok (.aload_n 3, 1) := by decide +kernel
theorem dX3_place_43 : decode cX3_place 43 = .ok (.invokevirtual 84, 3) := by decide +kernel
theorem dX3_place_46 : decode cX3_place 46 = .ok (.istore 4, 2) := by decide +kernel
theorem dX3_place_48 : decode cX3_place 48 = .ok (.aload_n 0, 1) := by decide +kernel
theorem dX3_place_49 : decode cX3_place 49 = .ok (.getfield 18, 3) := by decide +kernel
theorem dX3_place_52 : decode cX3_place 52 = .ok (.iload_n 2, 1) := by decide +kernel
theorem dX3_place_53 : decode cX3_place 53 = .ok (.iconst 2, 1) := by decide +kernel
theorem dX3_place_54 : decode cX3_place 54 = .ok (.iastore, 1) := by decide +kernel
theorem dX3_place_55 : decode cX3_place 55 = .ok (.iload 4, 2) := by decide +kernel
theorem dX3_place_57 : decode cX3_place 57 = .ok (.ifCond .ne 34, 3) := by decide +kernel
theorem dX3_place_60 : decode cX3_place 60 = .ok (.aload_n 0, 1) := by decide +kernel
theorem dX3_place_61 : decode cX3_place 61 = .ok (.getfield 18, 3) := by decide +kernel
theorem dX3_place_64 : decode cX3_place 64 = .ok (.iload_n 2, 1) := by decide +kernel
theorem dX3_place_65 : decode cX3_place 65 = .ok (.iconst 3, 1) := by decide +kernel
theorem dX3_place_66 : decode cX3_place 66 = .ok (.iastore, 1) := by decide +kernel
theorem dX3_place_67 : decode cX3_place 67 = .ok (.aload_n 0, 1) := by decide +kernel
theorem dX3_place_68 : decode cX3_place 68 = .ok (.dup, 1) := by decide +kernel
theorem dX3_place_69 : decode cX3_place 69 = .ok (.getfield 70, 3) := by decide +kernel
theorem dX3_place_72 : decode cX3_place 72 = .ok (.aload_n 1, 1) := by decide +kernel
theorem dX3_place_73 : decode cX3_place 73 = .ok (.getfield 87, 3) := by decide +kernel
theorem dX3_place_76 : decode cX3_place 76 = .ok (.aload_n 3, 1) := by decide +kernel
theorem dX3_place_77 : decode cX3_place 77 = .ok (.getfield 90, 3) := by decide +kernel
theorem dX3_place_80 : decode cX3_place 80 = .ok (.imul, 1) := by decide +kernel
theorem dX3_place_81 : decode cX3_place 81 = .ok (.aload_n 3, 1) := by decide +kernel
theorem dX3_place_82 : decode cX3_place 82 = .ok (.getfield 93, 3) := by decide +kernel
theorem dX3_place_85 : decode cX3_place 85 = .ok (.imul, 1) := by decide +kernel
theorem dX3_place_86 : decode cX3_place 86 = .ok (.iadd, 1) := by decide +kernel
theorem dX3_place_87 : decode cX3_place 87 = .ok (.putfield 70, 3) := by decide +kernel
theorem dX3_place_90 : decode cX3_place 90 = .ok (.return_, 1) := by decide +kernel
theorem dX3_place_91 : decode cX3_place 91 = .ok (.aload_n 0, 1) := by decide +kernel
theorem dX3_place_92 : decode cX3_place 92 = .ok (.getfield 21, 3) := by decide +kernel
theorem dX3_place_95 : decode cX3_place 95 = .ok (.iload_n 2, 1) := by decide +kernel
theorem dX3_place_96 : decode cX3_place 96 = .ok (.iload 4, 2) := by decide +kernel
theorem dX3_place_98 : decode cX3_place 98 = .ok (.iastore, 1) := by decide +kernel
theorem dX3_place_99 : decode cX3_place 99 = .ok (.aload_n 0, 1) := by decide +kernel
theorem dX3_place_100 : decode cX3_place 100 = .ok (.getfield 24, 3) := by decide +kernel
theorem dX3_place_103 : decode cX3_place 103 = .ok (.iload_n 2, 1) := by decide +kernel
theorem dX3_place_104 : decode cX3_place 104 = .ok (.aload_n 0, 1) := by decide +kernel
theorem dX3_place_105 : decode cX3_place 105 = .ok (.aload_n 1, 1) := by decide +kernel
theorem dX3_place_106 : decode cX3_place 106 = .ok (.iload_n 2, 1) := by decide +kernel
theorem dX3_place_107 : decode cX3_place 107 = .ok (.iload 4, 2) := by decide +kernel
theorem dX3_place_109 : decode cX3_place 109 = .ok (.invokevirtual 96, 3) := by decide +kernel
theorem dX3_place_112 : decode cX3_place 112 = .ok (.iastore, 1) := by decide +kernel
theorem dX3_place_113 : decode cX3_place 113 = .ok (.aload_n 0, 1) := by decide +kernel
theorem dX3_place_114 : decode cX3_place 114 = .ok (.dup, 1) := by decide +kernel
theorem dX3_place_115 : decode cX3_place 115 = .ok (.getfield 67, 3) := by decide +kernel
theorem dX3_place_118 : decode cX3_place 118 = .ok (.aload_n 0, 1) := by decide +kernel
theorem dX3_place_119 : decode cX3_place 119 = .ok (.getfield 24, 3) := by decide +kernel
theorem dX3_place_122 : decode cX3_place 122 = .ok (.iload_n 2, 1) := by decide +kernel
theorem dX3_place_123 : decode cX3_place 123 = .ok (.iaload, 1) := by decide +kernel
theorem dX3_place_124 : decode cX3_place 124 = .ok (.iadd, 1) := by decide +kernel
theorem dX3_place_125 : decode cX3_place 125 = .ok (.putfield 67, 3) := by decide +kernel
theorem dX3_place_128 : decode cX3_place 128 = .ok (.return_, 1) := by decide +kernel
theorem dX3_countFree_0 : decode cX3_countFree 0 = .ok (.aload_n 2, 1) := by decide +kernel
theorem dX3_countFree_1 : decode cX3_countFree 1 = .ok (.invokevirtual 100, 3) := by decide +kernel
theorem dX3_countFree_4 : decode cX3_countFree 4 = .ok (.istore_n 3, 1) := by decide +kernel
theorem dX3_countFree_5 : decode cX3_countFree 5 = .ok (.iconst 0, 1) := by decide +kernel
theorem dX3_countFree_6 : decode cX3_countFree 6 = .ok (.istore 4, 2) := by decide +kernel
theorem dX3_countFree_8 : decode cX3_countFree 8 = .ok (.iload 4, 2) := by decide +kernel
theorem dX3_countFree_10 : decode cX3_countFree 10 = .ok (.aload_n 1, 1) := by decide +kernel
theorem dX3_countFree_11 : decode cX3_countFree 11 = .ok (.getfield 104, 3) := by decide +kernel
theorem dX3_countFree_14 : decode cX3_countFree 14 = .ok (.if_icmp .ge 86, 3) := by decide +kernel
theorem dX3_countFree_17 : decode cX3_countFree 17 = .ok (.aload_n 1, 1) := by decide +kernel
theorem dX3_countFree_18 : decode cX3_countFree 18 = .ok (.getfield 107, 3) := by decide +kernel
theorem dX3_countFree_21 : decode cX3_countFree 21 = .ok (.iload 4, 2) := by decide +kernel
theorem dX3_countFree_23 : decode cX3_countFree 23 = .ok (.aaload, 1) := by decide +kernel
theorem dX3_countFree_24 : decode cX3_countFree 24 = .ok (.astore 5, 2) := by decide +kernel
theorem dX3_countFree_26 : decode cX3_countFree 26 = .ok (.aload_n 0, 1) := by decide +kernel
theorem dX3_countFree_27 : decode cX3_countFree 27 = .ok (.getfield 27, 3) := by decide +kernel
theorem dX3_countFree_30 : decode cX3_countFree 30 = .ok (.iload 4, 2) := by decide +kernel
theorem dX3_countFree_32 : decode cX3_countFree 32 = .ok (.iconst 0, 1) := by decide +kernel
theorem dX3_countFree_33 : decode cX3_countFree 33 = .ok (.iastore, 1) := by decide +kernel
theorem dX3_countFree_34 : decode cX3_countFree 34 = .ok (.iconst 0, 1) := by decide +kernel
theorem dX3_countFree_35 : decode cX3_countFree 35 = .ok (.istore 6, 2) := by decide +kernel
theorem dX3_countFree_37 : decode cX3_countFree 37 = .ok (.iload 6, 2) := by decide +kernel
theorem dX3_countFree_39 : decode cX3_countFree 39 = .ok (.aload 5, 2) := by decide +kernel
theorem dX3_countFree_41 : decode cX3_countFree 41 = .ok (.getfield 111, 3) := by decide +kernel
theorem dX3_countFree_44 : decode cX3_countFree 44 = .ok (.if_icmp .ge 50, 3) := by decide +kernel
theorem dX3_countFree_47 : decode cX3_countFree 47 = .ok (.aload_n 2, 1) := by decide +kernel
theorem dX3_countFree_48 : decode cX3_countFree 48 = .ok (.getfield 116, 3) := by decide +kernel
theorem dX3_countFree_51 : decode cX3_countFree 51 = .ok (.aload 5, 2) := by decide +kernel
theorem dX3_countFree_53 : decode cX3_countFree 53 = .ok (.getfield 119, 3) := by decide +kernel
theorem dX3_countFree_56 : decode cX3_countFree 56 = .ok (.if_icmp .lt 32, 3) := by decide +kernel
theorem dX3_countFree_59 : decode cX3_countFree 59 = .ok (.aload_n 0, 1) := by decide +kernel
theorem dX3_countFree_60 : decode cX3_countFree 60 = .ok (.getfield 9, 3) := by decide +kernel
theorem dX3_countFree_63 : decode cX3_countFree 63 = .ok (.iload 4, 2) := by decide +kernel
theorem dX3_countFree_65 : decode cX3_countFree 65 = .ok (.bipush 10, 2) := by decide +kernel
theorem dX3_countFree_67 : decode cX3_countFree 67 = .ok (.imul, 1) := by decide +kernel
theorem dX3_countFree_68 : decode cX3_countFree 68 = .ok (.iload 6, 2) := by decide +kernel
theorem dX3_countFree_70 : decode cX3_countFree 70 = .ok (.iadd, 1) := by decide +kernel
theorem dX3_countFree_71 : decode cX3_countFree 71 = .ok (.iaload, 1) := by decide +kernel
theorem dX3_countFree_72 : decode cX3_countFree 72 = .ok (.iload_n 3, 1) := by decide +kernel
theorem dX3_countFree_73 : decode cX3_countFree 73 = .ok (.iand, 1) := by decide +kernel
theorem dX3_countFree_74 : decode cX3_countFree 74 = .ok (.ifCond .ne 14, 3) := by decide +kernel
theorem dX3_countFree_77 : decode cX3_countFree 77 = .ok (.aload_n 0, 1) := by decide +kernel
theorem dX3_countFree_78 : decode cX3_countFree 78 = .ok (.getfield 27, 3) := by decide +kernel
theorem dX3_countFree_81 : decode cX3_countFree 81 = .ok (.iload 4, 2) := by decide +kernel
theorem dX3_countFree_83 : decode cX3_countFree 83 = .ok (.dup2, 1) := by decide +kernel
theorem dX3_countFree_84 : decode cX3_countFree 84 = .ok (.iaload, 1) := by decide +kernel
theorem dX3_countFree_85 : decode cX3_countFree 85 = .ok (.iconst 1, 1) := by decide +kernel
theorem dX3_countFree_86 : decode cX3_countFree 86 = .ok (.iadd, 1) := by decide +kernel
theorem dX3_countFree_87 : decode cX3_countFree 87 = .ok (.iastore, 1) := by decide +kernel
theorem dX3_countFree_88 : decode cX3_countFree 88 = .ok (.iinc 6 1, 3) := by decide +kernel
theorem dX3_countFree_91 : decode cX3_countFree 91 = .ok (.goto (-54), 3) := by decide +kernel
theorem dX3_countFree_94 : decode cX3_countFree 94 = .ok (.iinc 4 1, 3) := by decide +kernel
theorem dX3_countFree_97 : decode cX3_countFree 97 = .ok (.goto (-89), 3) := by decide +kernel
theorem dX3_countFree_100 : decode cX3_countFree 100 = .ok (.return_, 1) := by decide +kernel
theorem dX3_oneRoom_0 : decode cX3_oneRoom 0 = .ok (.iconst (-1), 1) := by decide +kernel
theorem dX3_oneRoom_1 : decode cX3_oneRoom 1 = .ok (.istore_n 3, 1) := by decide +kernel
theorem dX3_oneRoom_2 : decode cX3_oneRoom 2 = .ok (.iconst 0, 1) := by decide +kernel
theorem dX3_oneRoom_3 : decode cX3_oneRoom 3 = .ok (.istore 4, 2) := by decide +kernel
theorem dX3_oneRoom_5 : decode cX3_oneRoom 5 = .ok (.iload 4, 2) := by decide +kernel
theorem dX3_oneRoom_7 : decode cX3_oneRoom 7 = .ok (.aload_n 1, 1) := by decide +kernel
theorem dX3_oneRoom_8 : decode cX3_oneRoom 8 = .ok (.getfield 104, 3) := by decide +kernel
theorem dX3_oneRoom_11 : decode cX3_oneRoom 11 = .ok (.if_icmp .ge 56, 3) := by decide +kernel
theorem dX3_oneRoom_14 : decode cX3_oneRoom 14 = .ok (.aload_n 0, 1) := by decide +kernel
theorem dX3_oneRoom_15 : decode cX3_oneRoom 15 = .ok (.getfield 27, 3) := by decide +kernel
theorem dX3_oneRoom_18 : decode cX3_oneRoom 18 = .ok (.iload 4, 2) := by decide +kernel
theorem dX3_oneRoom_20 : decode cX3_oneRoom 20 = .ok (.iaload, 1) := by decide +kernel
theorem dX3_oneRoom_21 : decode cX3_oneRoom 21 = .ok (.aload_n 2, 1) := by decide +kernel
theorem dX3_oneRoom_22 : decode cX3_oneRoom 22 = .ok (.getfield 90, 3) := by decide +kernel
theorem dX3_oneRoom_25 : decode cX3_oneRoom 25 = .ok (.if_icmp .lt 36, 3) := by decide +kernel
theorem dX3_oneRoom_28 : decode cX3_oneRoom 28 = .ok (.aload_n 1, 1) := by decide +kernel
theorem dX3_oneRoom_29 : decode cX3_oneRoom 29 = .ok (.getfield 107, 3) := by decide +kernel
theorem dX3_oneRoom_32 : decode cX3_oneRoom 32 = .ok (.iload 4, 2) := by decide +kernel
theorem dX3_oneRoom_34 : decode cX3_oneRoom 34 = .ok (.aaload, 1) := by decide +kernel
theorem dX3_oneRoom_35 : decode cX3_oneRoom 35 = .ok (.aload_n 2, 1) := by decide +kernel
theorem dX3_oneRoom_36 : decode cX3_oneRoom 36 = .ok (.invokevirtual 120, 3) := by decide +kernel
theorem dX3_oneRoom_39 : decode cX3_oneRoom 39 = .ok (.ifCond .eq 22, 3) := by decide +kernel
theorem dX3_oneRoom_42 : decode cX3_oneRoom 42 = .ok (.iload_n 3, 1) := by decide +kernel
theorem dX3_oneRoom_43 : decode cX3_oneRoom 43 = .ok (.iconst (-1), 1) := by decide +kernel
theorem dX3_oneRoom_44 : decode cX3_oneRoom 44 = .ok (.if_icmp .eq 14, 3) := by decide +kernel
theorem dX3_oneRoom_47 : decode cX3_oneRoom 47 = .ok (.aload_n 0, 1) := by decide +kernel
theorem dX3_oneRoom_48 : decode cX3_oneRoom 48 = .ok (.aload_n 1, 1) := by decide +kernel
theorem dX3_oneRoom_49 : decode cX3_oneRoom 49 = .ok (.iload 4, 2) := by decide +kernel
theorem dX3_oneRoom_51 : decode cX3_oneRoom 51 = .ok (.iload_n 3, 1) := by decide +kernel
theorem dX3_oneRoom_52 : decode cX3_oneRoom 52 = .ok (.invokevirtual 124, 3) := by decide +kernel
theorem dX3_oneRoom_55 : decode cX3_oneRoom 55 = .ok (.ifCond .eq 6, 3) := by decide +kernel
theorem dX3_oneRoom_58 : decode cX3_oneRoom 58 = .ok (.iload 4, 2) := by decide +kernel
theorem dX3_oneRoom_60 : decode cX3_oneRoom 60 = .ok (.istore_n 3, 1) := by decide +kernel
theorem dX3_oneRoom_61 : decode cX3_oneRoom 61 = .ok (.iinc 4 1, 3) := by decide +kernel
theorem dX3_oneRoom_64 : decode cX3_oneRoom 64 = .ok (.goto (-59), 3) := by decide +kernel
theorem dX3_oneRoom_67 : decode cX3_oneRoom 67 = .ok (.iload_n 3, 1) := by decide +kernel
theorem dX3_oneRoom_68 : decode cX3_oneRoom 68 = .ok (.iconst (-1), 1) := by decide +kernel
theorem dX3_oneRoom_69 : decode cX3_oneRoom 69 = .ok (.if_icmp .ne 7, 3) := by decide +kernel
theorem dX3_oneRoom_72 : decode cX3_oneRoom 72 = .ok (.iconst 0, 1) := by decide +kernel
theorem dX3_oneRoom_73 : decode cX3_oneRoom 73 = .ok (.goto 6, 3) := by decide +kernel
theorem dX3_oneRoom_76 : decode cX3_oneRoom 76 = .ok (.iconst 1, 1) := by decide +kernel
theorem dX3_oneRoom_77 : decode cX3_oneRoom 77 = .ok (.iload_n 3, 1) := by decide +kernel
theorem dX3_oneRoom_78 : decode cX3_oneRoom 78 = .ok (.ishl, 1) := by decide +kernel
theorem dX3_oneRoom_79 : decode cX3_oneRoom 79 = .ok (.ireturn, 1) := by decide +kernel
theorem dX3_isBetter_0 : decode cX3_isBetter 0 = .ok (.aload_n 0, 1) := by decide +kernel
theorem dX3_isBetter_1 : decode cX3_isBetter 1 = .ok (.getfield 27, 3) := by decide +kernel
theorem dX3_isBetter_4 : decode cX3_isBetter 4 = .ok (.iload_n 2, 1) := by decide +kernel
theorem dX3_isBetter_5 : decode cX3_isBetter 5 = .ok (.iaload, 1) := by decide +kernel
theorem dX3_isBetter_6 : decode cX3_isBetter 6 = .ok (.aload_n 0, 1) := by decide +kernel
theorem dX3_isBetter_7 : decode cX3_isBetter 7 = .ok (.getfield 27, 3) := by decide +kernel
theorem dX3_isBetter_10 : decode cX3_isBetter 10 = .ok (.iload_n 3, 1) := by decide +kernel
theorem dX3_isBetter_11 : decode cX3_isBetter 11 = .ok (.iaload, 1) := by decide +kernel
theorem dX3_isBetter_12 : decode cX3_isBetter 12 = .ok (.if_icmp .lt 39, 3) := by decide +kernel
theorem dX3_isBetter_15 : decode cX3_isBetter 15 = .ok (.aload_n 0, 1) := by decide +kernel
theorem dX3_isBetter_16 : decode cX3_isBetter 16 = .ok (.getfield 27, 3) := by decide +kernel
theorem dX3_isBetter_19 : decode cX3_isBetter 19 = .ok (.iload_n 2, 1) := by decide +kernel
theorem dX3_isBetter_20 : decode cX3_isBetter 20 = .ok (.iaload, 1) := by decide +kernel
theorem dX3_isBetter_21 : decode cX3_isBetter 21 = .ok (.aload_n 0, 1) := by decide +kernel
theorem dX3_isBetter_22 : decode cX3_isBetter 22 = .ok (.getfield 27, 3) := by decide +kernel
theorem dX3_isBetter_25 : decode cX3_isBetter 25 = .ok (.iload_n 3, 1) := by decide +kernel
theorem dX3_isBetter_26 : decode cX3_isBetter 26 = .ok (.iaload, 1) := by decide +kernel
theorem dX3_isBetter_27 : decode cX3_isBetter 27 = .ok (.if_icmp .ne 28, 3) := by decide +kernel
theorem dX3_isBetter_30 : decode cX3_isBetter 30 = .ok (.aload_n 1, 1) := by decide +kernel
theorem dX3_isBetter_31 : decode cX3_isBetter 31 = .ok (.getfield 107, 3) := by decide +kernel
theorem dX3_isBetter_34 : decode cX3_isBetter 34 = .ok (.iload_n 2, 1) := by decide +kernel
theorem dX3_isBetter_35 : decode cX3_isBetter 35 = .ok (.aaload, 1) := by decide +kernel
theorem dX3_isBetter_36 : decode cX3_isBetter 36 = .ok (.getfield 128, 3) := by decide +kernel
theorem dX3_isBetter_39 : decode cX3_isBetter 39 = .ok (.aload_n 1, 1) := by decide +kernel
theorem dX3_isBetter_40 : decode cX3_isBetter 40 = .ok (.getfield 107, 3) := by decide +kernel
theorem dX3_isBetter_43 : decode cX3_isBetter 43 = .ok (.iload_n 3, 1) := by decide +kernel
theorem dX3_isBetter_44 : decode cX3_isBetter 44 = .ok (.aaload, 1) := by decide +kernel
theorem dX3_isBetter_45 : decode cX3_isBetter 45 = .ok (.getfield 128, 3) := by decide +kernel
theorem dX3_isBetter_48 : decode cX3_isBetter 48 = .ok (.if_icmp .ge 7, 3) := by decide +kernel
theorem dX3_isBetter_51 : decode cX3_isBetter 51 = .ok (.iconst 1, 1) := by decide +kernel
theorem dX3_isBetter_52 : decode cX3_isBetter 52 = .ok (.goto 4, 3) := by decide +kernel
theorem dX3_isBetter_55 : decode cX3_isBetter 55 = .ok (.iconst 0, 1) := by decide +kernel
theorem dX3_isBetter_56 : decode cX3_isBetter 56 = .ok (.ireturn, 1) := by decide +kernel
theorem dX3_fewestRooms_0 : decode cX3_fewestRooms 0 = .ok (.iconst 1, 1) := by decide +kernel
theorem dX3_fewestRooms_1 : decode cX3_fewestRooms 1 = .ok (.aload_n 1, 1) := by decide +kernel
theorem dX3_fewestRooms_2 : decode cX3_fewestRooms 2 = .ok (.getfield 104, 3) := by decide +kernel
theorem dX3_fewestRooms_5 : decode cX3_fewestRooms 5 = .ok (.ishl, 1) := by decide +kernel
theorem dX3_fewestRooms_6 : decode cX3_fewestRooms 6 = .ok (.iconst 1, 1) := by decide +kernel
theorem dX3_fewestRooms_7 : decode cX3_fewestRooms 7 = .ok (.isub, 1) := by decide +kernel
theorem dX3_fewestRooms_8 : decode cX3_fewestRooms 8 = .ok (.istore_n 3, 1) := by decide +kernel
theorem dX3_fewestRooms_9 : decode cX3_fewestRooms 9 = .ok (.aload_n 0, 1) := by decide +kernel
theorem dX3_fewestRooms_10 : decode cX3_fewestRooms 10 = .ok (.aload_n 1, 1) := by decide +kernel
theorem dX3_fewestRooms_11 : decode cX3_fewestRooms 11 = .ok (.aload_n 2, 1) := by decide +kernel
theorem dX3_fewestRooms_12 : decode cX3_fewestRooms 12 = .ok (.iload_n 3, 1) := by decide +kernel
theorem dX3_fewestRooms_13 : decode cX3_fewestRooms 13 = .ok (.invokevirtual 131, 3) := by decide +kernel
theorem dX3_fewestRooms_16 : decode cX3_fewestRooms 16 = .ok (.ifCond .ne 5, 3) := by decide +kernel
theorem dX3_fewestRooms_19 : decode cX3_fewestRooms 19 = .ok (.iconst 0, 1) := by decide +kernel
theorem dX3_fewestRooms_20 : decode cX3_fewestRooms 20 = .ok (.ireturn, 1) := by decide +kernel
theorem dX3_fewestRooms_21 : decode cX3_fewestRooms 21 = .ok (.iload_n 3, 1) := by decide +kernel
theorem dX3_fewestRooms_22 : decode cX3_fewestRooms 22 = .ok (.istore 4, 2) := by decide +kernel
theorem dX3_fewestRooms_24 : decode cX3_fewestRooms 24 = .ok (.iconst 1, 1) := by decide +kernel
theorem dX3_fewestRooms_25 : decode cX3_fewestRooms 25 = .ok (.istore 5, 2) := by decide +kernel
theorem dX3_fewestRooms_27 : decode cX3_fewestRooms 27 = .ok (.iload 5, 2) := by decide +kernel
theorem dX3_fewestRooms_29 : decode cX3_fewestRooms 29 = .ok (.iload_n 3, 1) := by decide +kernel
theorem dX3_fewestRooms_30 : decode cX3_fewestRooms 30 = .ok (.if_icmp .ge 37, 3) := by decide +kernel
theorem dX3_fewestRooms_33 : decode cX3_fewestRooms 33 = .ok (.iload 5, 2) := by decide +kernel
theorem dX3_fewestRooms_35 : decode cX3_fewestRooms 35 = .ok (.invokestatic 135, 3) := by decide +kernel
theorem dX3_fewestRooms_38 : decode cX3_fewestRooms 38 = .ok (.iload 4, 2) := by decide +kernel
theorem dX3_fewestRooms_40 : decode cX3_fewestRooms 40 = .ok (.invokestatic 135, 3) := by decide +kernel
theorem dX3_fewestRooms_43 : decode cX3_fewestRooms 43 = .ok (.if_icmp .ge 18, 3) := by decide +kernel
theorem dX3_fewestRooms_46 : decode cX3_fewestRooms 46 = .ok (.aload_n 0, 1) := by decide +kernel
theorem dX3_fewestRooms_47 : decode cX3_fewestRooms 47 = .ok (.aload_n 1, 1) := by decide +kernel
theorem dX3_fewestRooms_48 : decode cX3_fewestRooms 48 = .ok (.aload_n 2, 1) := by decide +kernel
theorem dX3_fewestRooms_49 : decode cX3_fewestRooms 49 = .ok (.iload 5, 2) := by decide +kernel
theorem dX3_fewestRooms_51 : decode cX3_fewestRooms 51 = .ok (.invokevirtual 131, 3) := by decide +kernel
theorem dX3_fewestRooms_54 : decode cX3_fewestRooms 54 = .ok (.ifCond .eq 7, 3) := by decide +kernel
theorem dX3_fewestRooms_57 : decode cX3_fewestRooms 57 = .ok (.iload 5, 2) := by decide +kernel
theorem dX3_fewestRooms_59 : decode cX3_fewestRooms 59 = .ok (.istore 4, 2) := by decide +kernel
theorem dX3_fewestRooms_61 : decode cX3_fewestRooms 61 = .ok (.iinc 5 1, 3) := by decide +kernel
theorem dX3_fewestRooms_64 : decode cX3_fewestRooms 64 = .ok (.goto (-37), 3) := by decide +kernel
theorem dX3_fewestRooms_67 : decode cX3_fewestRooms 67 = .ok (.iload 4, 2) := by decide +kernel
theorem dX3_fewestRooms_69 : decode cX3_fewestRooms 69 = .ok (.ireturn, 1) := by decide +kernel
theorem dX3_holds_0 : decode cX3_holds 0 = .ok (.iconst 0, 1) := by decide +kernel
theorem dX3_holds_1 : decode cX3_holds 1 = .ok (.istore 4, 2) := by decide +kernel
theorem dX3_holds_3 : decode cX3_holds 3 = .ok (.iconst 0, 1) := by decide +kernel
theorem dX3_holds_4 : decode cX3_holds 4 = .ok (.istore 5, 2) := by decide +kernel
theorem dX3_holds_6 : decode cX3_holds 6 = .ok (.iconst 0, 1) := by decide +kernel
theorem dX3_holds_7 : decode cX3_holds 7 = .ok (.istore 6, 2) := by decide +kernel
theorem dX3_holds_9 : decode cX3_holds 9 = .ok (.iconst 0, 1) := by decide +kernel
theorem dX3_holds_10 : decode cX3_holds 10 = .ok (.istore 7, 2) := by decide +kernel
theorem dX3_holds_12 : decode cX3_holds 12 = .ok (.iload 7, 2) := by decide +kernel
theorem dX3_holds_14 : decode cX3_holds 14 = .ok (.aload_n 1, 1) := by decide +kernel
theorem dX3_holds_15 : decode cX3_holds 15 = .ok (.getfield 104, 3) := by decide +kernel
theorem dX3_holds_18 : decode cX3_holds 18 = .ok (.if_icmp .ge 87, 3) := by decide +kernel
theorem dX3_holds_21 : decode cX3_holds 21 = .ok (.iload_n 3, 1) := by decide +kernel
theorem dX3_holds_22 : decode cX3_holds 22 = .ok (.iload 7, 2) := by decide +kernel
theorem dX3_holds_24 : decode cX3_holds 24 = .ok (.ishr, 1) := by decide +kernel
theorem dX3_holds_25 : decode cX3_holds 25 = .ok (.iconst 1, 1) := by decide +kernel
theorem dX3_holds_26 : decode cX3_holds 26 = .ok (.iand, 1) := by decide +kernel
theorem dX3_holds_27 : decode cX3_holds 27 = .ok (.aload_n 0, 1) := by decide +kernel
theorem dX3_holds_28 : decode cX3_holds 28 = .ok (.getfield 27, 3) := by decide +kernel
theorem dX3_holds_31 : decode cX3_holds 31 = .ok (.iload 7, 2) := by decide +kernel
theorem dX3_holds_33 : decode cX3_holds 33 = .ok (.iaload, 1) := by decide +kernel
theorem dX3_holds_34 : decode cX3_holds 34 = .ok (.imul, 1) := by decide +kernel
theorem dX3_holds_35 : decode cX3_holds 35 = .ok (.istore 8, 2) := by decide +kernel
theorem dX3_holds_37 : decode cX3_holds 37 = .ok (.aload_n 1, 1) := by decide +kernel
theorem dX3_holds_38 : decode cX3_holds 38 = .ok (.getfield 107, 3) := by decide +kernel
theorem dX3_holds_41 : decode cX3_holds 41 = .ok (.iload 7, 2) := by decide +kernel
theorem dX3_holds_43 : decode cX3_holds 43 = .ok (.aaload, 1) := by decide +kernel
theorem dX3_holds_44 : decode cX3_holds 44 = .ok (.getfield 141, 3) := by decide +kernel
theorem dX3_holds_47 : decode cX3_holds 47 = .ok (.lookupswitch 45 #[(1, 25), (2, 35)], 25) := by decide +kernel
theorem dX3_holds_72 : decode cX3_holds 72 = .ok (.iload 4, 2) := by decide +kernel
theorem dX3_holds_74 : decode cX3_holds 74 = .ok (.iload 8, 2) := by decide +kernel
theorem dX3_holds_76 : decode cX3_holds 76 = .ok (.iadd, 1) := by decide +kernel
theorem dX3_holds_77 : decode cX3_holds 77 = .ok (.istore 4, 2) := by decide +kernel
theorem dX3_holds_79 : decode cX3_holds 79 = .ok (.goto 20, 3) := by decide +kernel
theorem dX3_holds_82 : decode cX3_holds 82 = .ok (.iload 5, 2) := by decide +kernel
theorem dX3_holds_84 : decode cX3_holds 84 = .ok (.iload 8, 2) := by decide +kernel
theorem dX3_holds_86 : decode cX3_holds 86 = .ok (.iadd, 1) := by decide +kernel
theorem dX3_holds_87 : decode cX3_holds 87 = .ok (.istore 5, 2) := by decide +kernel
theorem dX3_holds_89 : decode cX3_holds 89 = .ok (.goto 10, 3) := by decide +kernel
theorem dX3_holds_92 : decode cX3_holds 92 = .ok (.iload 6, 2) := by decide +kernel
theorem dX3_holds_94 : decode cX3_holds 94 = .ok (.iload 8, 2) := by decide +kernel
theorem dX3_holds_96 : decode cX3_holds 96 = .ok (.iadd, 1) := by decide +kernel
theorem dX3_holds_97 : decode cX3_holds 97 = .ok (.istore 6, 2) := by decide +kernel
theorem dX3_holds_99 : decode cX3_holds 99 = .ok (.iinc 7 1, 3) := by decide +kernel
theorem dX3_holds_102 : decode cX3_holds 102 = .ok (.goto (-90), 3) := by decide +kernel
theorem dX3_holds_105 : decode cX3_holds 105 = .ok (.iconst 0, 1) := by decide +kernel
theorem dX3_holds_106 : decode cX3_holds 106 = .ok (.aload_n 2, 1) := by decide +kernel
theorem dX3_holds_107 : decode cX3_holds 107 = .ok (.getfield 144, 3) := by decide +kernel
theorem dX3_holds_110 : decode cX3_holds 110 = .ok (.iload 4, 2) := by decide +kernel
theorem dX3_holds_112 : decode cX3_holds 112 = .ok (.isub, 1) := by decide +kernel
theorem dX3_holds_113 : decode cX3_holds 113 = .ok (.invokestatic 147, 3) := by decide +kernel
theorem dX3_holds_116 : decode cX3_holds 116 = .ok (.iconst 0, 1) := by decide +kernel
theorem dX3_holds_117 : decode cX3_holds 117 = .ok (.aload_n 2, 1) := by decide +kernel
theorem dX3_holds_118 : decode cX3_holds 118 = .ok (.getfield 153, 3) := by decide +kernel
theorem dX3_holds_121 : decode cX3_holds 121 = .ok (.iload 5, 2) := by decide +kernel
theorem dX3_holds_123 : decode cX3_holds 123 = .ok (.isub, 1) := by decide +kernel
theorem dX3_holds_124 : decode cX3_holds 124 = .ok (.invokestatic 147, 3) := by decide +kernel
theorem dX3_holds_127 : decode cX3_holds 127 = .ok (.iadd, 1) := by decide +kernel
theorem dX3_holds_128 : decode cX3_holds 128 = .ok (.iload 6, 2) := by decide +kernel
theorem dX3_holds_130 : decode cX3_holds 130 = .ok (.if_icmp .gt 7, 3) := by decide +kernel
theorem dX3_holds_133 : decode cX3_holds 133 = .ok (.iconst 1, 1) := by decide +kernel
theorem dX3_holds_134 : decode cX3_holds 134 = .ok (.goto 4, 3) := by decide +kernel
theorem dX3_holds_137 : decode cX3_holds 137 = .ok (.iconst 0, 1) := by decide +kernel
theorem dX3_holds_138 : decode cX3_holds 138 = .ok (.ireturn, 1) := by decide +kernel
theorem dX3_giveBeds_0 : decode cX3_giveBeds 0 = .ok (.aload_n 1, 1) := by decide +kernel
theorem dX3_giveBeds_1 : decode cX3_giveBeds 1 = .ok (.getfield 47, 3) := by decide +kernel
theorem dX3_giveBeds_4 : decode cX3_giveBeds 4 = .ok (.iload_n 2, 1) := by decide +kernel
theorem dX3_giveBeds_5 : decode cX3_giveBeds 5 = .ok (.aaload, 1) := by decide +kernel
theorem dX3_giveBeds_6 : decode cX3_giveBeds 6 = .ok (.astore 4, 2) := by decide +kernel
theorem dX3_giveBeds_8 : decode cX3_giveBeds 8 = .ok (.aload 4, 2) := by decide +kernel
theorem dX3_giveBeds_10 : decode cX3_giveBeds 10 = .ok (.invokevirtual 100, 3) := by decide +kernel
theorem dX3_giveBeds_13 : decode cX3_giveBeds 13 = .ok (.istore 5, 2) := by decide +kernel
theorem dX3_giveBeds_15 : decode cX3_giveBeds 15 = .ok (.iconst 0, 1) := by decide +kernel
theorem dX3_giveBeds_16 : decode cX3_giveBeds 16 = .ok (.istore 6, 2) := by decide +kernel
theorem dX3_giveBeds_18 : decode cX3_giveBeds 18 = .ok (.iconst 0, 1) := by decide +kernel
theorem dX3_giveBeds_19 : decode cX3_giveBeds 19 = .ok (.istore 7, 2) := by decide +kernel
theorem dX3_giveBeds_21 : decode cX3_giveBeds 21 = .ok (.iload 7, 2) := by decide +kernel
theorem dX3_giveBeds_23 : decode cX3_giveBeds 23 = .ok (.aload 4, 2) := by decide +kernel
theorem dX3_giveBeds_25 : decode cX3_giveBeds 25 = .ok (.getfield 90, 3) := by decide +kernel
theorem dX3_giveBeds_28 : decode cX3_giveBeds 28 = .ok (.if_icmp .ge 107, 3) := by decide +kernel
theorem dX3_giveBeds_31 : decode cX3_giveBeds 31 = .ok (.aload_n 0, 1) := by decide +kernel
theorem dX3_giveBeds_32 : decode cX3_giveBeds 32 = .ok (.aload_n 1, 1) := by decide +kernel
theorem dX3_giveBeds_33 : decode cX3_giveBeds 33 = .ok (.iload_n 3, 1) := by decide +kernel
theorem dX3_giveBeds_34 : decode cX3_giveBeds 34 = .ok (.iload 7, 2) := by decide +kernel
theorem dX3_giveBeds_36 : decode cX3_giveBeds 36 = .ok (.aload 4, 2) := by decide +kernel
theorem dX3_giveBeds_38 : decode cX3_giveBeds 38 = .ok (.getfield 144, 3) := by decide +kernel
theorem dX3_giveBeds_41 : decode cX3_giveBeds 41 = .ok (.if_icmp .ge 7, 3) := by decide +kernel
theorem dX3_giveBeds_44 : decode cX3_giveBeds 44 = .ok (.iconst 1, 1) := by decide +kernel
theorem dX3_giveBeds_45 : decode cX3_giveBeds 45 = .ok (.goto 4, 3) := by decide +kernel
theorem dX3_giveBeds_48 : decode cX3_giveBeds 48 = .ok (.iconst 2, 1) := by decide +kernel
theorem dX3_giveBeds_49 : decode cX3_giveBeds 49 = .ok (.iload 5, 2) := by decide +kernel
theorem dX3_giveBeds_51 : decode cX3_giveBeds 51 = .ok (.invokevirtual 156, 3) := by decide +kernel
theorem dX3_giveBeds_54 : decode cX3_giveBeds 54 = .ok (.istore 8, 2) := by decide +kernel
theorem dX3_giveBeds_56 : decode cX3_giveBeds 56 = .ok (.iload 8, 2) := by decide +kernel
theorem dX3_giveBeds_58 : decode cX3_giveBeds 58 = .ok (.iconst (-1), 1) := by decide +kernel
theorem dX3_giveBeds_59 : decode cX3_giveBeds 59 = .ok (.if_icmp .ne 14, 3) := by decide +kernel
theorem dX3_giveBeds_62 : decode cX3_giveBeds 62 = .ok (.aload_n 0, 1) := by decide +kernel
theorem dX3_giveBeds_63 : decode cX3_giveBeds 63 = .ok (.aload_n 1, 1) := by decide +kernel
theorem dX3_giveBeds_64 : decode cX3_giveBeds 64 = .ok (.iload_n 3, 1) := by decide +kernel
theorem dX3_giveBeds_65 : decode cX3_giveBeds 65 = .ok (.iconst 0, 1) := by decide +kernel
theorem dX3_giveBeds_66 : decode cX3_giveBeds 66 = .ok (.iload 5, 2) := by decide +kernel
theorem dX3_giveBeds_68 : decode cX3_giveBeds 68 = .ok (.invokevirtual 156, 3) := by decide +kernel
theorem dX3_giveBeds_71 : decode cX3_giveBeds 71 = .ok (.istore 8, 2) := by decide +kernel
theorem dX3_giveBeds_73 : decode cX3_giveBeds 73 = .ok (.iload 8, 2) := by decide +kernel
theorem dX3_giveBeds_75 : decode cX3_giveBeds 75 = .ok (.iconst (-1), 1) := by decide +kernel
theorem dX3_giveBeds_76 : decode cX3_giveBeds 76 = .ok (.if_icmp .eq 53, 3) := by decide +kernel
theorem dX3_giveBeds_79 : decode cX3_giveBeds 79 = .ok (.aload_n 0, 1) := by decide +kernel
theorem dX3_giveBeds_80 : decode cX3_giveBeds 80 = .ok (.getfield 9, 3) := by decide +kernel
theorem dX3_giveBeds_83 : decode cX3_giveBeds 83 = .ok (.iload 8, 2) := by decide +kernel
theorem dX3_giveBeds_85 : decode cX3_giveBeds 85 = .ok (.dup2, 1) := by decide +kernel
theorem dX3_giveBeds_86 : decode cX3_giveBeds 86 = .ok (.iaload, 1) := by decide +kernel
theorem dX3_giveBeds_87 : decode cX3_giveBeds 87 = .ok (.iload 5, 2) := by decide +kernel
theorem dX3_giveBeds_89 : decode cX3_giveBeds 89 = .ok (.ior, 1) := by decide +kernel
theorem dX3_giveBeds_90 : decode cX3_giveBeds 90 = .ok (.iastore, 1) := by decide +kernel
theorem dX3_giveBeds_91 : decode cX3_giveBeds 91 = .ok (.aload_n 0, 1) := by decide +kernel
theorem dX3_giveBeds_92 : decode cX3_giveBeds 92 = .ok (.getfield 15, 3) := by decide +kernel
theorem dX3_giveBeds_95 : decode cX3_giveBeds 95 = .ok (.iload_n 2, 1) := by decide +kernel
theorem dX3_giveBeds_96 : decode cX3_giveBeds 96 = .ok (.bipush 12, 2) := by decide +kernel
theorem dX3_giveBeds_98 : decode cX3_giveBeds 98 = .ok (.imul, 1) := by decide +kernel
theorem dX3_giveBeds_99 : decode cX3_giveBeds 99 = .ok (.iload 7, 2) := by decide +kernel
theorem dX3_giveBeds_101 : decode cX3_giveBeds 101 = .ok (.iadd, 1) := by decide +kernel
theorem dX3_giveBeds_102 : decode cX3_giveBeds 102 = .ok (.iload 8, 2) := by decide +kernel
theorem dX3_giveBeds_104 : decode cX3_giveBeds 104 = .ok (.iastore, 1) := by decide +kernel
theorem dX3_giveBeds_105 : decode cX3_giveBeds 105 = .ok (.iload 6, 2) := by decide +kernel
theorem dX3_giveBeds_107 : decode cX3_giveBeds 107 = .ok (.aload_n 1, 1) := by decide +kernel
theorem dX3_giveBeds_108 : decode cX3_giveBeds 108 = .ok (.getfield 107, 3) := by decide +kernel
theorem dX3_giveBeds_111 : decode cX3_giveBeds 111 = .ok (.iload 8, 2) := by decide +kernel
theorem dX3_giveBeds_113 : decode cX3_giveBeds 113 = .ok (.bipush 10, 2) := by decide +kernel
theorem dX3_giveBeds_115 : decode cX3_giveBeds 115 = .ok (.idiv, 1) := by decide +kernel
theorem dX3_giveBeds_116 : decode cX3_giveBeds 116 = .ok (.aaload, 1) := by decide +kernel
theorem dX3_giveBeds_117 : decode cX3_giveBeds 117 = .ok (.getfield 128, 3) := by decide +kernel
theorem dX3_giveBeds_120 : decode cX3_giveBeds 120 = .ok (.aload 4, 2) := by decide +kernel
theorem dX3_giveBeds_122 : decode cX3_giveBeds 122 = .ok (.getfield 93, 3) := by decide +kernel
theorem dX3_giveBeds_125 : decode cX3_giveBeds 125 = .ok (.imul, 1) := by decide +kernel
theorem dX3_giveBeds_126 : decode cX3_giveBeds 126 = .ok (.iadd, 1) := by decide +kernel
theorem dX3_giveBeds_127 : decode cX3_giveBeds 127 = .ok (.istore 6, 2) := by decide +kernel
theorem dX3_giveBeds_129 : decode cX3_giveBeds 129 = .ok (.iinc 7 1, 3) := by decide +kernel
theorem dX3_giveBeds_132 : decode cX3_giveBeds 132 = .ok (.goto (-111), 3) := by decide +kernel
theorem dX3_giveBeds_135 : decode cX3_giveBeds 135 = .ok (.aload 4, 2) := by decide +kernel
theorem dX3_giveBeds_137 : decode cX3_giveBeds 137 = .ok (.getfield 93, 3) := by decide +kernel
theorem dX3_giveBeds_140 : decode cX3_giveBeds 140 = .ok (.aload_n 1, 1) := by decide +kernel
theorem dX3_giveBeds_141 : decode cX3_giveBeds 141 = .ok (.getfield 160, 3) := by decide +kernel
theorem dX3_giveBeds_144 : decode cX3_giveBeds 144 = .ok (.if_icmp .lt 19, 3) := by decide +kernel
theorem dX3_giveBeds_147 : decode cX3_giveBeds 147 = .ok (.iload 6, 2) := by decide +kernel
theorem dX3_giveBeds_149 : decode cX3_giveBeds 149 = .ok (.bipush 100, 2) := by decide +kernel
theorem dX3_giveBeds_151 : decode cX3_giveBeds 151 = .ok (.aload_n 1, 1) := by decide +kernel
theorem dX3_giveBeds_152 : decode cX3_giveBeds 152 = .ok (.getfield 163, 3) := by decide +kernel
theorem dX3_giveBeds_155 : decode cX3_giveBeds 155 = .ok (.isub, 1) := by decide +kernel
theorem dX3_giveBeds_156 : decode cX3_giveBeds 156 = .ok (.imul, 1) := by decide +kernel
theorem dX3_giveBeds_157 : decode cX3_giveBeds 157 = .ok (.bipush 100, 2) := by decide +kernel
theorem dX3_giveBeds_159 : decode cX3_giveBeds 159 = .ok (.idiv, 1) := by decide +kernel
theorem dX3_giveBeds_160 : decode cX3_giveBeds 160 = .ok (.goto 5, 3) := by decide +kernel
theorem dX3_giveBeds_163 : decode cX3_giveBeds 163 = .ok (.iload 6, 2) := by decide +kernel
theorem dX3_giveBeds_165 : decode cX3_giveBeds 165 = .ok (.ireturn, 1) := by decide +kernel
theorem dX3_firstFree_0 : decode cX3_firstFree 0 = .ok (.iconst 0, 1) := by decide +kernel
theorem dX3_firstFree_1 : decode cX3_firstFree 1 = .ok (.istore 5, 2) := by decide +kernel
theorem dX3_firstFree_3 : decode cX3_firstFree 3 = .ok (.iload 5, 2) := by decide +kernel
theorem dX3_firstFree_5 : decode cX3_firstFree 5 = .ok (.aload_n 1, 1) := by decide +kernel
theorem dX3_firstFree_6 : decode cX3_firstFree 6 = .ok (.getfield 104, 3) := by decide +kernel
theorem dX3_firstFree_9 : decode cX3_firstFree 9 = .ok (.if_icmp .ge 84, 3) := by decide +kernel
theorem dX3_firstFree_12 : decode cX3_firstFree 12 = .ok (.aload_n 1, 1) := by decide +kernel
theorem dX3_firstFree_13 : decode cX3_firstFree 13 = .ok (.getfield 107, 3) := by decide +kernel
theorem dX3_firstFree_16 : decode cX3_firstFree 16 = .ok (.iload 5, 2) := by decide +kernel
theorem dX3_firstFree_18 : decode cX3_firstFree 18 = .ok (.aaload, 1) := by decide +kernel
theorem dX3_firstFree_19 : decode cX3_firstFree 19 = .ok (.astore 6, 2) := by decide +kernel
theorem dX3_firstFree_21 : decode cX3_firstFree 21 = .ok (.iconst 0, 1) := by decide +kernel
theorem dX3_firstFree_22 : decode cX3_firstFree 22 = .ok (.istore 7, 2) := by decide +kernel
theorem dX3_firstFree_24 : decode cX3_firstFree 24 = .ok (.iload 7, 2) := by decide +kernel
theorem dX3_firstFree_26 : decode cX3_firstFree 26 = .ok (.aload 6, 2) := by decide +kernel
theorem dX3_firstFree_28 : decode cX3_firstFree 28 = .ok (.getfield 111, 3) := by decide +kernel
theorem dX3_firstFree_31 : decode cX3_firstFree 31 = .ok (.if_icmp .ge 56, 3) := by decide +kernel
theorem dX3_firstFree_34 : decode cX3_firstFree 34 = .ok (.iload_n 2, 1) := by decide +kernel
theorem dX3_firstFree_35 : decode cX3_firstFree 35 = .ok (.iload 5, 2) := by decide +kernel
theorem dX3_firstFree_37 : decode cX3_firstFree 37 = .ok (.ishr, 1) := by decide +kernel
theorem dX3_firstFree_38 : decode cX3_firstFree 38 = .ok (.iconst 1, 1) := by decide +kernel
theorem dX3_firstFree_39 : decode cX3_firstFree 39 = .ok (.iand, 1) := by decide +kernel
theorem dX3_firstFree_40 : decode cX3_firstFree 40 = .ok (.iconst 1, 1) := by decide +kernel
theorem dX3_firstFree_41 : decode cX3_firstFree 41 = .ok (.if_icmp .ne 40, 3) := by decide +kernel
theorem dX3_firstFree_44 : decode cX3_firstFree 44 = .ok (.aload 6, 2) := by decide +kernel
theorem dX3_firstFree_46 : decode cX3_firstFree 46 = .ok (.getfield 141, 3) := by decide +kernel
theorem dX3_firstFree_49 : decode cX3_firstFree 49 = .ok (.iload_n 3, 1) := by decide +kernel
theorem dX3_firstFree_50 : decode cX3_firstFree 50 = .ok (.if_icmp .ne 31, 3) := by decide +kernel
theorem dX3_firstFree_53 : decode cX3_firstFree 53 = .ok (.aload_n 0, 1) := by decide +kernel
theorem dX3_firstFree_54 : decode cX3_firstFree 54 = .ok (.getfield 9, 3) := by decide +kernel
theorem dX3_firstFree_57 : decode cX3_firstFree 57 = .ok (.iload 5, 2) := by decide +kernel
theorem dX3_firstFree_59 : decode cX3_firstFree 59 = .ok (.bipush 10, 2) := by decide +kernel
theorem dX3_firstFree_61 : decode cX3_firstFree 61 = .ok (.imul, 1) := by decide +kernel
theorem dX3_firstFree_62 : decode cX3_firstFree 62 = .ok (.iload 7, 2) := by decide +kernel
theorem dX3_firstFree_64 : decode cX3_firstFree 64 = .ok (.iadd, 1) := by decide +kernel
theorem dX3_firstFree_65 : decode cX3_firstFree 65 = .ok (.iaload, 1) := by decide +kernel
theorem dX3_firstFree_66 : decode cX3_firstFree 66 = .ok (.iload 4, 2) := by decide +kernel
theorem dX3_firstFree_68 : decode cX3_firstFree 68 = .ok (.iand, 1) := by decide +kernel
theorem dX3_firstFree_69 : decode cX3_firstFree 69 = .ok (.ifCond .ne 12, 3) := by decide +kernel
theorem dX3_firstFree_72 : decode cX3_firstFree 72 = .ok (.iload 5, 2) := by decide +kernel
theorem dX3_firstFree_74 : decode cX3_firstFree 74 = .ok (.bipush 10, 2) := by decide +kernel
theorem dX3_firstFree_76 : decode cX3_firstFree 76 = .ok (.imul, 1) := by decide +kernel
theorem dX3_firstFree_77 : decode cX3_firstFree 77 = .ok (.iload 7, 2) := by decide +kernel
theorem dX3_firstFree_79 : decode cX3_firstFree 79 = .ok (.iadd, 1) := by decide +kernel
theorem dX3_firstFree_80 : decode cX3_firstFree 80 = .ok (.ireturn, 1) := by decide +kernel
theorem dX3_firstFree_81 : decode cX3_firstFree 81 = .ok (.iinc 7 1, 3) := by decide +kernel
theorem dX3_firstFree_84 : decode cX3_firstFree 84 = .ok (.goto (-60), 3) := by decide +kernel
theorem dX3_firstFree_87 : decode cX3_firstFree 87 = .ok (.iinc 5 1, 3) := by decide +kernel
theorem dX3_firstFree_90 : decode cX3_firstFree 90 = .ok (.goto (-87), 3) := by decide +kernel
theorem dX3_firstFree_93 : decode cX3_firstFree 93 = .ok (.iconst (-1), 1) := by decide +kernel
theorem dX3_firstFree_94 : decode cX3_firstFree 94 = .ok (.ireturn, 1) := by decide +kernel
theorem dX4_init_0 : decode cX4_init 0 = .ok (.aload_n 0, 1) := by decide +kernel
theorem dX4_init_1 : decode cX4_init 1 = .ok (.invokespecial 3, 3) := by decide +kernel
theorem dX4_init_4 : decode cX4_init 4 = .ok (.return_, 1) := by decide +kernel
theorem dX4_copy_0 : decode cX4_copy 0 = .ok (.aload_n 0, 1) := by decide +kernel
theorem dX4_copy_1 : decode cX4_copy 1 = .ok (.aload_n 1, 1) := by decide +kernel
theorem dX4_copy_2 : decode cX4_copy 2 = .ok (.getfield 9, 3) := by decide +kernel
theorem dX4_copy_5 : decode cX4_copy 5 = .ok (.putfield 9, 3) := by decide +kernel
theorem dX4_copy_8 : decode cX4_copy 8 = .ok (.aload_n 0, 1) := by decide +kernel
theorem dX4_copy_9 : decode cX4_copy 9 = .ok (.aload_n 1, 1) := by decide +kernel
theorem dX4_copy_10 : decode cX4_copy 10 = .ok (.getfield 15, 3) := by decide +kernel
theorem dX4_copy_13 : decode cX4_copy 13 = .ok (.putfield 15, 3) := by decide +kernel
theorem dX4_copy_16 : decode cX4_copy 16 = .ok (.aload_n 0, 1) := by decide +kernel
theorem dX4_copy_17 : decode cX4_copy 17 = .ok (.aload_n 1, 1) := by decide +kernel
theorem dX4_copy_18 : decode cX4_copy 18 = .ok (.getfield 19, 3) := by decide +kernel
theorem dX4_copy_21 : decode cX4_copy 21 = .ok (.putfield 19, 3) := by decide +kernel
theorem dX4_copy_24 : decode cX4_copy 24 = .ok (.aload_n 0, 1) := by decide +kernel
theorem dX4_copy_25 : decode cX4_copy 25 = .ok (.aload_n 1, 1) := by decide +kernel
theorem dX4_copy_26 : decode cX4_copy 26 = .ok (.getfield 22, 3) := by decide +kernel
theorem dX4_copy_29 : decode cX4_copy 29 = .ok (.putfield 22, 3) := by decide +kernel
theorem dX4_copy_32 : decode cX4_copy 32 = .ok (.aload_n 0, 1) := by decide +kernel
theorem dX4_copy_33 : decode cX4_copy 33 = .ok (.aload_n 1, 1) := by decide +kernel
theorem dX4_copy_34 : decode cX4_copy 34 = .ok (.getfield 25, 3) := by decide +kernel
theorem dX4_copy_37 : decode cX4_copy 37 = .ok (.putfield 25, 3) := by decide +kernel
theorem dX4_copy_40 : decode cX4_copy 40 = .ok (.return_, 1) := by decide +kernel
theorem dX4_takesAll_0 : decode cX4_takesAll 0 = .ok (.aload_n 0, 1) := by decide +kernel
theorem dX4_takesAll_1 : decode cX4_takesAll 1 = .ok (.getfield 15, 3) := by decide +kernel
theorem dX4_takesAll_4 : decode cX4_takesAll 4 = .ok (.ifCond .eq 33, 3) := by decide +kernel
theorem dX4_takesAll_7 : decode cX4_takesAll 7 = .ok (.aload_n 0, 1) := by decide +kernel
theorem dX4_takesAll_8 : decode cX4_takesAll 8 = .ok (.getfield 15, 3) := by decide +kernel
theorem dX4_takesAll_11 : decode cX4_takesAll 11 = .ok (.iconst 1, 1) := by decide +kernel
theorem dX4_takesAll_12 : decode cX4_takesAll 12 = .ok (.if_icmp .ne 10, 3) := by decide +kernel
theorem dX4_takesAll_15 : decode cX4_takesAll 15 = .ok (.aload_n 1, 1) := by decide +kernel
theorem dX4_takesAll_16 : decode cX4_takesAll 16 = .ok (.getfield 28, 3) := by decide +kernel
theorem dX4_takesAll_19 : decode cX4_takesAll 19 = .ok (.ifCond .eq 18, 3) := by decide +kernel
theorem dX4_takesAll_22 : decode cX4_takesAll 22 = .ok (.aload_n 0, 1) := by decide +kernel
theorem dX4_takesAll_23 : decode cX4_takesAll 23 = .ok (.getfield 15, 3) := by decide +kernel
theorem dX4_takesAll_26 : decode cX4_takesAll 26 = .ok (.iconst 2, 1) := by decide +kernel
theorem dX4_takesAll_27 : decode cX4_takesAll 27 = .ok (.if_icmp .ne 14, 3) := by decide +kernel
theorem dX4_takesAll_30 : decode cX4_takesAll 30 = .ok (.aload_n 1, 1) := by decide +kernel
theorem dX4_takesAll_31 : decode cX4_takesAll 31 = .ok (.getfield 33, 3) := by decide +kernel
theorem dX4_takesAll_34 : decode cX4_takesAll 34 = .ok (.ifCond .ne 7, 3) := by decide +kernel
theorem dX4_takesAll_37 : decode cX4_takesAll 37 = .ok (.iconst 1, 1) := by decide +kernel
theorem dX4_takesAll_38 : decode cX4_takesAll 38 = .ok (.goto 4, 3) := by decide +kernel
theorem dX4_takesAll_41 : decode cX4_takesAll 41 = .ok (.iconst 0, 1) := by decide +kernel
theorem dX4_takesAll_42 : decode cX4_takesAll 42 = .ok (.ireturn, 1) := by decide +kernel
theorem dX5_init_0 : decode cX5_init 0 = .ok (.aload_n 0, 1) := by decide +kernel
theorem dX5_init_1 : decode cX5_init 1 = .ok (.invokespecial 3, 3) := by decide +kernel
theorem dX5_init_4 : decode cX5_init 4 = .ok (.aload_n 0, 1) := by decide +kernel
theorem dX5_init_5 : decode cX5_init 5 = .ok (.new 9, 3) := by decide +kernel
theorem dX5_init_8 : decode cX5_init 8 = .ok (.dup, 1) := by decide +kernel
theorem dX5_init_9 : decode cX5_init 9 = .ok (.invokespecial 11, 3) := by decide +kernel
theorem dX5_init_12 : decode cX5_init 12 = .ok (.putfield 12, 3) := by decide +kernel
theorem dX5_init_15 : decode cX5_init 15 = .ok (.aload_n 0, 1) := by decide +kernel
theorem dX5_init_16 : decode cX5_init 16 = .ok (.iconst (-1), 1) := by decide +kernel
theorem dX5_init_17 : decode cX5_init 17 = .ok (.putfield 16, 3) := by decide +kernel
theorem dX5_init_20 : decode cX5_init 20 = .ok (.aload_n 0, 1) := by decide +kernel
theorem dX5_init_21 : decode cX5_init 21 = .ok (.new 20, 3) := by decide +kernel
theorem dX5_init_24 : decode cX5_init 24 = .ok (.dup, 1) := by decide +kernel
theorem dX5_init_25 : decode cX5_init 25 = .ok (.invokespecial 22, 3) := by decide +kernel
theorem dX5_init_28 : decode cX5_init 28 = .ok (.putfield 23, 3) := by decide +kernel
theorem dX5_init_31 : decode cX5_init 31 = .ok (.aload_n 0, 1) := by decide +kernel
theorem dX5_init_32 : decode cX5_init 32 = .ok (.new 20, 3) := by decide +kernel
theorem dX5_init_35 : decode cX5_init 35 = .ok (.dup, 1) := by decide +kernel
theorem dX5_init_36 : decode cX5_init 36 = .ok (.invokespecial 22, 3) := by decide +kernel
theorem dX5_init_39 : decode cX5_init 39 = .ok (.putfield 27, 3) := by decide +kernel
theorem dX5_init_42 : decode cX5_init 42 = .ok (.aload_n 0, 1) := by decide +kernel
theorem dX5_init_43 : decode cX5_init 43 = .ok (.new 30, 3) := by decide +kernel
theorem dX5_init_46 : decode cX5_init 46 = .ok (.dup, 1) := by decide +kernel
theorem dX5_init_47 : decode cX5_init 47 = .ok (.invokespecial 32, 3) := by decide +kernel
theorem dX5_init_50 : decode cX5_init 50 = .ok (.putfield 33, 3) := by decide +kernel
theorem dX5_init_53 : decode cX5_init 53 = .ok (.aload_n 0, 1) := by decide +kernel
theorem dX5_init_54 : decode cX5_init 54 = .ok (.new 30, 3) := by decide +kernel
theorem dX5_init_57 : decode cX5_init 57 = .ok (.dup, 1) := by decide +kernel
theorem dX5_init_58 : decode cX5_init 58 = .ok (.invokespecial 32, 3) := by decide +kernel
theorem dX5_init_61 : decode cX5_init 61 = .ok (.putfield 37, 3) := by decide +kernel
theorem dX5_init_64 : decode cX5_init 64 = .ok (.aload_n 0, 1) := by decide +kernel
theorem dX5_init_65 : decode cX5_init 65 = .ok (.bipush 10, 2) := by decide +kernel
theorem dX5_init_67 : decode cX5_init 67 = .ok (.anewarray 20, 3) := by decide +kernel
theorem dX5_init_70 : decode cX5_init 70 = .ok (.putfield 40, 3) := by decide +kernel
theorem dX5_init_73 : decode cX5_init 73 = .ok (.aload_n 0, 1) := by decide +kernel
theorem dX5_init_74 : decode cX5_init 74 = .ok (.sipush 193, 3) := by decide +kernel
theorem dX5_init_77 : decode cX5_init 77 = .ok (.newarray .double, 2) := by decide +kernel
theorem dX5_init_79 : decode cX5_init 79 = .ok (.putfield 44, 3) := by decide +kernel
theorem dX5_init_82 : decode cX5_init 82 = .ok (.aload_n 0, 1) := by decide +kernel
theorem dX5_init_83 : decode cX5_init 83 = .ok (.sipush 160, 3) := by decide +kernel
theorem dX5_init_86 : decode cX5_init 86 = .ok (.newarray .char, 2) := by decide +kernel
theorem dX5_init_88 : decode cX5_init 88 = .ok (.putfield 48, 3) := by decide +kernel
theorem dX5_init_91 : decode cX5_init 91 = .ok (.iconst 0, 1) := by decide +kernel
theorem dX5_init_92 : decode cX5_init 92 = .ok (.istore_n 1, 1) := by decide +kernel
theorem dX5_init_93 : decode cX5_init 93 = .ok (.iload_n 1, 1) := by decide +kernel
theorem dX5_init_94 : decode cX5_init 94 = .ok (.aload_n 0, 1) := by decide +kernel
theorem dX5_init_95 : decode cX5_init 95 = .ok (.getfield 40, 3) := by decide +kernel
theorem dX5_init_98 : decode cX5_init 98 = .ok (.arraylength, 1) := by decide +kernel
theorem dX5_init_99 : decode cX5_init 99 = .ok (.if_icmp .ge 22, 3) := by decide +kernel
theorem dX5_init_102 : decode cX5_init 102 = .ok (.aload_n 0, 1) := by decide +kernel
theorem dX5_init_103 : decode cX5_init 103 = .ok (.getfield 40, 3) := by decide +kernel
theorem dX5_init_106 : decode cX5_init 106 = .ok (.iload_n 1, 1) := by decide +kernel
theorem dX5_init_107 : decode cX5_init 107 = .ok (.new 20, 3) := by decide +kernel
theorem dX5_init_110 : decode cX5_init 110 = .ok (.dup, 1) := by decide +kernel
theorem dX5_init_111 : decode cX5_init 111 = .ok (.invokespecial 22, 3) := by decide +kernel
theorem dX5_init_114 : decode cX5_init 114 = .ok (.aastore, 1) := by decide +kernel
theorem dX5_init_115 : decode cX5_init 115 = .ok (.iinc 1 1, 3) := by decide +kernel
theorem dX5_init_118 : decode cX5_init 118 = .ok (.goto (-25), 3) := by decide +kernel
theorem dX5_init_121 : decode cX5_init 121 = .ok (.return_, 1) := by decide +kernel
theorem dX5_append_0 : decode cX5_append 0 = .ok (.aload_n 0, 1) := by decide +kernel
theorem dX5_append_1 : decode cX5_append 1 = .ok (.getfield 12, 3) := by decide +kernel
theorem dX5_append_4 : decode cX5_append 4 = .ok (.getfield 52, 3) := by decide +kernel
theorem dX5_append_7 : decode cX5_append 7 = .ok (.bipush 20, 2) := by decide +kernel
theorem dX5_append_9 : decode cX5_append 9 = .ok (.iadd, 1) := by decide +kernel
theorem dX5_append_10 : decode cX5_append 10 = .ok (.sipush 700, 3) := by decide +kernel
theorem dX5_append_13 : decode cX5_append 13 = .ok (.if_icmp .le 13, 3) := by decide +kernel
theorem dX5_append_16 : decode cX5_append 16 = .ok (.new 55, 3) := by decide +kernel
theorem dX5_append_19 : decode cX5_append 19 = .ok (.dup, 1) := by decide +kernel
theorem dX5_append_20 : decode cX5_append 20 = .ok (.ldc 57, 2) := by decide +kernel
theorem dX5_append_22 : decode cX5_append 22 = .ok (.invokespecial 59, 3) := by decide +kernel
theorem dX5_append_25 : decode cX5_append 25 = .ok (.athrow, 1) := by decide +kernel
theorem dX5_append_26 : decode cX5_append 26 = .ok (.aload_n 0, 1) := by decide +kernel
theorem dX5_append_27 : decode cX5_append 27 = .ok (.getfield 12, 3) := by decide +kernel
theorem dX5_append_30 : decode cX5_append 30 = .ok (.iload_n 1, 1) := by decide +kernel
theorem dX5_append_31 : decode cX5_append 31 = .ok (.invokevirtual 62, 3) := by decide +kernel
theorem dX5_append_34 : decode cX5_append 34 = .ok (.aload_n 0, 1) := by decide +kernel
theorem dX5_append_35 : decode cX5_append 35 = .ok (.getfield 12, 3) := by decide +kernel
theorem dX5_append_38 : decode cX5_append 38 = .ok (.iload_n 2, 1) := by decide +kernel
theorem dX5_append_39 : decode cX5_append 39 = .ok (.invokevirtual 62, 3) := by decide +kernel
theorem dX5_append_42 : decode cX5_append 42 = .ok (.aload_n 0, 1) := by decide +kernel
theorem dX5_append_43 : decode cX5_append 43 = .ok (.getfield 12, 3) := by decide +kernel
theorem dX5_append_46 : decode cX5_append 46 = .ok (.iload_n 3, 1) := by decide +kernel
theorem dX5_append_47 : decode cX5_append 47 = .ok (.invokevirtual 62, 3) := by decide +kernel
theorem dX5_append_50 : decode cX5_append 50 = .ok (.aload_n 0, 1) := by decide +kernel
theorem dX5_append_51 : decode cX5_append 51 = .ok (.getfield 12, 3) := by decide +kernel
theorem dX5_append_54 : decode cX5_append 54 = .ok (.iload 4, 2) := by decide +kernel
theorem dX5_append_56 : decode cX5_append 56 = .ok (.invokevirtual 62, 3) := by decide +kernel
theorem dX5_append_59 : decode cX5_append 59 = .ok (.aload_n 0, 1) := by decide +kernel
theorem dX5_append_60 : decode cX5_append 60 = .ok (.getfield 12, 3) := by decide +kernel
theorem dX5_append_63 : decode cX5_append 63 = .ok (.iload 5, 2) := by decide +kernel
theorem dX5_append_65 : decode cX5_append 65 = .ok (.invokevirtual 62, 3) := by decide +kernel
theorem dX5_append_68 : decode cX5_append 68 = .ok (.aload_n 0, 1) := by decide +kernel
theorem dX5_append_69 : decode cX5_append 69 = .ok (.getfield 12, 3) := by decide +kernel
theorem dX5_append_72 : decode cX5_append 72 = .ok (.getfield 52, 3) := by decide +kernel
theorem dX5_append_75 : decode cX5_append 75 = .ok (.ireturn, 1) := by decide +kernel
theorem dX5_truncate_0 : decode cX5_truncate 0 = .ok (.iload_n 1, 1) := by decide +kernel
theorem dX5_truncate_1 : decode cX5_truncate 1 = .ok (.ifCond .lt 14, 3) := by decide +kernel
theorem dX5_truncate_4 : decode cX5_truncate 4 = .ok (.iload_n 1, 1) := by decide +kernel
theorem dX5_truncate_5 : decode cX5_truncate 5 = .ok (.aload_n 0, 1) := by decide +kernel
theorem dX5_truncate_6 : decode cX5_truncate 6 = .ok (.getfield 12, 3) := by decide +kernel
theorem dX5_truncate_9 : decode cX5_truncate 9 = .ok (.getfield 52, 3) := by decide +kernel
theorem dX5_truncate_12 : decode cX5_truncate 12 = .ok (.if_icmp .le 13, 3) := by decide +kernel
theorem dX5_truncate_15 : decode cX5_truncate 15 = .ok (.new 66, 3) := by decide +kernel
theorem dX5_truncate_18 : decode cX5_truncate 18 = .ok (.dup, 1) := by decide +kernel
theorem dX5_truncate_19 : decode cX5_truncate 19 = .ok (.ldc 68, 2) := by decide +kernel
theorem dX5_truncate_21 : decode cX5_truncate 21 = .ok (.invokespecial 70, 3) := by decide +kernel
theorem dX5_truncate_24 : decode cX5_truncate 24 = .ok (.athrow, 1) := by decide +kernel
theorem dX5_truncate_25 : decode cX5_truncate 25 = .ok (.aload_n 0, 1) := by decide +kernel
theorem dX5_truncate_26 : decode cX5_truncate 26 = .ok (.getfield 12, 3) := by decide +kernel
theorem dX5_truncate_29 : decode cX5_truncate 29 = .ok (.iload_n 1, 1) := by decide +kernel
theorem dX5_truncate_30 : decode cX5_truncate 30 = .ok (.putfield 52, 3) := by decide +kernel
theorem dX5_truncate_33 : decode cX5_truncate 33 = .ok (.return_, 1) := by decide +kernel
theorem dX5_load_0 : decode cX5_load 0 = .ok (.aload_n 0, 1) := by decide +kernel
theorem dX5_load_1 : decode cX5_load 1 = .ok (.aload_n 0, 1) := by decide +kernel
theorem dX5_load_2 : decode cX5_load 2 = .ok (.getfield 12, 3) := by decide +kernel
theorem dX5_load_5 : decode cX5_load 5 = .ok (.aload_n 0, 1) := by decide +kernel
theorem dX5_load_6 : decode cX5_load 6 = .ok (.getfield 27, 3) := by decide +kernel
theorem dX5_load_9 : decode cX5_load 9 = .ok (.invokevirtual 71, 3) := by decide +kernel
theorem dX5_load_12 : decode cX5_load 12 = .ok (.putfield 16, 3) := by decide +kernel
theorem dX5_load_15 : decode cX5_load 15 = .ok (.aload_n 0, 1) := by decide +kernel
theorem dX5_load_16 : decode cX5_load 16 = .ok (.getfield 12, 3) := by decide +kernel
theorem dX5_load_19 : decode cX5_load 19 = .ok (.iconst 0, 1) := by decide +kernel
theorem dX5_load_20 : decode cX5_load 20 = .ok (.putfield 52, 3) := by decide +kernel
theorem dX5_load_23 : decode cX5_load 23 = .ok (.aload_n 0, 1) := by decide +kernel
theorem dX5_load_24 : decode cX5_load 24 = .ok (.getfield 16, 3) := by decide +kernel
theorem dX5_load_27 : decode cX5_load 27 = .ok (.iconst (-1), 1) := by decide +kernel
theorem dX5_load_28 : decode cX5_load 28 = .ok (.if_icmp .eq 13, 3) := by decide +kernel
theorem dX5_load_31 : decode cX5_load 31 = .ok (.new 66, 3) := by decide +kernel
theorem dX5_load_34 : decode cX5_load 34 = .ok (.dup, 1) := by decide +kernel
theorem dX5_load_35 : decode cX5_load 35 = .ok (.ldc 75, 2) := by decide +kernel
theorem dX5_load_37 : decode cX5_load 37 = .ok (.invokespecial 70, 3) := by decide +kernel
theorem dX5_load_40 : decode cX5_load 40 = .ok (.athrow, 1) := by decide +kernel
theorem dX5_load_41 : decode cX5_load 41 = .ok (.aload_n 0, 1) := by decide +kernel
theorem dX5_load_42 : decode cX5_load 42 = .ok (.getfield 27, 3) := by decide +kernel
theorem dX5_load_45 : decode cX5_load 45 = .ok (.astore_n 1, 1) := by decide +kernel
theorem dX5_load_46 : decode cX5_load 46 = .ok (.aload_n 0, 1) := by decide +kernel
theorem dX5_load_47 : decode cX5_load 47 = .ok (.aload_n 0, 1) := by decide +kernel
theorem dX5_load_48 : decode cX5_load 48 = .ok (.getfield 23, 3) := by decide +kernel
theorem dX5_load_51 : decode cX5_load 51 = .ok (.putfield 27, 3) := by decide +kernel
theorem dX5_load_54 : decode cX5_load 54 = .ok (.aload_n 0, 1) := by decide +kernel
theorem dX5_load_55 : decode cX5_load 55 = .ok (.aload_n 1, 1) := by decide +kernel
theorem dX5_load_56 : decode cX5_load 56 = .ok (.putfield 23, 3) := by decide +kernel
theorem dX5_load_59 : decode cX5_load 59 = .ok (.aload_n 0, 1) := by decide +kernel
theorem dX5_load_60 : decode cX5_load 60 = .ok (.iconst 0, 1) := by decide +kernel
theorem dX5_load_61 : decode cX5_load 61 = .ok (.putfield 77, 3) := by decide +kernel
theorem dX5_load_64 : decode cX5_load 64 = .ok (.aload_n 0, 1) := by decide +kernel
theorem dX5_load_65 : decode cX5_load 65 = .ok (.getfield 33, 3) := by decide +kernel
theorem dX5_load_68 : decode cX5_load 68 = .ok (.aload_n 0, 1) := by decide +kernel
theorem dX5_load_69 : decode cX5_load 69 = .ok (.getfield 23, 3) := by decide +kernel
theorem dX5_load_72 : decode cX5_load 72 = .ok (.invokevirtual 80, 3) := by decide +kernel
theorem dX5_load_75 : decode cX5_load 75 = .ok (.aload_n 0, 1) := by decide +kernel
theorem dX5_load_76 : decode cX5_load 76 = .ok (.getfield 23, 3) := by decide +kernel
theorem dX5_load_79 : decode cX5_load 79 = .ok (.getfield 84, 3) := by decide +kernel
theorem dX5_load_82 : decode cX5_load 82 = .ok (.ireturn, 1) := by decide +kernel
theorem dX5_errorOffset_0 : decode cX5_errorOffset 0 = .ok (.aload_n 0, 1) := by decide +kernel
theorem dX5_errorOffset_1 : decode cX5_errorOffset 1 = .ok (.getfield 16, 3) := by decide +kernel
theorem dX5_errorOffset_4 : decode cX5_errorOffset 4 = .ok (.ireturn, 1) := by decide +kernel
theorem dX5_count_0 : decode cX5_count 0 = .ok (.iload_n 1, 1) := by decide +kernel
theorem dX5_count_1 : decode cX5_count 1 = .ok (.tableswitch 90 0 5 #[39, 47, 55, 63, 72, 81], 39) := by decide +kernel
theorem dX5_count_40 : decode cX5_count 40 = .ok (.aload_n 0, 1) := by decide +kernel
theorem dX5_count_41 : decode cX5_count 41 = .ok (.getfield 23, 3) := by decide +kernel
theorem dX5_count_44 : decode cX5_count 44 = .ok (.getfield 87, 3) := by decide +kernel
theorem dX5_count_47 : decode cX5_count 47 = .ok (.ireturn, 1) := by decide +kernel
theorem dX5_count_48 : decode cX5_count 48 = .ok (.aload_n 0, 1) := by decide +kernel
theorem dX5_count_49 : decode cX5_count 49 = .ok (.getfield 23, 3) := by decide +kernel
theorem dX5_count_52 : decode cX5_count 52 = .ok (.getfield 90, 3) := by decide +kernel
theorem dX5_count_55 : decode cX5_count 55 = .ok (.ireturn, 1) := by decide +kernel
theorem dX5_count_56 : decode cX5_count 56 = .ok (.aload_n 0, 1) := by decide +kernel
theorem dX5_count_57 : decode cX5_count 57 = .ok (.getfield 23, 3) := by decide +kernel
theorem dX5_count_60 : decode cX5_count 60 = .ok (.getfield 84, 3) := by decide +kernel
theorem dX5_count_63 : decode cX5_count 63 = .ok (.ireturn, 1) := by decide +kernel
theorem dX5_count_64 : decode cX5_count 64 = .ok (.aload_n 0, 1) := by decide +kernel
theorem dX5_count_65 : decode cX5_count 65 = .ok (.getfield 23, 3) := by decide +kernel
theorem dX5_count_68 : decode cX5_count 68 = .ok (.iconst 0, 1) := by decide +kernel
theorem dX5_count_69 : decode cX5_count 69 = .ok (.invokevirtual 93, 3) := by decide +kernel
theorem dX5_count_72 : decode cX5_count 72 = .ok (.ireturn, 1) := by decide +kernel
theorem dX5_count_73 : decode cX5_count 73 = .ok (.aload_n 0, 1) := by decide +kernel
theorem dX5_count_74 : decode cX5_count 74 = .ok (.getfield 23, 3) := by decide +kernel
theorem dX5_count_77 : decode cX5_count 77 = .ok (.iconst 1, 1) := by decide +kernel
theorem dX5_count_78 : decode cX5_count 78 = .ok (.invokevirtual 93, 3) := by decide +kernel
theorem dX5_count_81 : decode cX5_count 81 = .ok (.ireturn, 1) := by decide +kernel
theorem dX5_count_82 : decode cX5_count 82 = .ok (.aload_n 0, 1) := by decide +kernel
theorem dX5_count_83 : decode cX5_count 83 = .ok (.getfield 23, 3) := by decide +kernel
theorem dX5_count_86 : decode cX5_count 86 = .ok (.iconst 2, 1) := by decide +kernel
theorem dX5_count_87 : decode cX5_count 87 = .ok (.invokevirtual 93, 3) := by decide +kernel
theorem dX5_count_90 : decode cX5_count 90 = .ok (.ireturn, 1) := by decide +kernel
theorem dX5_count_91 : decode cX5_count 91 = .ok (.new 66, 3) := by decide +kernel
theorem dX5_count_94 : decode cX5_count 94 = .ok (.dup, 1) := by decide +kernel
theorem dX5_count_95 : decode cX5_count 95 = .ok (.ldc 97, 2) := by decide +kernel
theorem dX5_count_97 : decode cX5_count 97 = .ok (.invokespecial 70, 3) := by decide +kernel
theorem dX5_count_100 : decode cX5_count 100 = .ok (.athrow, 1) := by decide +kernel
theorem dX5_setting_0 : decode cX5_setting 0 = .ok (.iload_n 1, 1) := by decide +kernel
theorem dX5_setting_1 : decode cX5_setting 1 = .ok (.tableswitch 63 0 3 #[31, 39, 47, 55], 31) := by decide +kernel
theorem dX5_setting_32 : decode cX5_setting 32 = .ok (.aload_n 0, 1) := by decide +kernel
theorem dX5_setting_33 : decode cX5_setting 33 = .ok (.getfield 23, 3) := by decide +kernel
theorem dX5_setting_36 : decode cX5_setting 36 = .ok (.getfield 99, 3) := by decide +kernel
theorem dX5_setting_39 : decode cX5_setting 39 = .ok (.ireturn, 1) := by decide +kernel
theorem dX5_setting_40 : decode cX5_setting 40 = .ok (.aload_n 0, 1) := by decide +kernel
theorem dX5_setting_41 : decode cX5_setting 41 = .ok (.getfield 23, 3) := by decide +kernel
theorem dX5_setting_44 : decode cX5_setting 44 = .ok (.getfield 102, 3) := by decide +kernel
theorem dX5_setting_47 : decode cX5_setting 47 = .ok (.ireturn, 1) := by decide +kernel
theorem dX5_setting_48 : decode cX5_setting 48 = .ok (.aload_n 0, 1) := by decide +kernel
theorem dX5_setting_49 : decode cX5_setting 49 = .ok (.getfield 23, 3) := by decide +kernel
theorem dX5_setting_52 : decode cX5_setting 52 = .ok (.getfield 105, 3) := by decide +kernel
theorem dX5_setting_55 : decode cX5_setting 55 = .ok (.ireturn, 1) := by decide +kernel
theorem dX5_setting_56 : decode cX5_setting 56 = .ok (.aload_n 0, 1) := by decide +kernel
theorem dX5_setting_57 : decode cX5_setting 57 = .ok (.getfield 23, 3) := by decide +kernel
theorem dX5_setting_60 : decode cX5_setting 60 = .ok (.getfield 108, 3) := by decide +kernel
theorem dX5_setting_63 : decode cX5_setting 63 = .ok (.ireturn, 1) := by decide +kernel
theorem dX5_setting_64 : decode cX5_setting 64 = .ok (.new 66, 3) := by decide +kernel
theorem dX5_setting_67 : decode cX5_setting 67 = .ok (.dup, 1) := by decide +kernel
theorem dX5_setting_68 : decode cX5_setting 68 = .ok (.ldc 111, 2) := by decide +kernel
theorem dX5_setting_70 : decode cX5_setting 70 = .ok (.invokespecial 70, 3) := by decide +kernel
theorem dX5_setting_73 : decode cX5_setting 73 = .ok (.athrow, 1) := by decide +kernel
theorem dX5_room_0 : decode cX5_room 0 = .ok (.aload_n 0, 1) := by decide +kernel
theorem dX5_room_1 : decode cX5_room 1 = .ok (.iload_n 1, 1) := by decide +kernel
theorem dX5_room_2 : decode cX5_room 2 = .ok (.invokevirtual 113, 3) := by decide +kernel
theorem dX5_room_5 : decode cX5_room 5 = .ok (.aload_n 0, 1) := by decide +kernel
theorem dX5_room_6 : decode cX5_room 6 = .ok (.getfield 23, 3) := by decide +kernel
theorem dX5_room_9 : decode cX5_room 9 = .ok (.getfield 116, 3) := by decide +kernel
theorem dX5_room_12 : decode cX5_room 12 = .ok (.iload_n 1, 1) := by decide +kernel
theorem dX5_room_13 : decode cX5_room 13 = .ok (.aaload, 1) := by decide +kernel
theorem dX5_room_14 : decode cX5_room 14 = .ok (.astore_n 3, 1) := by decide +kernel
theorem dX5_room_15 : decode cX5_room 15 = .ok (.iload_n 2, 1) := by decide +kernel
theorem dX5_room_16 : decode cX5_room 16 = .ok (.tableswitch 52 0 3 #[32, 37, 42, 47], 32) := by decide +kernel
theorem dX5_room_48 : decode cX5_room 48 = .ok (.aload_n 3, 1) := by decide +kernel
theorem dX5_room_49 : decode cX5_room 49 = .ok (.getfield 120, 3) := by decide +kernel
theorem dX5_room_52 : decode cX5_room 52 = .ok (.ireturn, 1) := by decide +kernel
theorem dX5_room_53 : decode cX5_room 53 = .ok (.aload_n 3, 1) := by decide +kernel
theorem dX5_room_54 : decode cX5_room 54 = .ok (.getfield 125, 3) := by decide +kernel
theorem dX5_room_57 : decode cX5_room 57 = .ok (.ireturn, 1) := by decide +kernel
theorem dX5_room_58 : decode cX5_room 58 = .ok (.aload_n 3, 1) := by decide +kernel
theorem dX5_room_59 : decode cX5_room 59 = .ok (.getfield 128, 3) := by decide +kernel
theorem dX5_room_62 : decode cX5_room 62 = .ok (.ireturn, 1) := by decide +kernel
theorem dX5_room_63 : decode cX5_room 63 = .ok (.aload_n 3, 1) := by decide +kernel
theorem dX5_room_64 : decode cX5_room 64 = .ok (.getfield 131, 3) := by decide +kernel
theorem dX5_room_67 : decode cX5_room 67 = .ok (.ireturn, 1) := by decide +kernel
theorem dX5_room_68 : decode cX5_room 68 = .ok (.new 66, 3) := by decide +kernel
theorem dX5_room_71 : decode cX5_room 71 = .ok (.dup, 1) := by decide +kernel
theorem dX5_room_72 : decode cX5_room 72 = .ok (.ldc 134, 2) := by decide +kernel
theorem dX5_room_74 : decode cX5_room 74 = .ok (.invokespecial 70, 3) := by decide +kernel
theorem dX5_room_77 : decode cX5_room 77 = .ok (.athrow, 1) := by decide +kernel
theorem dX5_booking_0 : decode cX5_booking 0 = .ok (.aload_n 0, 1) := by decide +kernel
theorem dX5_booking_1 : decode cX5_booking 1 = .ok (.iload_n 1, 1) := by decide +kernel
theorem dX5_booking_2 : decode cX5_booking 2 = .ok (.invokevirtual 136, 3) := by decide +kernel
theorem dX5_booking_5 : decode cX5_booking 5 = .ok (.aload_n 0, 1) := by decide +kernel
theorem dX5_booking_6 : decode cX5_booking 6 = .ok (.getfield 23, 3) := by decide +kernel
theorem dX5_booking_9 : decode cX5_booking 9 = .ok (.getfield 139, 3) := by decide +kernel
theorem dX5_booking_12 : decode cX5_booking 12 = .ok (.iload_n 1, 1) := by decide +kernel
theorem dX5_booking_13 : decode cX5_booking 13 = .ok (.aaload, 1) := by decide +kernel
theorem dX5_booking_14 : decode cX5_booking 14 = .ok (.astore_n 3, 1) := by decide +kernel
theorem dX5_booking_15 : decode cX5_booking 15 = .ok (.iload_n 2, 1) := by decide +kernel
theorem dX5_booking_16 : decode cX5_booking 16 = .ok (.tableswitch 104 0 7 #[48, 53, 58, 63, 68, 73, 78, 91], 48) := by decide +kernel
theorem dX5_booking_64 : decode cX5_booking 64 = .ok (.aload_n 3, 1) := by decide +kernel
theorem dX5_booking_65 : decode cX5_booking 65 = .ok (.getfield 143, 3) := by decide +kernel
theorem dX5_booking_68 : decode cX5_booking 68 = .ok (.ireturn, 1) := by decide +kernel
theorem dX5_booking_69 : decode cX5_booking 69 = .ok (.aload_n 3, 1) := by decide +kernel
theorem dX5_booking_70 : decode cX5_booking 70 = .ok (.getfield 148, 3) := by decide +kernel
theorem dX5_booking_73 : decode cX5_booking 73 = .ok (.ireturn, 1) := by decide +kernel
theorem dX5_booking_74 : decode cX5_booking 74 = .ok (.aload_n 3, 1) := by decide +kernel
theorem dX5_booking_75 : decode cX5_booking 75 = .ok (.getfield 151, 3) := by decide +kernel
theorem dX5_booking_78 : decode cX5_booking 78 = .ok (.ireturn, 1) := by decide +kernel
theorem dX5_booking_79 : decode cX5_booking 79 = .ok (.aload_n 3, 1) := by decide +kernel
theorem dX5_booking_80 : decode cX5_booking 80 = .ok (.getfield 154, 3) := by decide +kernel
theorem dX5_booking_83 : decode cX5_booking 83 = .ok (.ireturn, 1) := by decide +kernel
theorem dX5_booking_84 : decode cX5_booking 84 = .ok (.aload_n 3, 1) := by decide +kernel
theorem dX5_booking_85 : decode cX5_booking 85 = .ok (.getfield 157, 3) := by decide +kernel
theorem dX5_booking_88 : decode cX5_booking 88 = .ok (.ireturn, 1) := by decide +kernel
theorem dX5_booking_89 : decode cX5_booking 89 = .ok (.aload_n 3, 1) := by decide +kernel
theorem dX5_booking_90 : decode cX5_booking 90 = .ok (.getfield 158, 3) := by decide +kernel
theorem dX5_booking_93 : decode cX5_booking 93 = .ok (.ireturn, 1) := by decide +kernel
theorem dX5_booking_94 : decode cX5_booking 94 = .ok (.aload_n 3, 1) := by decide +kernel
theorem dX5_booking_95 : decode cX5_booking 95 = .ok (.getfield 161, 3) := by decide +kernel
theorem dX5_booking_98 : decode cX5_booking 98 = .ok (.ifCond .eq 7, 3) := by decide +kernel
theorem dX5_booking_101 : decode cX5_booking 101 = .ok (.iconst 1, 1) := by decide +kernel
theorem dX5_booking_102 : decode cX5_booking 102 = .ok (.goto 4, 3) := by decide +kernel
theorem dX5_booking_105 : decode cX5_booking 105 = .ok (.iconst 0, 1) := by decide +kernel
theorem dX5_booking_106 : decode cX5_booking 106 = .ok (.ireturn, 1) := by decide +kernel
theorem dX5_booking_107 : decode cX5_booking 107 = .ok (.aload_n 3, 1) := by decide +kernel
theorem dX5_booking_108 : decode cX5_booking 108 = .ok (.getfield 165, 3) := by decide +kernel
theorem dX5_booking_111 : decode cX5_booking 111 = .ok (.ifCond .eq 7, 3) := by decide +kernel
theorem dX5_booking_114 : decode cX5_booking 114 = .ok (.iconst 1, 1) := by decide +kernel
theorem dX5_booking_115 : decode cX5_booking 115 = .ok (.goto 4, 3) := by decide +kernel
theorem dX5_booking_118 : decode cX5_booking 118 = .ok (.iconst 0, 1) := by decide +kernel
theorem dX5_booking_119 : decode cX5_booking 119 = .ok (.ireturn, 1) := by decide +kernel
theorem dX5_booking_120 : decode cX5_booking 120 = .ok (.new 66, 3) := by decide +kernel
theorem dX5_booking_123 : decode cX5_booking 123 = .ok (.dup, 1) := by decide +kernel
theorem dX5_booking_124 : decode cX5_booking 124 = .ok (.ldc 168, 2) := by decide +kernel
theorem dX5_booking_126 : decode cX5_booking 126 = .ok (.invokespecial 70, 3) := by decide +kernel
theorem dX5_booking_129 : decode cX5_booking 129 = .ok (.athrow, 1) := by decide +kernel
theorem dX5_find_0 : decode cX5_find 0 = .ok (.aload_n 0, 1) := by decide +kernel
theorem dX5_find_1 : decode cX5_find 1 = .ok (.getfield 12, 3) := by decide +kernel
theorem dX5_find_4 : decode cX5_find 4 = .ok (.invokevirtual 170, 3) := by decide +kernel
theorem dX5_find_7 : decode cX5_find 7 = .ok (.lstore_n 2, 1) := by decide +kernel
theorem dX5_find_8 : decode cX5_find 8 = .ok (.iload_n 1, 1) := by decide +kernel
theorem dX5_find_9 : decode cX5_find 9 = .ok (.ifCond .eq 14, 3) := by decide +kernel
theorem dX5_find_12 : decode cX5_find 12 = .ok (.aload_n 0, 1) := by decide +kernel
theorem dX5_find_13 : decode cX5_find 13 = .ok (.getfield 23, 3) := by decide +kernel
theorem dX5_find_16 : decode cX5_find 16 = .ok (.lload_n 2, 1) := by decide +kernel
theorem dX5_find_17 : decode cX5_find 17 = .ok (.invokevirtual 174, 3) := by decide +kernel
theorem dX5_find_20 : decode cX5_find 20 = .ok (.goto 11, 3) := by decide +kernel
theorem dX5_find_23 : decode cX5_find 23 = .ok (.aload_n 0, 1) := by decide +kernel
theorem dX5_find_24 : decode cX5_find 24 = .ok (.getfield 23, 3) := by decide +kernel
theorem dX5_find_27 : decode cX5_find 27 = .ok (.lload_n 2, 1) := by decide +kernel
theorem dX5_find_28 : decode cX5_find 28 = .ok (.invokevirtual 178, 3) := by decide +kernel
theorem dX5_find_31 : decode cX5_find 31 = .ok (.istore 4, 2) := by decide +kernel
theorem dX5_find_33 : decode cX5_find 33 = .ok (.iload 4, 2) := by decide +kernel
theorem dX5_find_35 : decode cX5_find 35 = .ok (.iconst (-1), 1) := by decide +kernel
theorem dX5_find_36 : decode cX5_find 36 = .ok (.if_icmp .ne 13, 3) := by decide +kernel
theorem dX5_find_39 : decode cX5_find 39 = .ok (.new 181, 3) := by decide +kernel
theorem dX5_find_42 : decode cX5_find 42 = .ok (.dup, 1) := by decide +kernel
theorem dX5_find_43 : decode cX5_find 43 = .ok (.ldc 183, 2) := by decide +kernel
theorem dX5_find_45 : decode cX5_find 45 = .ok (.invokespecial 185, 3) := by decide +kernel
theorem dX5_find_48 : decode cX5_find 48 = .ok (.athrow, 1) := by decide +kernel
theorem dX5_find_49 : decode cX5_find 49 = .ok (.iload 4, 2) := by decide +kernel
theorem dX5_find_51 : decode cX5_find 51 = .ok (.ireturn, 1) := by decide +kernel
theorem dX5_state_0 : decode cX5_state 0 = .ok (.aload_n 0, 1) := by decide +kernel
theorem dX5_state_1 : decode cX5_state 1 = .ok (.iload_n 1, 1) := by decide +kernel
theorem dX5_state_2 : decode cX5_state 2 = .ok (.invokevirtual 136, 3) := by decide +kernel
theorem dX5_state_5 : decode cX5_state 5 = .ok (.aload_n 0, 1) := by decide +kernel
theorem dX5_state_6 : decode cX5_state 6 = .ok (.getfield 23, 3) := by decide +kernel
theorem dX5_state_9 : decode cX5_state 9 = .ok (.getfield 139, 3) := by decide +kernel
theorem dX5_state_12 : decode cX5_state 12 = .ok (.iload_n 1, 1) := by decide +kernel
theorem dX5_state_13 : decode cX5_state 13 = .ok (.aaload, 1) := by decide +kernel
theorem dX5_state_14 : decode cX5_state 14 = .ok (.getfield 186, 3) := by decide +kernel
theorem dX5_state_17 : decode cX5_state 17 = .ok (.ireturn, 1) := by decide +kernel
theorem dX5_waiting_0 : decode cX5_waiting 0 = .ok (.iload_n 1, 1) := by decide +kernel
theorem dX5_waiting_1 : decode cX5_waiting 1 = .ok (.ifCond .lt 14, 3) := by decide +kernel
theorem dX5_waiting_4 : decode cX5_waiting 4 = .ok (.iload_n 1, 1) := by decide +kernel
theorem dX5_waiting_5 : decode cX5_waiting 5 = .ok (.aload_n 0, 1) := by decide +kernel
theorem dX5_waiting_6 : decode cX5_waiting 6 = .ok (.getfield 23, 3) := by decide +kernel
theorem dX5_waiting_9 : decode cX5_waiting 9 = .ok (.getfield 189, 3) := by decide +kernel
theorem dX5_waiting_12 : decode cX5_waiting 12 = .ok (.if_icmp .lt 13, 3) := by decide +kernel
theorem dX5_waiting_15 : decode cX5_waiting 15 = .ok (.new 192, 3) := by decide +kernel
theorem dX5_waiting_18 : decode cX5_waiting 18 = .ok (.dup, 1) := by decide +kernel
theorem dX5_waiting_19 : decode cX5_waiting 19 = .ok (.ldc 194, 2) := by decide +kernel
theorem dX5_waiting_21 : decode cX5_waiting 21 = .ok (.invokespecial 196, 3) := by decide +kernel
theorem dX5_waiting_24 : decode cX5_waiting 24 = .ok (.athrow, 1) := by decide +kernel
theorem dX5_waiting_25 : decode cX5_waiting 25 = .ok (.aload_n 0, 1) := by decide +kernel
theorem dX5_waiting_26 : decode cX5_waiting 26 = .ok (.getfield 23, 3) := by decide +kernel
theorem dX5_waiting_29 : decode cX5_waiting 29 = .ok (.getfield 197, 3) := by decide +kernel
theorem dX5_waiting_32 : decode cX5_waiting 32 = .ok (.iload_n 1, 1) := by decide +kernel
theorem dX5_waiting_33 : decode cX5_waiting 33 = .ok (.iaload, 1) := by decide +kernel
theorem dX5_waiting_34 : decode cX5_waiting 34 = .ok (.ireturn, 1) := by decide +kernel
theorem dX5_placed_0 : decode cX5_placed 0 = .ok (.aload_n 0, 1) := by decide +kernel
theorem dX5_placed_1 : decode cX5_placed 1 = .ok (.iload_n 1, 1) := by decide +kernel
theorem dX5_placed_2 : decode cX5_placed 2 = .ok (.invokevirtual 136, 3) := by decide +kernel
theorem dX5_placed_5 : decode cX5_placed 5 = .ok (.aload_n 0, 1) := by decide +kernel
theorem dX5_placed_6 : decode cX5_placed 6 = .ok (.getfield 33, 3) := by decide +kernel
theorem dX5_placed_9 : decode cX5_placed 9 = .ok (.getfield 201, 3) := by decide +kernel
theorem dX5_placed_12 : decode cX5_placed 12 = .ok (.iload_n 1, 1) := by decide +kernel
theorem dX5_placed_13 : decode cX5_placed 13 = .ok (.iaload, 1) := by decide +kernel
theorem dX5_placed_14 : decode cX5_placed 14 = .ok (.ireturn, 1) := by decide +kernel
theorem dX5_roomsOf_0 : decode cX5_roomsOf 0 = .ok (.aload_n 0, 1) := by decide +kernel
theorem dX5_roomsOf_1 : decode cX5_roomsOf 1 = .ok (.iload_n 1, 1) := by decide +kernel
theorem dX5_roomsOf_2 : decode cX5_roomsOf 2 = .ok (.invokevirtual 136, 3) := by decide +kernel
theorem dX5_roomsOf_5 : decode cX5_roomsOf 5 = .ok (.aload_n 0, 1) := by decide +kernel
theorem dX5_roomsOf_6 : decode cX5_roomsOf 6 = .ok (.getfield 33, 3) := by decide +kernel
theorem dX5_roomsOf_9 : decode cX5_roomsOf 9 = .ok (.getfield 204, 3) := by decide +kernel
theorem dX5_roomsOf_12 : decode cX5_roomsOf 12 = .ok (.iload_n 1, 1) := by decide +kernel
theorem dX5_roomsOf_13 : decode cX5_roomsOf 13 = .ok (.iaload, 1) := by decide +kernel
theorem dX5_roomsOf_14 : decode cX5_roomsOf 14 = .ok (.ireturn, 1) := by decide +kernel
theorem dX5_roomOf_0 : decode cX5_roomOf 0 = .ok (.aload_n 0, 1) := by decide +kernel
theorem dX5_roomOf_1 : decode cX5_roomOf 1 = .ok (.iload_n 1, 1) := by decide +kernel
theorem dX5_roomOf_2 : decode cX5_roomOf 2 = .ok (.iload_n 2, 1) := by decide +kernel
theorem dX5_roomOf_3 : decode cX5_roomOf 3 = .ok (.invokevirtual 207, 3) := by decide +kernel
theorem dX5_roomOf_6 : decode cX5_roomOf 6 = .ok (.bipush 10, 2) := by decide +kernel
theorem dX5_roomOf_8 : decode cX5_roomOf 8 = .ok (.idiv, 1) := by decide +kernel
theorem dX5_roomOf_9 : decode cX5_roomOf 9 = .ok (.ireturn, 1) := by decide +kernel
theorem dX5_bedOf_0 : decode cX5_bedOf 0 = .ok (.aload_n 0, 1) := by decide +kernel
theorem dX5_bedOf_1 : decode cX5_bedOf 1 = .ok (.iload_n 1, 1) := by decide +kernel
theorem dX5_bedOf_2 : decode cX5_bedOf 2 = .ok (.iload_n 2, 1) := by decide +kernel
theorem dX5_bedOf_3 : decode cX5_bedOf 3 = .ok (.invokevirtual 207, 3) := by decide +kernel
theorem dX5_bedOf_6 : decode cX5_bedOf 6 = .ok (.bipush 10, 2) := by decide +kernel
theorem dX5_bedOf_8 : decode cX5_bedOf 8 = .ok (.irem, 1) := by decide +kernel
theorem dX5_bedOf_9 : decode cX5_bedOf 9 = .ok (.ireturn, 1) := by decide +kernel
theorem dX5_bedOfPerson_0 : decode cX5_bedOfPerson 0 = .ok (.aload_n 0, 1) := by decide +kernel
theorem dX5_bedOfPerson_1 : decode cX5_bedOfPerson 1 = .ok (.iload_n 1, 1) := by decide +kernel
theorem dX5_bedOfPerson_2 : decode cX5_bedOfPerson 2 = .ok (.invokevirtual 136, 3) := by decide +kernel
theorem dX5_bedOfPerson_5 : decode cX5_bedOfPerson 5 = .ok (.iload_n 2, 1) := by decide +kernel
theorem dX5_bedOfPerson_6 : decode cX5_bedOfPerson 6 = .ok (.ifCond .lt 19, 3) := by decide +kernel
theorem dX5_bedOfPerson_9 : decode cX5_bedOfPerson 9 = .ok (.iload_n 2, 1) := by decide +kernel
theorem dX5_bedOfPerson_10 : decode cX5_bedOfPerson 10 = .ok (.aload_n 0, 1) := by decide +kernel
theorem dX5_bedOfPerson_11 : decode cX5_bedOfPerson 11 = .ok (.getfield 23, 3) := by decide +kernel
theorem dX5_bedOfPerson_14 : decode cX5_bedOfPerson 14 = .ok (.getfield 139, 3) := by decide +kernel
theorem dX5_bedOfPerson_17 : decode cX5_bedOfPerson 17 = .ok (.iload_n 1, 1) := by decide +kernel
theorem dX5_bedOfPerson_18 : decode cX5_bedOfPerson 18 = .ok (.aaload, 1) := by decide +kernel
theorem dX5_bedOfPerson_19 : decode cX5_bedOfPerson 19 = .ok (.getfield 211, 3) := by decide +kernel
theorem dX5_bedOfPerson_22 : decode cX5_bedOfPerson 22 = .ok (.if_icmp .lt 13, 3) := by decide +kernel
theorem dX5_bedOfPerson_25 : decode cX5_bedOfPerson 25 = .ok (.new 192, 3) := by decide +kernel
theorem dX5_bedOfPerson_28 : decode cX5_bedOfPerson 28 = .ok (.dup, 1) := by decide +kernel
theorem dX5_bedOfPerson_29 : decode cX5_bedOfPerson 29 = .ok (.ldc 214, 2) := by decide +kernel
theorem dX5_bedOfPerson_31 : decode cX5_bedOfPerson 31 = .ok (.invokespecial 196, 3) := by decide +kernel
theorem dX5_bedOfPerson_34 : decode cX5_bedOfPerson 34 = .ok (.athrow, 1) := by decide +kernel
theorem dX5_bedOfPerson_35 : decode cX5_bedOfPerson 35 = .ok (.aload_n 0, 1) := by decide +kernel
theorem dX5_bedOfPerson_36 : decode cX5_bedOfPerson 36 = .ok (.getfield 33, 3) := by decide +kernel
theorem dX5_bedOfPerson_39 : decode cX5_bedOfPerson 39 = .ok (.iload_n 1, 1) := by decide +kernel
theorem dX5_bedOfPerson_40 : decode cX5_bedOfPerson 40 = .ok (.invokevirtual 216, 3) := by decide +kernel
theorem dX5_bedOfPerson_43 : decode cX5_bedOfPerson 43 = .ok (.ifCond .ne 13, 3) := by decide +kernel
theorem dX5_bedOfPerson_46 : decode cX5_bedOfPerson 46 = .ok (.new 181, 3) := by decide +kernel
theorem dX5_bedOfPerson_49 : decode cX5_bedOfPerson 49 = .ok (.dup, 1) := by decide +kernel
theorem dX5_bedOfPerson_50 : decode cX5_bedOfPerson 50 = .ok (.ldc 220, 2) := by decide +kernel
theorem dX5_bedOfPerson_52 : decode cX5_bedOfPerson 52 = .ok (.invokespecial 185, 3) := by decide +kernel
theorem dX5_bedOfPerson_55 : decode cX5_bedOfPerson 55 = .ok (.athrow, 1) := by decide +kernel
theorem dX5_bedOfPerson_56 : decode cX5_bedOfPerson 56 = .ok (.aload_n 0, 1) := by decide +kernel
theorem dX5_bedOfPerson_57 : decode cX5_bedOfPerson 57 = .ok (.getfield 33, 3) := by decide +kernel
theorem dX5_bedOfPerson_60 : decode cX5_bedOfPerson 60 = .ok (.getfield 222, 3) := by decide +kernel
theorem dX5_bedOfPerson_63 : decode cX5_bedOfPerson 63 = .ok (.iload_n 1, 1) := by decide +kernel
theorem dX5_bedOfPerson_64 : decode cX5_bedOfPerson 64 = .ok (.bipush 12, 2) := by decide +kernel
theorem dX5_bedOfPerson_66 : decode cX5_bedOfPerson 66 = .ok (.imul, 1) := by decide +kernel
theorem dX5_bedOfPerson_67 : decode cX5_bedOfPerson 67 = .ok (.iload_n 2, 1) := by decide +kernel
theorem dX5_bedOfPerson_68 : decode cX5_bedOfPerson 68 = .ok (.iadd, 1) := by decide +kernel
theorem dX5_bedOfPerson_69 : decode cX5_bedOfPerson 69 = .ok (.iaload, 1) := by decide +kernel
theorem dX5_bedOfPerson_70 : decode cX5_bedOfPerson 70 = .ok (.ireturn, 1) := by decide +kernel
theorem dX5_occupant_0 : decode cX5_occupant 0 = .ok (.aload_n 0, 1) := by decide +kernel
theorem dX5_occupant_1 : decode cX5_occupant 1 = .ok (.iload_n 1, 1) := by decide +kernel
theorem dX5_occupant_2 : decode cX5_occupant 2 = .ok (.iload_n 2, 1) := by decide +kernel
theorem dX5_occupant_3 : decode cX5_occupant 3 = .ok (.invokevirtual 224, 3) := by decide +kernel
theorem dX5_occupant_6 : decode cX5_occupant 6 = .ok (.iload_n 3, 1) := by decide +kernel
theorem dX5_occupant_7 : decode cX5_occupant 7 = .ok (.invokestatic 228, 3) := by decide +kernel
theorem dX5_occupant_10 : decode cX5_occupant 10 = .ok (.iload_n 1, 1) := by decide +kernel
theorem dX5_occupant_11 : decode cX5_occupant 11 = .ok (.bipush 10, 2) := by decide +kernel
theorem dX5_occupant_13 : decode cX5_occupant 13 = .ok (.imul, 1) := by decide +kernel
theorem dX5_occupant_14 : decode cX5_occupant 14 = .ok (.iload_n 2, 1) := by decide +kernel
theorem dX5_occupant_15 : decode cX5_occupant 15 = .ok (.iadd, 1) := by decide +kernel
theorem dX5_occupant_16 : decode cX5_occupant 16 = .ok (.istore 4, 2) := by decide +kernel
theorem dX5_occupant_18 : decode cX5_occupant 18 = .ok (.iconst 0, 1) := by decide +kernel
theorem dX5_occupant_19 : decode cX5_occupant 19 = .ok (.istore 5, 2) := by decide +kernel
theorem dX5_occupant_21 : decode cX5_occupant 21 = .ok (.iload 5, 2) := by decide +kernel
theorem dX5_occupant_23 : decode cX5_occupant 23 = .ok (.aload_n 0, 1) := by decide +kernel
theorem dX5_occupant_24 : decode cX5_occupant 24 = .ok (.getfield 23, 3) := by decide +kernel
theorem dX5_occupant_27 : decode cX5_occupant 27 = .ok (.getfield 84, 3) := by decide +kernel
theorem dX5_occupant_30 : decode cX5_occupant 30 = .ok (.if_icmp .ge 56, 3) := by decide +kernel
theorem dX5_occupant_33 : decode cX5_occupant 33 = .ok (.aload_n 0, 1) := by decide +kernel
theorem dX5_occupant_34 : decode cX5_occupant 34 = .ok (.getfield 23, 3) := by decide +kernel
theorem dX5_occupant_37 : decode cX5_occupant 37 = .ok (.getfield 139, 3) := by decide +kernel
theorem dX5_occupant_40 : decode cX5_occupant 40 = .ok (.iload 5, 2) := by decide +kernel
theorem dX5_occupant_42 : decode cX5_occupant 42 = .ok (.aaload, 1) := by decide +kernel
theorem dX5_occupant_43 : decode cX5_occupant 43 = .ok (.iload_n 3, 1) := by decide +kernel
theorem dX5_occupant_44 : decode cX5_occupant 44 = .ok (.invokevirtual 231, 3) := by decide +kernel
theorem dX5_occupant_47 : decode cX5_occupant 47 = .ok (.ifCond .eq 33, 3) := by decide +kernel
theorem dX5_occupant_50 : decode cX5_occupant 50 = .ok (.aload_n 0, 1) := by decide +kernel
theorem dX5_occupant_51 : decode cX5_occupant 51 = .ok (.getfield 33, 3) := by decide +kernel
theorem dX5_occupant_54 : decode cX5_occupant 54 = .ok (.iload 5, 2) := by decide +kernel
theorem dX5_occupant_56 : decode cX5_occupant 56 = .ok (.aload_n 0, 1) := by decide +kernel
theorem dX5_occupant_57 : decode cX5_occupant 57 = .ok (.getfield 23, 3) := by decide +kernel
theorem dX5_occupant_60 : decode cX5_occupant 60 = .ok (.getfield 139, 3) := by decide +kernel
theorem dX5_occupant_63 : decode cX5_occupant 63 = .ok (.iload 5, 2) := by decide +kernel
theorem dX5_occupant_65 : decode cX5_occupant 65 = .ok (.aaload, 1) := by decide +kernel
theorem dX5_occupant_66 : decode cX5_occupant 66 = .ok (.getfield 211, 3) := by decide +kernel
theorem dX5_occupant_69 : decode cX5_occupant 69 = .ok (.iload 4, 2) := by decide +kernel
theorem dX5_occupant_71 : decode cX5_occupant 71 = .ok (.invokevirtual 234, 3) := by decide +kernel
theorem dX5_occupant_74 : decode cX5_occupant 74 = .ok (.ifCond .eq 6, 3) := by decide +kernel
theorem dX5_occupant_77 : decode cX5_occupant 77 = .ok (.iload 5, 2) := by decide +kernel
theorem dX5_occupant_79 : decode cX5_occupant 79 = .ok (.ireturn, 1) := by decide +kernel
theorem dX5_occupant_80 : decode cX5_occupant 80 = .ok (.iinc 5 1, 3) := by decide +kernel
theorem dX5_occupant_83 : decode cX5_occupant 83 = .ok (.goto (-62), 3) := by decide +kernel
theorem dX5_occupant_86 : decode cX5_occupant 86 = .ok (.iconst (-1), 1) := by decide +kernel
theorem dX5_occupant_87 : decode cX5_occupant 87 = .ok (.ireturn, 1) := by decide +kernel
theorem dX5_freeBeds_0 : decode cX5_freeBeds 0 = .ok (.aload_n 0, 1) := by decide +kernel
theorem dX5_freeBeds_1 : decode cX5_freeBeds 1 = .ok (.iload_n 1, 1) := by decide +kernel
theorem dX5_freeBeds_2 : decode cX5_freeBeds 2 = .ok (.invokevirtual 113, 3) := by decide +kernel
theorem dX5_freeBeds_5 : decode cX5_freeBeds 5 = .ok (.iload_n 2, 1) := by decide +kernel
theorem dX5_freeBeds_6 : decode cX5_freeBeds 6 = .ok (.invokestatic 228, 3) := by decide +kernel
theorem dX5_freeBeds_9 : decode cX5_freeBeds 9 = .ok (.aload_n 0, 1) := by decide +kernel
theorem dX5_freeBeds_10 : decode cX5_freeBeds 10 = .ok (.getfield 23, 3) := by decide +kernel
theorem dX5_freeBeds_13 : decode cX5_freeBeds 13 = .ok (.getfield 116, 3) := by decide +kernel
theorem dX5_freeBeds_16 : decode cX5_freeBeds 16 = .ok (.iload_n 1, 1) := by decide +kernel
theorem dX5_freeBeds_17 : decode cX5_freeBeds 17 = .ok (.aaload, 1) := by decide +kernel
theorem dX5_freeBeds_18 : decode cX5_freeBeds 18 = .ok (.getfield 125, 3) := by decide +kernel
theorem dX5_freeBeds_21 : decode cX5_freeBeds 21 = .ok (.aload_n 0, 1) := by decide +kernel
theorem dX5_freeBeds_22 : decode cX5_freeBeds 22 = .ok (.getfield 33, 3) := by decide +kernel
theorem dX5_freeBeds_25 : decode cX5_freeBeds 25 = .ok (.iload_n 1, 1) := by decide +kernel
theorem dX5_freeBeds_26 : decode cX5_freeBeds 26 = .ok (.iload_n 2, 1) := by decide +kernel
theorem dX5_freeBeds_27 : decode cX5_freeBeds 27 = .ok (.invokevirtual 238, 3) := by decide +kernel
theorem dX5_freeBeds_30 : decode cX5_freeBeds 30 = .ok (.isub, 1) := by decide +kernel
theorem dX5_freeBeds_31 : decode cX5_freeBeds 31 = .ok (.ireturn, 1) := by decide +kernel
theorem dX5_occupied_0 : decode cX5_occupied 0 = .ok (.iload_n 1, 1) := by decide +kernel
theorem dX5_occupied_1 : decode cX5_occupied 1 = .ok (.invokestatic 228, 3) := by decide +kernel
theorem dX5_occupied_4 : decode cX5_occupied 4 = .ok (.aload_n 0, 1) := by decide +kernel
theorem dX5_occupied_5 : decode cX5_occupied 5 = .ok (.iload_n 1, 1) := by decide +kernel
theorem dX5_occupied_6 : decode cX5_occupied 6 = .ok (.invokevirtual 241, 3) := by decide +kernel
theorem dX5_occupied_9 : decode cX5_occupied 9 = .ok (.ireturn, 1) := by decide +kernel
theorem dX5_takenBeds_0 : decode cX5_takenBeds 0 = .ok (.iconst 0, 1) := by decide +kernel
theorem dX5_takenBeds_1 : decode cX5_takenBeds 1 = .ok (.istore_n 2, 1) := by decide +kernel
theorem dX5_takenBeds_2 : decode cX5_takenBeds 2 = .ok (.iconst 0, 1) := by decide +kernel
theorem dX5_takenBeds_3 : decode cX5_takenBeds 3 = .ok (.istore_n 3, 1) := by decide +kernel
theorem dX5_takenBeds_4 : decode cX5_takenBeds 4 = .ok (.iload_n 3, 1) := by decide +kernel
theorem dX5_takenBeds_5 : decode cX5_takenBeds 5 = .ok (.aload_n 0, 1) := by decide +kernel
theorem dX5_takenBeds_6 : decode cX5_takenBeds 6 = .ok (.getfield 23, 3) := by decide +kernel
theorem dX5_takenBeds_9 : decode cX5_takenBeds 9 = .ok (.getfield 87, 3) := by decide +kernel
theorem dX5_takenBeds_12 : decode cX5_takenBeds 12 = .ok (.if_icmp .ge 21, 3) := by decide +kernel
theorem dX5_takenBeds_15 : decode cX5_takenBeds 15 = .ok (.iload_n 2, 1) := by decide +kernel
theorem dX5_takenBeds_16 : decode cX5_takenBeds 16 = .ok (.aload_n 0, 1) := by decide +kernel
theorem dX5_takenBeds_17 : decode cX5_takenBeds 17 = .ok (.getfield 33, 3) := by decide +kernel
theorem dX5_takenBeds_20 : decode cX5_takenBeds 20 = .ok (.iload_n 3, 1) := by decide +kernel
theorem dX5_takenBeds_21 : decode cX5_takenBeds 21 = .ok (.iload_n 1, 1) := by decide +kernel
theorem dX5_takenBeds_22 : decode cX5_takenBeds 22 = .ok (.invokevirtual 238, 3) := by decide +kernel
theorem dX5_takenBeds_25 : decode cX5_takenBeds 25 = .ok (.iadd, 1) := by decide +kernel
theorem dX5_takenBeds_26 : decode cX5_takenBeds 26 = .ok (.istore_n 2, 1) := by decide +kernel
theorem dX5_takenBeds_27 : decode cX5_takenBeds 27 = .ok (.iinc 3 1, 3) := by decide +kernel
theorem dX5_takenBeds_30 : decode cX5_takenBeds 30 = .ok (.goto (-26), 3) := by decide +kernel
theorem dX5_takenBeds_33 : decode cX5_takenBeds 33 = .ok (.iload_n 2, 1) := by decide +kernel
theorem dX5_takenBeds_34 : decode cX5_takenBeds 34 = .ok (.ireturn, 1) := by decide +kernel
theorem dX5_booked_0 : decode cX5_booked 0 = .ok (.iload_n 1, 1) := by decide +kernel
theorem dX5_booked_1 : decode cX5_booked 1 = .ok (.invokestatic 228, 3) := by decide +kernel
theorem dX5_booked_4 : decode cX5_booked 4 = .ok (.aload_n 0, 1) := by decide +kernel
theorem dX5_booked_5 : decode cX5_booked 5 = .ok (.getfield 23, 3) := by decide +kernel
theorem dX5_booked_8 : decode cX5_booked 8 = .ok (.getfield 244, 3) := by decide +kernel
theorem dX5_booked_11 : decode cX5_booked 11 = .ok (.iload_n 1, 1) := by decide +kernel
theorem dX5_booked_12 : decode cX5_booked 12 = .ok (.iaload, 1) := by decide +kernel
theorem dX5_booked_13 : decode cX5_booked 13 = .ok (.ireturn, 1) := by decide +kernel
theorem dX5_walked_0 : decode cX5_walked 0 = .ok (.iload_n 1, 1) := by decide +kernel
theorem dX5_walked_1 : decode cX5_walked 1 = .ok (.invokestatic 228, 3) := by decide +kernel
theorem dX5_walked_4 : decode cX5_walked 4 = .ok (.aload_n 0, 1) := by decide +kernel
theorem dX5_walked_5 : decode cX5_walked 5 = .ok (.iload_n 1, 1) := by decide +kernel
theorem dX5_walked_6 : decode cX5_walked 6 = .ok (.invokevirtual 247, 3) := by decide +kernel
theorem dX5_walked_9 : decode cX5_walked 9 = .ok (.ireturn, 1) := by decide +kernel
theorem dX5_walkedPersons_0 : decode cX5_walkedPersons 0 = .ok (.iconst 0, 1) := by decide +kernel
theorem dX5_walkedPersons_1 : decode cX5_walkedPersons 1 = .ok (.istore_n 2, 1) := by decide +kernel
theorem dX5_walkedPersons_2 : decode cX5_walkedPersons 2 = .ok (.iconst 0, 1) := by decide +kernel
theorem dX5_walkedPersons_3 : decode cX5_walkedPersons 3 = .ok (.istore_n 3, 1) := by decide +kernel
theorem dX5_walkedPersons_4 : decode cX5_walkedPersons 4 = .ok (.iload_n 3, 1) := by decide +kernel
theorem dX5_walkedPersons_5 : decode cX5_walkedPersons 5 = .ok (.aload_n 0, 1) := by decide +kernel
theorem dX5_walkedPersons_6 : decode cX5_walkedPersons 6 = .ok (.getfield 23, 3) := by decide +kernel
theorem dX5_walkedPersons_9 : decode cX5_walkedPersons 9 = .ok (.getfield 84, 3) := by decide +kernel
theorem dX5_walkedPersons_12 : decode cX5_walkedPersons 12 = .ok (.if_icmp .ge 53, 3) := by decide +kernel
theorem dX5_walkedPersons_15 : decode cX5_walkedPersons 15 = .ok (.aload_n 0, 1) := by decide +kernel
theorem dX5_walkedPersons_16 : decode cX5_walkedPersons 16 = .ok (.getfield 33, 3) := by decide +kernel
theorem dX5_walkedPersons_19 : decode cX5_walkedPersons 19 = .ok (.getfield 201, 3) := by decide +kernel
theorem dX5_walkedPersons_22 : decode cX5_walkedPersons 22 = .ok (.iload_n 3, 1) := by decide +kernel
theorem dX5_walkedPersons_23 : decode cX5_walkedPersons 23 = .ok (.iaload, 1) := by decide +kernel
theorem dX5_walkedPersons_24 : decode cX5_walkedPersons 24 = .ok (.iconst 3, 1) := by decide +kernel
theorem dX5_walkedPersons_25 : decode cX5_walkedPersons 25 = .ok (.if_icmp .ne 34, 3) := by decide +kernel
theorem dX5_walkedPersons_28 : decode cX5_walkedPersons 28 = .ok (.aload_n 0, 1) := by decide +kernel
theorem dX5_walkedPersons_29 : decode cX5_walkedPersons 29 = .ok (.getfield 23, 3) := by decide +kernel
theorem dX5_walkedPersons_32 : decode cX5_walkedPersons 32 = .ok (.getfield 139, 3) := by decide +kernel
theorem dX5_walkedPersons_35 : decode cX5_walkedPersons 35 = .ok (.iload_n 3, 1) := by decide +kernel
theorem dX5_walkedPersons_36 : decode cX5_walkedPersons 36 = .ok (.aaload, 1) := by decide +kernel
theorem dX5_walkedPersons_37 : decode cX5_walkedPersons 37 = .ok (.iload_n 1, 1) := by decide +kernel
theorem dX5_walkedPersons_38 : decode cX5_walkedPersons 38 = .ok (.invokevirtual 231, 3) := by decide +kernel
theorem dX5_walkedPersons_41 : decode cX5_walkedPersons 41 = .ok (.ifCond .eq 18, 3) := by decide +kernel
theorem dX5_walkedPersons_44 : decode cX5_walkedPersons 44 = .ok (.iload_n 2, 1) := by decide +kernel
theorem dX5_walkedPersons_45 : decode cX5_walkedPersons 45 = .ok (.aload_n 0, 1) := by decide +kernel
theorem dX5_walkedPersons_46 : decode cX5_walkedPersons 46 = .ok (.getfield 23, 3) := by decide +kernel
theorem dX5_walkedPersons_49 : decode cX5_walkedPersons 49 = .ok (.getfield 139, 3) := by decide +kernel
theorem dX5_walkedPersons_52 : decode cX5_walkedPersons 52 = .ok (.iload_n 3, 1) := by decide +kernel
theorem dX5_walkedPersons_53 : decode cX5_walkedPersons 53 = .ok (.aaload, 1) := by decide +kernel
theorem dX5_walkedPersons_54 : decode cX5_walkedPersons 54 = .ok (.getfield 211, 3) := by decide +kernel
theorem dX5_walkedPersons_57 : decode cX5_walkedPersons 57 = .ok (.iadd, 1) := by decide +kernel
theorem dX5_walkedPersons_58 : decode cX5_walkedPersons 58 = .ok (.istore_n 2, 1) := by decide +kernel
theorem dX5_walkedPersons_59 : decode cX5_walkedPersons 59 = .ok (.iinc 3 1, 3) := by decide +kernel
theorem dX5_walkedPersons_62 : decode cX5_walkedPersons 62 = .ok (.goto (-58), 3) := by decide +kernel
theorem dX5_walkedPersons_65 : decode cX5_walkedPersons 65 = .ok (.iload_n 2, 1) := by decide +kernel
theorem dX5_walkedPersons_66 : decode cX5_walkedPersons 66 = .ok (.ireturn, 1) := by decide +kernel
theorem dX5_fullNights_0 : decode cX5_fullNights 0 = .ok (.iconst 0, 1) := by decide +kernel
theorem dX5_fullNights_1 : decode cX5_fullNights 1 = .ok (.istore_n 1, 1) := by decide +kernel
theorem dX5_fullNights_2 : decode cX5_fullNights 2 = .ok (.iconst 0, 1) := by decide +kernel
theorem dX5_fullNights_3 : decode cX5_fullNights 3 = .ok (.istore_n 2, 1) := by decide +kernel
theorem dX5_fullNights_4 : decode cX5_fullNights 4 = .ok (.iload_n 2, 1) := by decide +kernel
theorem dX5_fullNights_5 : decode cX5_fullNights 5 = .ok (.bipush 30, 2) := by decide +kernel
theorem dX5_fullNights_7 : decode cX5_fullNights 7 = .ok (.if_icmp .ge 37, 3) := by decide +kernel
theorem dX5_fullNights_10 : decode cX5_fullNights 10 = .ok (.aload_n 0, 1) := by decide +kernel
theorem dX5_fullNights_11 : decode cX5_fullNights 11 = .ok (.getfield 23, 3) := by decide +kernel
theorem dX5_fullNights_14 : decode cX5_fullNights 14 = .ok (.getfield 87, 3) := by decide +kernel
theorem dX5_fullNights_17 : decode cX5_fullNights 17 = .ok (.ifCond .le 21, 3) := by decide +kernel
theorem dX5_fullNights_20 : decode cX5_fullNights 20 = .ok (.aload_n 0, 1) := by decide +kernel
theorem dX5_fullNights_21 : decode cX5_fullNights 21 = .ok (.iload_n 2, 1) := by decide +kernel
theorem dX5_fullNights_22 : decode cX5_fullNights 22 = .ok (.invokevirtual 241, 3) := by decide +kernel
theorem dX5_fullNights_25 : decode cX5_fullNights 25 = .ok (.aload_n 0, 1) := by decide +kernel
theorem dX5_fullNights_26 : decode cX5_fullNights 26 = .ok (.getfield 23, 3) := by decide +kernel
theorem dX5_fullNights_29 : decode cX5_fullNights 29 = .ok (.getfield 90, 3) := by decide +kernel
theorem dX5_fullNights_32 : decode cX5_fullNights 32 = .ok (.if_icmp .ne 6, 3) := by decide +kernel
theorem dX5_fullNights_35 : decode cX5_fullNights 35 = .ok (.iinc 1 1, 3) := by decide +kernel
theorem dX5_fullNights_38 : decode cX5_fullNights 38 = .ok (.iinc 2 1, 3) := by decide +kernel
theorem dX5_fullNights_41 : decode cX5_fullNights 41 = .ok (.goto (-37), 3) := by decide +kernel
theorem dX5_fullNights_44 : decode cX5_fullNights 44 = .ok (.iload_n 1, 1) := by decide +kernel
theorem dX5_fullNights_45 : decode cX5_fullNights 45 = .ok (.ireturn, 1) := by decide +kernel
theorem dX5_longestFree_0 : decode cX5_longestFree 0 = .ok (.aload_n 0, 1) := by decide +kernel
theorem dX5_longestFree_1 : decode cX5_longestFree 1 = .ok (.iload_n 1, 1) := by decide +kernel
theorem dX5_longestFree_2 : decode cX5_longestFree 2 = .ok (.iload_n 2, 1) := by decide +kernel
theorem dX5_longestFree_3 : decode cX5_longestFree 3 = .ok (.invokevirtual 224, 3) := by decide +kernel
theorem dX5_longestFree_6 : decode cX5_longestFree 6 = .ok (.iconst 0, 1) := by decide +kernel
theorem dX5_longestFree_7 : decode cX5_longestFree 7 = .ok (.istore_n 3, 1) := by decide +kernel
theorem dX5_longestFree_8 : decode cX5_longestFree 8 = .ok (.iconst 0, 1) := by decide +kernel
theorem dX5_longestFree_9 : decode cX5_longestFree 9 = .ok (.istore 4, 2) := by decide +kernel
theorem dX5_longestFree_11 : decode cX5_longestFree 11 = .ok (.iconst 0, 1) := by decide +kernel
theorem dX5_longestFree_12 : decode cX5_longestFree 12 = .ok (.istore 5, 2) := by decide +kernel
theorem dX5_longestFree_14 : decode cX5_longestFree 14 = .ok (.iload 5, 2) := by decide +kernel
theorem dX5_longestFree_16 : decode cX5_longestFree 16 = .ok (.bipush 30, 2) := by decide +kernel
theorem dX5_longestFree_18 : decode cX5_longestFree 18 = .ok (.if_icmp .ge 44, 3) := by decide +kernel
theorem dX5_longestFree_21 : decode cX5_longestFree 21 = .ok (.aload_n 0, 1) := by decide +kernel
theorem dX5_longestFree_22 : decode cX5_longestFree 22 = .ok (.getfield 33, 3) := by decide +kernel
theorem dX5_longestFree_25 : decode cX5_longestFree 25 = .ok (.iload_n 1, 1) := by decide +kernel
theorem dX5_longestFree_26 : decode cX5_longestFree 26 = .ok (.bipush 10, 2) := by decide +kernel
theorem dX5_longestFree_28 : decode cX5_longestFree 28 = .ok (.imul, 1) := by decide +kernel
theorem dX5_longestFree_29 : decode cX5_longestFree 29 = .ok (.iload_n 2, 1) := by decide +kernel
theorem dX5_longestFree_30 : decode cX5_longestFree 30 = .ok (.iadd, 1) := by decide +kernel
theorem dX5_longestFree_31 : decode cX5_longestFree 31 = .ok (.iload 5, 2) := by decide +kernel
theorem dX5_longestFree_33 : decode cX5_longestFree 33 = .ok (.invokevirtual 250, 3) := by decide +kernel
theorem dX5_longestFree_36 : decode cX5_longestFree 36 = .ok (.ifCond .eq 7, 3) := by decide +kernel
theorem dX5_longestFree_39 : decode cX5_longestFree 39 = .ok (.iconst 0, 1) := by decide +kernel
theorem dX5_longestFree_40 : decode cX5_longestFree 40 = .ok (.goto 7, 3) := by decide +kernel
theorem dX5_longestFree_43 : decode cX5_longestFree 43 = .ok (.iload 4, 2) := by decide +kernel
theorem dX5_longestFree_45 : decode cX5_longestFree 45 = .ok (.iconst 1, 1) := by decide +kernel
theorem dX5_longestFree_46 : decode cX5_longestFree 46 = .ok (.iadd, 1) := by decide +kernel
theorem dX5_longestFree_47 : decode cX5_longestFree 47 = .ok (.istore 4, 2) := by decide +kernel
theorem dX5_longestFree_49 : decode cX5_longestFree 49 = .ok (.iload_n 3, 1) := by decide +kernel
theorem dX5_longestFree_50 : decode cX5_longestFree 50 = .ok (.iload 4, 2) := by decide +kernel
theorem dX5_longestFree_52 : decode cX5_longestFree 52 = .ok (.invokestatic 254, 3) := by decide +kernel
theorem dX5_longestFree_55 : decode cX5_longestFree 55 = .ok (.istore_n 3, 1) := by decide +kernel
theorem dX5_longestFree_56 : decode cX5_longestFree 56 = .ok (.iinc 5 1, 3) := by decide +kernel
theorem dX5_longestFree_59 : decode cX5_longestFree 59 = .ok (.goto (-45), 3) := by decide +kernel
theorem dX5_longestFree_62 : decode cX5_longestFree 62 = .ok (.iload_n 3, 1) := by decide +kernel
theorem dX5_longestFree_63 : decode cX5_longestFree 63 = .ok (.ireturn, 1) := by decide +kernel
theorem dX5_splits_0 : decode cX5_splits 0 = .ok (.iconst 0, 1) := by decide +kernel
theorem dX5_splits_1 : decode cX5_splits 1 = .ok (.istore_n 1, 1) := by decide +kernel
theorem dX5_splits_2 : decode cX5_splits 2 = .ok (.iconst 0, 1) := by decide +kernel
theorem dX5_splits_3 : decode cX5_splits 3 = .ok (.istore_n 2, 1) := by decide +kernel
theorem dX5_splits_4 : decode cX5_splits 4 = .ok (.iload_n 2, 1) := by decide +kernel
theorem dX5_splits_5 : decode cX5_splits 5 = .ok (.aload_n 0, 1) := by decide +kernel
theorem dX5_splits_6 : decode cX5_splits 6 = .ok (.getfield 23, 3) := by decide +kernel
theorem dX5_splits_9 : decode cX5_splits 9 = .ok (.getfield 84, 3) := by decide +kernel
theorem dX5_splits_12 : decode cX5_splits 12 = .ok (.if_icmp .ge 25, 3) := by decide +kernel
theorem dX5_splits_15 : decode cX5_splits 15 = .ok (.aload_n 0, 1) := by decide +kernel
theorem dX5_splits_16 : decode cX5_splits 16 = .ok (.getfield 33, 3) := by decide +kernel
theorem dX5_splits_19 : decode cX5_splits 19 = .ok (.getfield 201, 3) := by decide +kernel
theorem dX5_splits_22 : decode cX5_splits 22 = .ok (.iload_n 2, 1) := by decide +kernel
theorem dX5_splits_23 : decode cX5_splits 23 = .ok (.iaload, 1) := by decide +kernel
theorem dX5_splits_24 : decode cX5_splits 24 = .ok (.iconst 2, 1) := by decide +kernel
theorem dX5_splits_25 : decode cX5_splits 25 = .ok (.if_icmp .ne 6, 3) := by decide +kernel
theorem dX5_splits_28 : decode cX5_splits 28 = .ok (.iinc 1 1, 3) := by decide +kernel
theorem dX5_splits_31 : decode cX5_splits 31 = .ok (.iinc 2 1, 3) := by decide +kernel
theorem dX5_splits_34 : decode cX5_splits 34 = .ok (.goto (-30), 3) := by decide +kernel
theorem dX5_splits_37 : decode cX5_splits 37 = .ok (.iload_n 1, 1) := by decide +kernel
theorem dX5_splits_38 : decode cX5_splits 38 = .ok (.ireturn, 1) := by decide +kernel
theorem dX5_extendable_0 : decode cX5_extendable 0 = .ok (.aload_n 0, 1) := by decide +kernel
theorem dX5_extendable_1 : decode cX5_extendable 1 = .ok (.iload_n 1, 1) := by decide +kernel
theorem dX5_extendable_2 : decode cX5_extendable 2 = .ok (.invokevirtual 136, 3) := by decide +kernel
theorem dX5_extendable_5 : decode cX5_extendable 5 = .ok (.aload_n 0, 1) := by decide +kernel
theorem dX5_extendable_6 : decode cX5_extendable 6 = .ok (.getfield 33, 3) := by decide +kernel
theorem dX5_extendable_9 : decode cX5_extendable 9 = .ok (.iload_n 1, 1) := by decide +kernel
theorem dX5_extendable_10 : decode cX5_extendable 10 = .ok (.invokevirtual 216, 3) := by decide +kernel
theorem dX5_extendable_13 : decode cX5_extendable 13 = .ok (.ifCond .ne 5, 3) := by decide +kernel
theorem dX5_extendable_16 : decode cX5_extendable 16 = .ok (.iconst 0, 1) := by decide +kernel
theorem dX5_extendable_17 : decode cX5_extendable 17 = .ok (.ireturn, 1) := by decide +kernel
theorem dX5_extendable_18 : decode cX5_extendable 18 = .ok (.aload_n 0, 1) := by decide +kernel
theorem dX5_extendable_19 : decode cX5_extendable 19 = .ok (.getfield 23, 3) := by decide +kernel
theorem dX5_extendable_22 : decode cX5_extendable 22 = .ok (.getfield 139, 3) := by decide +kernel
theorem dX5_extendable_25 : decode cX5_extendable 25 = .ok (.iload_n 1, 1) := by decide +kernel
theorem dX5_extendable_26 : decode cX5_extendable 26 = .ok (.aaload, 1) := by decide +kernel
theorem dX5_extendable_27 : decode cX5_extendable 27 = .ok (.astore_n 2, 1) := by decide +kernel
theorem dX5_extendable_28 : decode cX5_extendable 28 = .ok (.aload_n 2, 1) := by decide +kernel
theorem dX5_extendable_29 : decode cX5_extendable 29 = .ok (.getfield 143, 3) := by decide +kernel
theorem dX5_extendable_32 : decode cX5_extendable 32 = .ok (.aload_n 2, 1) := by decide +kernel
theorem dX5_extendable_33 : decode cX5_extendable 33 = .ok (.getfield 148, 3) := by decide +kernel
theorem dX5_extendable_36 : decode cX5_extendable 36 = .ok (.iadd, 1) := by decide +kernel
theorem dX5_extendable_37 : decode cX5_extendable 37 = .ok (.istore_n 3, 1) := by decide +kernel
theorem dX5_extendable_38 : decode cX5_extendable 38 = .ok (.iload_n 3, 1) := by decide +kernel
theorem dX5_extendable_39 : decode cX5_extendable 39 = .ok (.istore 4, 2) := by decide +kernel
theorem dX5_extendable_41 : decode cX5_extendable 41 = .ok (.iload 4, 2) := by decide +kernel
theorem dX5_extendable_43 : decode cX5_extendable 43 = .ok (.bipush 30, 2) := by decide +kernel
theorem dX5_extendable_45 : decode cX5_extendable 45 = .ok (.if_icmp .ge 26, 3) := by decide +kernel
theorem dX5_extendable_48 : decode cX5_extendable 48 = .ok (.aload_n 0, 1) := by decide +kernel
theorem dX5_extendable_49 : decode cX5_extendable 49 = .ok (.getfield 33, 3) := by decide +kernel
theorem dX5_extendable_52 : decode cX5_extendable 52 = .ok (.iload_n 1, 1) := by decide +kernel
theorem dX5_extendable_53 : decode cX5_extendable 53 = .ok (.aload_n 2, 1) := by decide +kernel
theorem dX5_extendable_54 : decode cX5_extendable 54 = .ok (.getfield 211, 3) := by decide +kernel
theorem dX5_extendable_57 : decode cX5_extendable 57 = .ok (.iload 4, 2) := by decide +kernel
theorem dX5_extendable_59 : decode cX5_extendable 59 = .ok (.invokevirtual 259, 3) := by decide +kernel
theorem dX5_extendable_62 : decode cX5_extendable 62 = .ok (.ifCond .eq 9, 3) := by decide +kernel
theorem dX5_extendable_65 : decode cX5_extendable 65 = .ok (.iinc 4 1, 3) := by decide +kernel
theorem dX5_extendable_68 : decode cX5_extendable 68 = .ok (.goto (-27), 3) := by decide +kernel
theorem dX5_extendable_71 : decode cX5_extendable 71 = .ok (.iload 4, 2) := by decide +kernel
theorem dX5_extendable_73 : decode cX5_extendable 73 = .ok (.iload_n 3, 1) := by decide +kernel
theorem dX5_extendable_74 : decode cX5_extendable 74 = .ok (.isub, 1) := by decide +kernel
theorem dX5_extendable_75 : decode cX5_extendable 75 = .ok (.ireturn, 1) := by decide +kernel
theorem dX5_pays_0 : decode cX5_pays 0 = .ok (.aload_n 0, 1) := by decide +kernel
theorem dX5_pays_1 : decode cX5_pays 1 = .ok (.iload_n 1, 1) := by decide +kernel
theorem dX5_pays_2 : decode cX5_pays 2 = .ok (.invokevirtual 136, 3) := by decide +kernel
theorem dX5_pays_5 : decode cX5_pays 5 = .ok (.aload_n 0, 1) := by decide +kernel
theorem dX5_pays_6 : decode cX5_pays 6 = .ok (.getfield 33, 3) := by decide +kernel
theorem dX5_pays_9 : decode cX5_pays 9 = .ok (.getfield 262, 3) := by decide +kernel
theorem dX5_pays_12 : decode cX5_pays 12 = .ok (.iload_n 1, 1) := by decide +kernel
theorem dX5_pays_13 : decode cX5_pays 13 = .ok (.iaload, 1) := by decide +kernel
theorem dX5_pays_14 : decode cX5_pays 14 = .ok (.ireturn, 1) := by decide +kernel
theorem dX5_walkCost_0 : decode cX5_walkCost 0 = .ok (.aload_n 0, 1) := by decide +kernel
theorem dX5_walkCost_1 : decode cX5_walkCost 1 = .ok (.getfield 33, 3) := by decide +kernel
theorem dX5_walkCost_4 : decode cX5_walkCost 4 = .ok (.getfield 265, 3) := by decide +kernel
theorem dX5_walkCost_7 : decode cX5_walkCost 7 = .ok (.ireturn, 1) := by decide +kernel
theorem dX5_net_0 : decode cX5_net 0 = .ok (.aload_n 0, 1) := by decide +kernel
theorem dX5_net_1 : decode cX5_net 1 = .ok (.getfield 33, 3) := by decide +kernel
theorem dX5_net_4 : decode cX5_net 4 = .ok (.getfield 268, 3) := by decide +kernel
theorem dX5_net_7 : decode cX5_net 7 = .ok (.aload_n 0, 1) := by decide +kernel
theorem dX5_net_8 : decode cX5_net 8 = .ok (.getfield 33, 3) := by decide +kernel
theorem dX5_net_11 : decode cX5_net 11 = .ok (.getfield 265, 3) := by decide +kernel
theorem dX5_net_14 : decode cX5_net 14 = .ok (.isub, 1) := by decide +kernel
theorem dX5_net_15 : decode cX5_net 15 = .ok (.ireturn, 1) := by decide +kernel
theorem dX5_chance_0 : decode cX5_chance 0 = .ok (.iload_n 1, 1) := by decide +kernel
theorem dX5_chance_1 : decode cX5_chance 1 = .ok (.invokestatic 228, 3) := by decide +kernel
theorem dX5_chance_4 : decode cX5_chance 4 = .ok (.aload_n 0, 1) := by decide +kernel
theorem dX5_chance_5 : decode cX5_chance 5 = .ok (.iload_n 1, 1) := by decide +kernel
theorem dX5_chance_6 : decode cX5_chance 6 = .ok (.invokevirtual 271, 3) := by decide +kernel
theorem dX5_chance_9 : decode cX5_chance 9 = .ok (.iload_n 2, 1) := by decide +kernel
theorem dX5_chance_10 : decode cX5_chance 10 = .ok (.ifCond .lt 21, 3) := by decide +kernel
theorem dX5_chance_13 : decode cX5_chance 13 = .ok (.iload_n 2, 1) := by decide +kernel
theorem dX5_chance_14 : decode cX5_chance 14 = .ok (.aload_n 0, 1) := by decide +kernel
theorem dX5_chance_15 : decode cX5_chance 15 = .ok (.getfield 44, 3) := by decide +kernel
theorem dX5_chance_18 : decode cX5_chance 18 = .ok (.arraylength, 1) := by decide +kernel
theorem dX5_chance_19 : decode cX5_chance 19 = .ok (.if_icmp .ge 12, 3) := by decide +kernel
theorem dX5_chance_22 : decode cX5_chance 22 = .ok (.aload_n 0, 1) := by decide +kernel
theorem dX5_chance_23 : decode cX5_chance 23 = .ok (.getfield 44, 3) := by decide +kernel
theorem dX5_chance_26 : decode cX5_chance 26 = .ok (.iload_n 2, 1) := by decide +kernel
theorem dX5_chance_27 : decode cX5_chance 27 = .ok (.daload, 1) := by decide +kernel
theorem dX5_chance_28 : decode cX5_chance 28 = .ok (.goto 4, 3) := by decide +kernel
theorem dX5_chance_31 : decode cX5_chance 31 = .ok (.dconst 0, 1) := by decide +kernel
theorem dX5_chance_32 : decode cX5_chance 32 = .ok (.dreturn, 1) := by decide +kernel
theorem dX5_risk_0 : decode cX5_risk 0 = .ok (.iload_n 1, 1) := by decide +kernel
theorem dX5_risk_1 : decode cX5_risk 1 = .ok (.invokestatic 228, 3) := by decide +kernel
theorem dX5_risk_4 : decode cX5_risk 4 = .ok (.aload_n 0, 1) := by decide +kernel
theorem dX5_risk_5 : decode cX5_risk 5 = .ok (.iload_n 1, 1) := by decide +kernel
theorem dX5_risk_6 : decode cX5_risk 6 = .ok (.invokevirtual 271, 3) := by decide +kernel
theorem dX5_risk_9 : decode cX5_risk 9 = .ok (.dconst 0, 1) := by decide +kernel
theorem dX5_risk_10 : decode cX5_risk 10 = .ok (.dstore_n 2, 1) := by decide +kernel
theorem dX5_risk_11 : decode cX5_risk 11 = .ok (.aload_n 0, 1) := by decide +kernel
theorem dX5_risk_12 : decode cX5_risk 12 = .ok (.getfield 23, 3) := by decide +kernel
theorem dX5_risk_15 : decode cX5_risk 15 = .ok (.getfield 90, 3) := by decide +kernel
theorem dX5_risk_18 : decode cX5_risk 18 = .ok (.iconst 1, 1) := by decide +kernel
theorem dX5_risk_19 : decode cX5_risk 19 = .ok (.iadd, 1) := by decide +kernel
theorem dX5_risk_20 : decode cX5_risk 20 = .ok (.istore 4, 2) := by decide +kernel
theorem dX5_risk_22 : decode cX5_risk 22 = .ok (.iload 4, 2) := by decide +kernel
theorem dX5_risk_24 : decode cX5_risk 24 = .ok (.aload_n 0, 1) := by decide +kernel
theorem dX5_risk_25 : decode cX5_risk 25 = .ok (.getfield 44, 3) := by decide +kernel
theorem dX5_risk_28 : decode cX5_risk 28 = .ok (.arraylength, 1) := by decide +kernel
theorem dX5_risk_29 : decode cX5_risk 29 = .ok (.if_icmp .ge 19, 3) := by decide +kernel
theorem dX5_risk_32 : decode cX5_risk 32 = .ok (.dload_n 2, 1) := by decide +kernel
theorem dX5_risk_33 : decode cX5_risk 33 = .ok (.aload_n 0, 1) := by decide +kernel
theorem dX5_risk_34 : decode cX5_risk 34 = .ok (.getfield 44, 3) := by decide +kernel
theorem dX5_risk_37 : decode cX5_risk 37 = .ok (.iload 4, 2) := by decide +kernel
theorem dX5_risk_39 : decode cX5_risk 39 = .ok (.daload, 1) := by decide +kernel
theorem dX5_risk_40 : decode cX5_risk 40 = .ok (.dadd, 1) := by decide +kernel
theorem dX5_risk_41 : decode cX5_risk 41 = .ok (.dstore_n 2, 1) := by decide +kernel
theorem dX5_risk_42 : decode cX5_risk 42 = .ok (.iinc 4 1, 3) := by decide +kernel
theorem dX5_risk_45 : decode cX5_risk 45 = .ok (.goto (-23), 3) := by decide +kernel
theorem dX5_risk_48 : decode cX5_risk 48 = .ok (.dload_n 2, 1) := by decide +kernel
theorem dX5_risk_49 : decode cX5_risk 49 = .ok (.dreturn, 1) := by decide +kernel
theorem dX5_expectedWalks_0 : decode cX5_expectedWalks 0 = .ok (.iload_n 1, 1) := by decide +kernel
theorem dX5_expectedWalks_1 : decode cX5_expectedWalks 1 = .ok (.invokestatic 228, 3) := by decide +kernel
theorem dX5_expectedWalks_4 : decode cX5_expectedWalks 4 = .ok (.aload_n 0, 1) := by decide +kernel
theorem dX5_expectedWalks_5 : decode cX5_expectedWalks 5 = .ok (.iload_n 1, 1) := by decide +kernel
theorem dX5_expectedWalks_6 : decode cX5_expectedWalks 6 = .ok (.invokevirtual 271, 3) := by decide +kernel
theorem dX5_expectedWalks_9 : decode cX5_expectedWalks 9 = .ok (.dconst 0, 1) := by decide +kernel
theorem dX5_expectedWalks_10 : decode cX5_expectedWalks 10 = .ok (.dstore_n 2, 1) := by decide +kernel
theorem dX5_expectedWalks_11 : decode cX5_expectedWalks 11 = .ok (.aload_n 0, 1) := by decide +kernel
theorem dX5_expectedWalks_12 : decode cX5_expectedWalks 12 = .ok (.getfield 23, 3) := by decide +kernel
theorem dX5_expectedWalks_15 : decode cX5_expectedWalks 15 = .ok (.getfield 90, 3) := by decide +kernel
theorem dX5_expectedWalks_18 : decode cX5_expectedWalks 18 = .ok (.iconst 1, 1) := by decide +kernel
theorem dX5_expectedWalks_19 : decode cX5_expectedWalks 19 = .ok (.iadd, 1) := by decide +kernel
theorem dX5_expectedWalks_20 : decode cX5_expectedWalks 20 = .ok (.istore 4, 2) := by decide +kernel
theorem dX5_expectedWalks_22 : decode cX5_expectedWalks 22 = .ok (.iload 4, 2) := by decide +kernel
theorem dX5_expectedWalks_24 : decode cX5_expectedWalks 24 = .ok (.aload_n 0, 1) := by decide +kernel
theorem dX5_expectedWalks_25 : decode cX5_expectedWalks 25 = .ok (.getfield 44, 3) := by decide +kernel
theorem dX5_expectedWalks_28 : decode cX5_expectedWalks 28 = .ok (.arraylength, 1) := by decide +kernel
theorem dX5_expectedWalks_29 : decode cX5_expectedWalks 29 = .ok (.if_icmp .ge 31, 3) := by decide +kernel
theorem dX5_expectedWalks_32 : decode cX5_expectedWalks 32 = .ok (.dload_n 2, 1) := by decide +kernel
theorem dX5_expectedWalks_33 : decode cX5_expectedWalks 33 = .ok (.iload 4, 2) := by decide +kernel
theorem dX5_expectedWalks_35 : decode cX5_expectedWalks 35 = .ok (.aload_n 0, 1) := by decide +kernel
theorem dX5_expectedWalks_36 : decode cX5_expectedWalks 36 = .ok (.getfield 23, 3) := by decide +kernel
theorem dX5_expectedWalks_39 : decode cX5_expectedWalks 39 = .ok (.getfield 90, 3) := by decide +kernel
theorem dX5_expectedWalks_42 : decode cX5_expectedWalks 42 = .ok (.isub, 1) := by decide +kernel
theorem dX5_expectedWalks_43 : decode cX5_expectedWalks 43 = .ok (.i2d, 1) := by decide +kernel
theorem dX5_expectedWalks_44 : decode cX5_expectedWalks 44 = .ok (.aload_n 0, 1) := by decide +kernel
theorem dX5_expectedWalks_45 : decode cX5_expectedWalks 45 = .ok (.getfield 44, 3) := by decide +kernel
theorem dX5_expectedWalks_48 : decode cX5_expectedWalks 48 = .ok (.iload 4, 2) := by decide +kernel
theorem dX5_expectedWalks_50 : decode cX5_expectedWalks 50 = .ok (.daload, 1) := by decide +kernel
theorem dX5_expectedWalks_51 : decode cX5_expectedWalks 51 = .ok (.dmul, 1) := by decide +kernel
theorem dX5_expectedWalks_52 : decode cX5_expectedWalks 52 = .ok (.dadd, 1) := by decide +kernel
theorem dX5_expectedWalks_53 : decode cX5_expectedWalks 53 = .ok (.dstore_n 2, 1) := by decide +kernel
theorem dX5_expectedWalks_54 : decode cX5_expectedWalks 54 = .ok (.iinc 4 1, 3) := by decide +kernel
theorem dX5_expectedWalks_57 : decode cX5_expectedWalks 57 = .ok (.goto (-35), 3) := by decide +kernel
theorem dX5_expectedWalks_60 : decode cX5_expectedWalks 60 = .ok (.dload_n 2, 1) := by decide +kernel
theorem dX5_expectedWalks_61 : decode cX5_expectedWalks 61 = .ok (.dreturn, 1) := by decide +kernel
theorem dX5_fillOdds_0 : decode cX5_fillOdds 0 = .ok (.aload_n 0, 1) := by decide +kernel
theorem dX5_fillOdds_1 : decode cX5_fillOdds 1 = .ok (.getfield 44, 3) := by decide +kernel
theorem dX5_fillOdds_4 : decode cX5_fillOdds 4 = .ok (.iconst 0, 1) := by decide +kernel
theorem dX5_fillOdds_5 : decode cX5_fillOdds 5 = .ok (.dconst 1, 1) := by decide +kernel
theorem dX5_fillOdds_6 : decode cX5_fillOdds 6 = .ok (.dastore, 1) := by decide +kernel
theorem dX5_fillOdds_7 : decode cX5_fillOdds 7 = .ok (.iconst 1, 1) := by decide +kernel
theorem dX5_fillOdds_8 : decode cX5_fillOdds 8 = .ok (.istore_n 2, 1) := by decide +kernel
theorem dX5_fillOdds_9 : decode cX5_fillOdds 9 = .ok (.iload_n 2, 1) := by decide +kernel
theorem dX5_fillOdds_10 : decode cX5_fillOdds 10 = .ok (.aload_n 0, 1) := by decide +kernel
theorem dX5_fillOdds_11 : decode cX5_fillOdds 11 = .ok (.getfield 44, 3) := by decide +kernel
theorem dX5_fillOdds_14 : decode cX5_fillOdds 14 = .ok (.arraylength, 1) := by decide +kernel
theorem dX5_fillOdds_15 : decode cX5_fillOdds 15 = .ok (.if_icmp .ge 16, 3) := by decide +kernel
theorem dX5_fillOdds_18 : decode cX5_fillOdds 18 = .ok (.aload_n 0, 1) := by decide +kernel
theorem dX5_fillOdds_19 : decode cX5_fillOdds 19 = .ok (.getfield 44, 3) := by decide +kernel
theorem dX5_fillOdds_22 : decode cX5_fillOdds 22 = .ok (.iload_n 2, 1) := by decide +kernel
theorem dX5_fillOdds_23 : decode cX5_fillOdds 23 = .ok (.dconst 0, 1) := by decide +kernel
theorem dX5_fillOdds_24 : decode cX5_fillOdds 24 = .ok (.dastore, 1) := by decide +kernel
theorem dX5_fillOdds_25 : decode cX5_fillOdds 25 = .ok (.iinc 2 1, 3) := by decide +kernel
theorem dX5_fillOdds_28 : decode cX5_fillOdds 28 = .ok (.goto (-19), 3) := by decide +kernel
theorem dX5_fillOdds_31 : decode cX5_fillOdds 31 = .ok (.iconst 0, 1) := by decide +kernel
theorem dX5_fillOdds_32 : decode cX5_fillOdds 32 = .ok (.istore_n 2, 1) := by decide +kernel
theorem dX5_fillOdds_33 : decode cX5_fillOdds 33 = .ok (.iload_n 2, 1) := by decide +kernel
theorem dX5_fillOdds_34 : decode cX5_fillOdds 34 = .ok (.aload_n 0, 1) := by decide +kernel
theorem dX5_fillOdds_35 : decode cX5_fillOdds 35 = .ok (.getfield 23, 3) := by decide +kernel
theorem dX5_fillOdds_38 : decode cX5_fillOdds 38 = .ok (.getfield 84, 3) := by decide +kernel
theorem dX5_fillOdds_41 : decode cX5_fillOdds 41 = .ok (.if_icmp .ge 52, 3) := by decide +kernel
theorem dX5_fillOdds_44 : decode cX5_fillOdds 44 = .ok (.aload_n 0, 1) := by decide +kernel
theorem dX5_fillOdds_45 : decode cX5_fillOdds 45 = .ok (.getfield 23, 3) := by decide +kernel
theorem dX5_fillOdds_48 : decode cX5_fillOdds 48 = .ok (.getfield 139, 3) := by decide +kernel
theorem dX5_fillOdds_51 : decode cX5_fillOdds 51 = .ok (.iload_n 2, 1) := by decide +kernel
theorem dX5_fillOdds_52 : decode cX5_fillOdds 52 = .ok (.aaload, 1) := by decide +kernel
theorem dX5_fillOdds_53 : decode cX5_fillOdds 53 = .ok (.astore_n 3, 1) := by decide +kernel
theorem dX5_fillOdds_54 : decode cX5_fillOdds 54 = .ok (.aload_n 3, 1) := by decide +kernel
theorem dX5_fillOdds_55 : decode cX5_fillOdds 55 = .ok (.getfield 186, 3) := by decide +kernel
theorem dX5_fillOdds_58 : decode cX5_fillOdds 58 = .ok (.iconst 1, 1) := by decide +kernel
theorem dX5_fillOdds_59 : decode cX5_fillOdds 59 = .ok (.if_icmp .ne 28, 3) := by decide +kernel
theorem dX5_fillOdds_62 : decode cX5_fillOdds 62 = .ok (.aload_n 3, 1) := by decide +kernel
theorem dX5_fillOdds_63 : decode cX5_fillOdds 63 = .ok (.iload_n 1, 1) := by decide +kernel
theorem dX5_fillOdds_64 : decode cX5_fillOdds 64 = .ok (.invokevirtual 231, 3) := by decide +kernel
theorem dX5_fillOdds_67 : decode cX5_fillOdds 67 = .ok (.ifCond .eq 20, 3) := by decide +kernel
theorem dX5_fillOdds_70 : decode cX5_fillOdds 70 = .ok (.aload_n 0, 1) := by decide +kernel
theorem dX5_fillOdds_71 : decode cX5_fillOdds 71 = .ok (.aload_n 3, 1) := by decide +kernel
theorem dX5_fillOdds_72 : decode cX5_fillOdds 72 = .ok (.getfield 211, 3) := by decide +kernel
theorem dX5_fillOdds_75 : decode cX5_fillOdds 75 = .ok (.aload_n 3, 1) := by decide +kernel
theorem dX5_fillOdds_76 : decode cX5_fillOdds 76 = .ok (.getfield 158, 3) := by decide +kernel
theorem dX5_fillOdds_79 : decode cX5_fillOdds 79 = .ok (.i2d, 1) := by decide +kernel
theorem dX5_fillOdds_80 : decode cX5_fillOdds 80 = .ok (.ldc2_w 274, 3) := by decide +kernel
theorem dX5_fillOdds_83 : decode cX5_fillOdds 83 = .ok (.ddiv, 1) := by decide +kernel
theorem dX5_fillOdds_84 : decode cX5_fillOdds 84 = .ok (.invokevirtual 276, 3) := by decide +kernel
theorem dX5_fillOdds_87 : decode cX5_fillOdds 87 = .ok (.iinc 2 1, 3) := by decide +kernel
theorem dX5_fillOdds_90 : decode cX5_fillOdds 90 = .ok (.goto (-57), 3) := by decide +kernel
theorem dX5_fillOdds_93 : decode cX5_fillOdds 93 = .ok (.return_, 1) := by decide +kernel
theorem dX5_addToOdds_0 : decode cX5_addToOdds 0 = .ok (.aload_n 0, 1) := by decide +kernel
theorem dX5_addToOdds_1 : decode cX5_addToOdds 1 = .ok (.getfield 44, 3) := by decide +kernel
theorem dX5_addToOdds_4 : decode cX5_addToOdds 4 = .ok (.arraylength, 1) := by decide +kernel
theorem dX5_addToOdds_5 : decode cX5_addToOdds 5 = .ok (.iconst 1, 1) := by decide +kernel
theorem dX5_addToOdds_6 : decode cX5_addToOdds 6 = .ok (.isub, 1) := by decide +kernel
theorem dX5_addToOdds_7 : decode cX5_addToOdds 7 = .ok (.istore 4, 2) := by decide +kernel
theorem dX5_addToOdds_9 : decode cX5_addToOdds 9 = .ok (.iload 4, 2) := by decide +kernel
theorem dX5_addToOdds_11 : decode cX5_addToOdds 11 = .ok (.ifCond .lt 53, 3) := by decide +kernel
theorem dX5_addToOdds_14 : decode cX5_addToOdds 14 = .ok (.iload 4, 2) := by decide +kernel
theorem dX5_addToOdds_16 : decode cX5_addToOdds 16 = .ok (.iload_n 1, 1) := by decide +kernel
theorem dX5_addToOdds_17 : decode cX5_addToOdds 17 = .ok (.if_icmp .lt 15, 3) := by decide +kernel
theorem dX5_addToOdds_20 : decode cX5_addToOdds 20 = .ok (.aload_n 0, 1) := by decide +kernel
theorem dX5_addToOdds_21 : decode cX5_addToOdds 21 = .ok (.getfield 44, 3) := by decide +kernel
theorem dX5_addToOdds_24 : decode cX5_addToOdds 24 = .ok (.iload 4, 2) := by decide +kernel
theorem dX5_addToOdds_26 : decode cX5_addToOdds 26 = .ok (.iload_n 1, 1) := by decide +kernel
theorem dX5_addToOdds_27 : decode cX5_addToOdds 27 = .ok (.isub, 1) := by decide +kernel
theorem dX5_addToOdds_28 : decode cX5_addToOdds 28 = .ok (.daload, 1) := by decide +kernel
theorem dX5_addToOdds_29 : decode cX5_addToOdds 29 = .ok (.goto 4, 3) := by decide +kernel
theorem dX5_addToOdds_32 : decode cX5_addToOdds 32 = .ok (.dconst 0, 1) := by decide +kernel
theorem dX5_addToOdds_33 : decode cX5_addToOdds 33 = .ok (.dstore 5, 2) := by decide +kernel
theorem dX5_addToOdds_35 : decode cX5_addToOdds 35 = .ok (.aload_n 0, 1) := by decide +kernel
theorem dX5_addToOdds_36 : decode cX5_addToOdds 36 = .ok (.getfield 44, 3) := by decide +kernel
theorem dX5_addToOdds_39 : decode cX5_addToOdds 39 = .ok (.iload 4, 2) := by decide +kernel
theorem dX5_addToOdds_41 : decode cX5_addToOdds 41 = .ok (.aload_n 0, 1) := by decide +kernel
theorem dX5_addToOdds_42 : decode cX5_addToOdds 42 = .ok (.getfield 44, 3) := by decide +kernel
theorem dX5_addToOdds_45 : decode cX5_addToOdds 45 = .ok (.iload 4, 2) := by decide +kernel
theorem dX5_addToOdds_47 : decode cX5_addToOdds 47 = .ok (.daload, 1) := by decide +kernel
theorem dX5_addToOdds_48 : decode cX5_addToOdds 48 = .ok (.dconst 1, 1) := by decide +kernel
theorem dX5_addToOdds_49 : decode cX5_addToOdds 49 = .ok (.dload_n 2, 1) := by decide +kernel
theorem dX5_addToOdds_50 : decode cX5_addToOdds 50 = .ok (.dsub, 1) := by decide +kernel
theorem dX5_addToOdds_51 : decode cX5_addToOdds 51 = .ok (.dmul, 1) := by decide +kernel
theorem dX5_addToOdds_52 : decode cX5_addToOdds 52 = .ok (.dload 5, 2) := by decide +kernel
theorem dX5_addToOdds_54 : decode cX5_addToOdds 54 = .ok (.dload_n 2, 1) := by decide +kernel
theorem dX5_addToOdds_55 : decode cX5_addToOdds 55 = .ok (.dmul, 1) := by decide +kernel
theorem dX5_addToOdds_56 : decode cX5_addToOdds 56 = .ok (.dadd, 1) := by decide +kernel
theorem dX5_addToOdds_57 : decode cX5_addToOdds 57 = .ok (.dastore, 1) := by decide +kernel
theorem dX5_addToOdds_58 : decode cX5_addToOdds 58 = .ok (.iinc 4 (-1), 3) := by decide +kernel
theorem dX5_addToOdds_61 : decode cX5_addToOdds 61 = .ok (.goto (-52), 3) := by decide +kernel
theorem dX5_addToOdds_64 : decode cX5_addToOdds 64 = .ok (.return_, 1) := by decide +kernel
theorem dX5_wouldBe_0 : decode cX5_wouldBe 0 = .ok (.iload_n 1, 1) := by decide +kernel
theorem dX5_wouldBe_1 : decode cX5_wouldBe 1 = .ok (.iload_n 2, 1) := by decide +kernel
theorem dX5_wouldBe_2 : decode cX5_wouldBe 2 = .ok (.iload_n 3, 1) := by decide +kernel
theorem dX5_wouldBe_3 : decode cX5_wouldBe 3 = .ok (.iload 4, 2) := by decide +kernel
theorem dX5_wouldBe_5 : decode cX5_wouldBe 5 = .ok (.iload 5, 2) := by decide +kernel
theorem dX5_wouldBe_7 : decode cX5_wouldBe 7 = .ok (.invokestatic 280, 3) := by decide +kernel
theorem dX5_wouldBe_10 : decode cX5_wouldBe 10 = .ok (.aload_n 0, 1) := by decide +kernel
theorem dX5_wouldBe_11 : decode cX5_wouldBe 11 = .ok (.iload_n 1, 1) := by decide +kernel
theorem dX5_wouldBe_12 : decode cX5_wouldBe 12 = .ok (.iload_n 2, 1) := by decide +kernel
theorem dX5_wouldBe_13 : decode cX5_wouldBe 13 = .ok (.iload_n 3, 1) := by decide +kernel
theorem dX5_wouldBe_14 : decode cX5_wouldBe 14 = .ok (.iload 4, 2) := by decide +kernel
theorem dX5_wouldBe_16 : decode cX5_wouldBe 16 = .ok (.iload 5, 2) := by decide +kernel
theorem dX5_wouldBe_18 : decode cX5_wouldBe 18 = .ok (.invokevirtual 284, 3) := by decide +kernel
theorem dX5_wouldBe_21 : decode cX5_wouldBe 21 = .ok (.istore 6, 2) := by decide +kernel
theorem dX5_wouldBe_23 : decode cX5_wouldBe 23 = .ok (.aload_n 0, 1) := by decide +kernel
theorem dX5_wouldBe_24 : decode cX5_wouldBe 24 = .ok (.getfield 37, 3) := by decide +kernel
theorem dX5_wouldBe_27 : decode cX5_wouldBe 27 = .ok (.aload_n 0, 1) := by decide +kernel
theorem dX5_wouldBe_28 : decode cX5_wouldBe 28 = .ok (.getfield 27, 3) := by decide +kernel
theorem dX5_wouldBe_31 : decode cX5_wouldBe 31 = .ok (.invokevirtual 80, 3) := by decide +kernel
theorem dX5_wouldBe_34 : decode cX5_wouldBe 34 = .ok (.aload_n 0, 1) := by decide +kernel
theorem dX5_wouldBe_35 : decode cX5_wouldBe 35 = .ok (.getfield 37, 3) := by decide +kernel
theorem dX5_wouldBe_38 : decode cX5_wouldBe 38 = .ok (.getfield 201, 3) := by decide +kernel
theorem dX5_wouldBe_41 : decode cX5_wouldBe 41 = .ok (.iload 6, 2) := by decide +kernel
theorem dX5_wouldBe_43 : decode cX5_wouldBe 43 = .ok (.iaload, 1) := by decide +kernel
theorem dX5_wouldBe_44 : decode cX5_wouldBe 44 = .ok (.ireturn, 1) := by decide +kernel
theorem dX5_bestStay_0 : decode cX5_bestStay 0 = .ok (.iload_n 1, 1) := by decide +kernel
theorem dX5_bestStay_1 : decode cX5_bestStay 1 = .ok (.iconst 1, 1) := by decide +kernel
theorem dX5_bestStay_2 : decode cX5_bestStay 2 = .ok (.iload_n 2, 1) := by decide +kernel
theorem dX5_bestStay_3 : decode cX5_bestStay 3 = .ok (.iload_n 3, 1) := by decide +kernel
theorem dX5_bestStay_4 : decode cX5_bestStay 4 = .ok (.iload 4, 2) := by decide +kernel
theorem dX5_bestStay_6 : decode cX5_bestStay 6 = .ok (.invokestatic 280, 3) := by decide +kernel
theorem dX5_bestStay_9 : decode cX5_bestStay 9 = .ok (.aload_n 0, 1) := by decide +kernel
theorem dX5_bestStay_10 : decode cX5_bestStay 10 = .ok (.iload_n 1, 1) := by decide +kernel
theorem dX5_bestStay_11 : decode cX5_bestStay 11 = .ok (.iconst 1, 1) := by decide +kernel
theorem dX5_bestStay_12 : decode cX5_bestStay 12 = .ok (.iload_n 2, 1) := by decide +kernel
theorem dX5_bestStay_13 : decode cX5_bestStay 13 = .ok (.iload_n 3, 1) := by decide +kernel
theorem dX5_bestStay_14 : decode cX5_bestStay 14 = .ok (.iload 4, 2) := by decide +kernel
theorem dX5_bestStay_16 : decode cX5_bestStay 16 = .ok (.invokevirtual 284, 3) := by decide +kernel
theorem dX5_bestStay_19 : decode cX5_bestStay 19 = .ok (.istore 5, 2) := by decide +kernel
theorem dX5_bestStay_21 : decode cX5_bestStay 21 = .ok (.aload_n 0, 1) := by decide +kernel
theorem dX5_bestStay_22 : decode cX5_bestStay 22 = .ok (.getfield 27, 3) := by decide +kernel
theorem dX5_bestStay_25 : decode cX5_bestStay 25 = .ok (.getfield 139, 3) := by decide +kernel
theorem dX5_bestStay_28 : decode cX5_bestStay 28 = .ok (.iload 5, 2) := by decide +kernel
theorem dX5_bestStay_30 : decode cX5_bestStay 30 = .ok (.aaload, 1) := by decide +kernel
theorem dX5_bestStay_31 : decode cX5_bestStay 31 = .ok (.astore 6, 2) := by decide +kernel
theorem dX5_bestStay_33 : decode cX5_bestStay 33 = .ok (.iconst 0, 1) := by decide +kernel
theorem dX5_bestStay_34 : decode cX5_bestStay 34 = .ok (.istore 7, 2) := by decide +kernel
theorem dX5_bestStay_36 : decode cX5_bestStay 36 = .ok (.iconst 0, 1) := by decide +kernel
theorem dX5_bestStay_37 : decode cX5_bestStay 37 = .ok (.istore 8, 2) := by decide +kernel
theorem dX5_bestStay_39 : decode cX5_bestStay 39 = .ok (.iconst 1, 1) := by decide +kernel
theorem dX5_bestStay_40 : decode cX5_bestStay 40 = .ok (.istore 9, 2) := by decide +kernel
theorem dX5_bestStay_42 : decode cX5_bestStay 42 = .ok (.iload 9, 2) := by decide +kernel
theorem dX5_bestStay_44 : decode cX5_bestStay 44 = .ok (.bipush 30, 2) := by decide +kernel
theorem dX5_bestStay_46 : decode cX5_bestStay 46 = .ok (.iload_n 1, 1) := by decide +kernel
theorem dX5_bestStay_47 : decode cX5_bestStay 47 = .ok (.isub, 1) := by decide +kernel
theorem dX5_bestStay_48 : decode cX5_bestStay 48 = .ok (.if_icmp .gt 42, 3) := by decide +kernel
theorem dX5_bestStay_51 : decode cX5_bestStay 51 = .ok (.aload 6, 2) := by decide +kernel
theorem dX5_bestStay_53 : decode cX5_bestStay 53 = .ok (.iload 9, 2) := by decide +kernel
theorem dX5_bestStay_55 : decode cX5_bestStay 55 = .ok (.putfield 148, 3) := by decide +kernel
theorem dX5_bestStay_58 : decode cX5_bestStay 58 = .ok (.aload_n 0, 1) := by decide +kernel
theorem dX5_bestStay_59 : decode cX5_bestStay 59 = .ok (.invokevirtual 288, 3) := by decide +kernel
theorem dX5_bestStay_62 : decode cX5_bestStay 62 = .ok (.istore 10, 2) := by decide +kernel
theorem dX5_bestStay_64 : decode cX5_bestStay 64 = .ok (.iload 7, 2) := by decide +kernel
theorem dX5_bestStay_66 : decode cX5_bestStay 66 = .ok (.ifCond .eq 10, 3) := by decide +kernel
theorem dX5_bestStay_69 : decode cX5_bestStay 69 = .ok (.iload 10, 2) := by decide +kernel
theorem dX5_bestStay_71 : decode cX5_bestStay 71 = .ok (.iload 8, 2) := by decide +kernel
theorem dX5_bestStay_73 : decode cX5_bestStay 73 = .ok (.if_icmp .le 11, 3) := by decide +kernel
theorem dX5_bestStay_76 : decode cX5_bestStay 76 = .ok (.iload 9, 2) := by decide +kernel
theorem dX5_bestStay_78 : decode cX5_bestStay 78 = .ok (.istore 7, 2) := by decide +kernel
theorem dX5_bestStay_80 : decode cX5_bestStay 80 = .ok (.iload 10, 2) := by decide +kernel
theorem dX5_bestStay_82 : decode cX5_bestStay 82 = .ok (.istore 8, 2) := by decide +kernel
theorem dX5_bestStay_84 : decode cX5_bestStay 84 = .ok (.iinc 9 1, 3) := by decide +kernel
theorem dX5_bestStay_87 : decode cX5_bestStay 87 = .ok (.goto (-45), 3) := by decide +kernel
theorem dX5_bestStay_90 : decode cX5_bestStay 90 = .ok (.iload 7, 2) := by decide +kernel
theorem dX5_bestStay_92 : decode cX5_bestStay 92 = .ok (.ireturn, 1) := by decide +kernel
theorem dX5_addToSpare_0 : decode cX5_addToSpare 0 = .ok (.aload_n 0, 1) := by decide +kernel
theorem dX5_addToSpare_1 : decode cX5_addToSpare 1 = .ok (.getfield 27, 3) := by decide +kernel
theorem dX5_addToSpare_4 : decode cX5_addToSpare 4 = .ok (.aload_n 0, 1) := by decide +kernel
theorem dX5_addToSpare_5 : decode cX5_addToSpare 5 = .ok (.getfield 23, 3) := by decide +kernel
theorem dX5_addToSpare_8 : decode cX5_addToSpare 8 = .ok (.invokevirtual 292, 3) := by decide +kernel
theorem dX5_addToSpare_11 : decode cX5_addToSpare 11 = .ok (.aload_n 0, 1) := by decide +kernel
theorem dX5_addToSpare_12 : decode cX5_addToSpare 12 = .ok (.getfield 27, 3) := by decide +kernel
theorem dX5_addToSpare_15 : decode cX5_addToSpare 15 = .ok (.getfield 84, 3) := by decide +kernel
theorem dX5_addToSpare_18 : decode cX5_addToSpare 18 = .ok (.istore 6, 2) := by decide +kernel
theorem dX5_addToSpare_20 : decode cX5_addToSpare 20 = .ok (.aload_n 0, 1) := by decide +kernel
theorem dX5_addToSpare_21 : decode cX5_addToSpare 21 = .ok (.getfield 27, 3) := by decide +kernel
theorem dX5_addToSpare_24 : decode cX5_addToSpare 24 = .ok (.getfield 139, 3) := by decide +kernel
theorem dX5_addToSpare_27 : decode cX5_addToSpare 27 = .ok (.iload 6, 2) := by decide +kernel
theorem dX5_addToSpare_29 : decode cX5_addToSpare 29 = .ok (.aaload, 1) := by decide +kernel
theorem dX5_addToSpare_30 : decode cX5_addToSpare 30 = .ok (.iload_n 1, 1) := by decide +kernel
theorem dX5_addToSpare_31 : decode cX5_addToSpare 31 = .ok (.iload_n 2, 1) := by decide +kernel
theorem dX5_addToSpare_32 : decode cX5_addToSpare 32 = .ok (.iload_n 3, 1) := by decide +kernel
theorem dX5_addToSpare_33 : decode cX5_addToSpare 33 = .ok (.iload 4, 2) := by decide +kernel
theorem dX5_addToSpare_35 : decode cX5_addToSpare 35 = .ok (.iload 5, 2) := by decide +kernel
theorem dX5_addToSpare_37 : decode cX5_addToSpare 37 = .ok (.bipush 100, 2) := by decide +kernel
theorem dX5_addToSpare_39 : decode cX5_addToSpare 39 = .ok (.invokevirtual 295, 3) := by decide +kernel
theorem dX5_addToSpare_42 : decode cX5_addToSpare 42 = .ok (.aload_n 0, 1) := by decide +kernel
theorem dX5_addToSpare_43 : decode cX5_addToSpare 43 = .ok (.getfield 27, 3) := by decide +kernel
theorem dX5_addToSpare_46 : decode cX5_addToSpare 46 = .ok (.getfield 139, 3) := by decide +kernel
theorem dX5_addToSpare_49 : decode cX5_addToSpare 49 = .ok (.iload 6, 2) := by decide +kernel
theorem dX5_addToSpare_51 : decode cX5_addToSpare 51 = .ok (.aaload, 1) := by decide +kernel
theorem dX5_addToSpare_52 : decode cX5_addToSpare 52 = .ok (.iconst 1, 1) := by decide +kernel
theorem dX5_addToSpare_53 : decode cX5_addToSpare 53 = .ok (.putfield 186, 3) := by decide +kernel
theorem dX5_addToSpare_56 : decode cX5_addToSpare 56 = .ok (.aload_n 0, 1) := by decide +kernel
theorem dX5_addToSpare_57 : decode cX5_addToSpare 57 = .ok (.getfield 27, 3) := by decide +kernel
theorem dX5_addToSpare_60 : decode cX5_addToSpare 60 = .ok (.dup, 1) := by decide +kernel
theorem dX5_addToSpare_61 : decode cX5_addToSpare 61 = .ok (.getfield 84, 3) := by decide +kernel
theorem dX5_addToSpare_64 : decode cX5_addToSpare 64 = .ok (.iconst 1, 1) := by decide +kernel
theorem dX5_addToSpare_65 : decode cX5_addToSpare 65 = .ok (.iadd, 1) := by decide +kernel
theorem dX5_addToSpare_66 : decode cX5_addToSpare 66 = .ok (.putfield 84, 3) := by decide +kernel
theorem dX5_addToSpare_69 : decode cX5_addToSpare 69 = .ok (.iload 6, 2) := by decide +kernel
theorem dX5_addToSpare_71 : decode cX5_addToSpare 71 = .ok (.ireturn, 1) := by decide +kernel
theorem dX5_netOfSpare_0 : decode cX5_netOfSpare 0 = .ok (.aload_n 0, 1) := by decide +kernel
theorem dX5_netOfSpare_1 : decode cX5_netOfSpare 1 = .ok (.getfield 37, 3) := by decide +kernel
theorem dX5_netOfSpare_4 : decode cX5_netOfSpare 4 = .ok (.aload_n 0, 1) := by decide +kernel
theorem dX5_netOfSpare_5 : decode cX5_netOfSpare 5 = .ok (.getfield 27, 3) := by decide +kernel
theorem dX5_netOfSpare_8 : decode cX5_netOfSpare 8 = .ok (.invokevirtual 80, 3) := by decide +kernel
theorem dX5_netOfSpare_11 : decode cX5_netOfSpare 11 = .ok (.aload_n 0, 1) := by decide +kernel
theorem dX5_netOfSpare_12 : decode cX5_netOfSpare 12 = .ok (.getfield 37, 3) := by decide +kernel
theorem dX5_netOfSpare_15 : decode cX5_netOfSpare 15 = .ok (.getfield 268, 3) := by decide +kernel
theorem dX5_netOfSpare_18 : decode cX5_netOfSpare 18 = .ok (.aload_n 0, 1) := by decide +kernel
theorem dX5_netOfSpare_19 : decode cX5_netOfSpare 19 = .ok (.getfield 37, 3) := by decide +kernel
theorem dX5_netOfSpare_22 : decode cX5_netOfSpare 22 = .ok (.getfield 265, 3) := by decide +kernel
theorem dX5_netOfSpare_25 : decode cX5_netOfSpare 25 = .ok (.isub, 1) := by decide +kernel
theorem dX5_netOfSpare_26 : decode cX5_netOfSpare 26 = .ok (.ireturn, 1) := by decide +kernel
theorem dX5_netWithout_0 : decode cX5_netWithout 0 = .ok (.aload_n 0, 1) := by decide +kernel
theorem dX5_netWithout_1 : decode cX5_netWithout 1 = .ok (.iload_n 1, 1) := by decide +kernel
theorem dX5_netWithout_2 : decode cX5_netWithout 2 = .ok (.invokevirtual 136, 3) := by decide +kernel
theorem dX5_netWithout_5 : decode cX5_netWithout 5 = .ok (.aload_n 0, 1) := by decide +kernel
theorem dX5_netWithout_6 : decode cX5_netWithout 6 = .ok (.getfield 23, 3) := by decide +kernel
theorem dX5_netWithout_9 : decode cX5_netWithout 9 = .ok (.getfield 139, 3) := by decide +kernel
theorem dX5_netWithout_12 : decode cX5_netWithout 12 = .ok (.iload_n 1, 1) := by decide +kernel
theorem dX5_netWithout_13 : decode cX5_netWithout 13 = .ok (.aaload, 1) := by decide +kernel
theorem dX5_netWithout_14 : decode cX5_netWithout 14 = .ok (.getfield 186, 3) := by decide +kernel
theorem dX5_netWithout_17 : decode cX5_netWithout 17 = .ok (.iconst 1, 1) := by decide +kernel
theorem dX5_netWithout_18 : decode cX5_netWithout 18 = .ok (.if_icmp .eq 19, 3) := by decide +kernel
theorem dX5_netWithout_21 : decode cX5_netWithout 21 = .ok (.aload_n 0, 1) := by decide +kernel
theorem dX5_netWithout_22 : decode cX5_netWithout 22 = .ok (.getfield 33, 3) := by decide +kernel
theorem dX5_netWithout_25 : decode cX5_netWithout 25 = .ok (.getfield 268, 3) := by decide +kernel
theorem dX5_netWithout_28 : decode cX5_netWithout 28 = .ok (.aload_n 0, 1) := by decide +kernel
theorem dX5_netWithout_29 : decode cX5_netWithout 29 = .ok (.getfield 33, 3) := by decide +kernel
theorem dX5_netWithout_32 : decode cX5_netWithout 32 = .ok (.getfield 265, 3) := by decide +kernel
theorem dX5_netWithout_35 : decode cX5_netWithout 35 = .ok (.isub, 1) := by decide +kernel
theorem dX5_netWithout_36 : decode cX5_netWithout 36 = .ok (.ireturn, 1) := by decide +kernel
theorem dX5_netWithout_37 : decode cX5_netWithout 37 = .ok (.aload_n 0, 1) := by decide +kernel
theorem dX5_netWithout_38 : decode cX5_netWithout 38 = .ok (.getfield 27, 3) := by decide +kernel
theorem dX5_netWithout_41 : decode cX5_netWithout 41 = .ok (.aload_n 0, 1) := by decide +kernel
theorem dX5_netWithout_42 : decode cX5_netWithout 42 = .ok (.getfield 23, 3) := by decide +kernel
theorem dX5_netWithout_45 : decode cX5_netWithout 45 = .ok (.invokevirtual 292, 3) := by decide +kernel
theorem dX5_netWithout_48 : decode cX5_netWithout 48 = .ok (.aload_n 0, 1) := by decide +kernel
theorem dX5_netWithout_49 : decode cX5_netWithout 49 = .ok (.getfield 27, 3) := by decide +kernel
theorem dX5_netWithout_52 : decode cX5_netWithout 52 = .ok (.iload_n 1, 1) := by decide +kernel
theorem dX5_netWithout_53 : decode cX5_netWithout 53 = .ok (.invokevirtual 299, 3) := by decide +kernel
theorem dX5_netWithout_56 : decode cX5_netWithout 56 = .ok (.aload_n 0, 1) := by decide +kernel
theorem dX5_netWithout_57 : decode cX5_netWithout 57 = .ok (.invokevirtual 288, 3) := by decide +kernel
theorem dX5_netWithout_60 : decode cX5_netWithout 60 = .ok (.ireturn, 1) := by decide +kernel
theorem dX5_bestOver_0 : decode cX5_bestOver 0 = .ok (.aload_n 0, 1) := by decide +kernel
theorem dX5_bestOver_1 : decode cX5_bestOver 1 = .ok (.getfield 27, 3) := by decide +kernel
theorem dX5_bestOver_4 : decode cX5_bestOver 4 = .ok (.aload_n 0, 1) := by decide +kernel
theorem dX5_bestOver_5 : decode cX5_bestOver 5 = .ok (.getfield 23, 3) := by decide +kernel
theorem dX5_bestOver_8 : decode cX5_bestOver 8 = .ok (.invokevirtual 292, 3) := by decide +kernel
theorem dX5_bestOver_11 : decode cX5_bestOver 11 = .ok (.iconst 0, 1) := by decide +kernel
theorem dX5_bestOver_12 : decode cX5_bestOver 12 = .ok (.istore_n 1, 1) := by decide +kernel
theorem dX5_bestOver_13 : decode cX5_bestOver 13 = .ok (.iconst 0, 1) := by decide +kernel
theorem dX5_bestOver_14 : decode cX5_bestOver 14 = .ok (.istore_n 2, 1) := by decide +kernel
theorem dX5_bestOver_15 : decode cX5_bestOver 15 = .ok (.iconst (-1), 1) := by decide +kernel
theorem dX5_bestOver_16 : decode cX5_bestOver 16 = .ok (.istore_n 3, 1) := by decide +kernel
theorem dX5_bestOver_17 : decode cX5_bestOver 17 = .ok (.iconst 0, 1) := by decide +kernel
theorem dX5_bestOver_18 : decode cX5_bestOver 18 = .ok (.istore 4, 2) := by decide +kernel
theorem dX5_bestOver_20 : decode cX5_bestOver 20 = .ok (.iload 4, 2) := by decide +kernel
theorem dX5_bestOver_22 : decode cX5_bestOver 22 = .ok (.bipush 50, 2) := by decide +kernel
theorem dX5_bestOver_24 : decode cX5_bestOver 24 = .ok (.if_icmp .gt 62, 3) := by decide +kernel
theorem dX5_bestOver_27 : decode cX5_bestOver 27 = .ok (.aload_n 0, 1) := by decide +kernel
theorem dX5_bestOver_28 : decode cX5_bestOver 28 = .ok (.getfield 27, 3) := by decide +kernel
theorem dX5_bestOver_31 : decode cX5_bestOver 31 = .ok (.iload 4, 2) := by decide +kernel
theorem dX5_bestOver_33 : decode cX5_bestOver 33 = .ok (.putfield 99, 3) := by decide +kernel
theorem dX5_bestOver_36 : decode cX5_bestOver 36 = .ok (.aload_n 0, 1) := by decide +kernel
theorem dX5_bestOver_37 : decode cX5_bestOver 37 = .ok (.getfield 27, 3) := by decide +kernel
theorem dX5_bestOver_40 : decode cX5_bestOver 40 = .ok (.invokevirtual 302, 3) := by decide +kernel
theorem dX5_bestOver_43 : decode cX5_bestOver 43 = .ok (.istore 5, 2) := by decide +kernel
theorem dX5_bestOver_45 : decode cX5_bestOver 45 = .ok (.iload 5, 2) := by decide +kernel
theorem dX5_bestOver_47 : decode cX5_bestOver 47 = .ok (.iload_n 3, 1) := by decide +kernel
theorem dX5_bestOver_48 : decode cX5_bestOver 48 = .ok (.if_icmp .ne 6, 3) := by decide +kernel
theorem dX5_bestOver_51 : decode cX5_bestOver 51 = .ok (.goto 29, 3) := by decide +kernel
theorem dX5_bestOver_54 : decode cX5_bestOver 54 = .ok (.aload_n 0, 1) := by decide +kernel
theorem dX5_bestOver_55 : decode cX5_bestOver 55 = .ok (.invokevirtual 288, 3) := by decide +kernel
theorem dX5_bestOver_58 : decode cX5_bestOver 58 = .ok (.istore 6, 2) := by decide +kernel
theorem dX5_bestOver_60 : decode cX5_bestOver 60 = .ok (.iload_n 3, 1) := by decide +kernel
theorem dX5_bestOver_61 : decode cX5_bestOver 61 = .ok (.iconst (-1), 1) := by decide +kernel
theorem dX5_bestOver_62 : decode cX5_bestOver 62 = .ok (.if_icmp .eq 9, 3) := by decide +kernel
theorem dX5_bestOver_65 : decode cX5_bestOver 65 = .ok (.iload 6, 2) := by decide +kernel
theorem dX5_bestOver_67 : decode cX5_bestOver 67 = .ok (.iload_n 2, 1) := by decide +kernel
theorem dX5_bestOver_68 : decode cX5_bestOver 68 = .ok (.if_icmp .le 9, 3) := by decide +kernel
theorem dX5_bestOver_71 : decode cX5_bestOver 71 = .ok (.iload 4, 2) := by decide +kernel
theorem dX5_bestOver_73 : decode cX5_bestOver 73 = .ok (.istore_n 1, 1) := by decide +kernel
theorem dX5_bestOver_74 : decode cX5_bestOver 74 = .ok (.iload 6, 2) := by decide +kernel
theorem dX5_bestOver_76 : decode cX5_bestOver 76 = .ok (.istore_n 2, 1) := by decide +kernel
theorem dX5_bestOver_77 : decode cX5_bestOver 77 = .ok (.iload 5, 2) := by decide +kernel
theorem dX5_bestOver_79 : decode cX5_bestOver 79 = .ok (.istore_n 3, 1) := by decide +kernel
theorem dX5_bestOver_80 : decode cX5_bestOver 80 = .ok (.iinc 4 1, 3) := by decide +kernel
theorem dX5_bestOver_83 : decode cX5_bestOver 83 = .ok (.goto (-63), 3) := by decide +kernel
theorem dX5_bestOver_86 : decode cX5_bestOver 86 = .ok (.iload_n 1, 1) := by decide +kernel
theorem dX5_bestOver_87 : decode cX5_bestOver 87 = .ok (.ireturn, 1) := by decide +kernel
theorem dX5_book_0 : decode cX5_book 0 = .ok (.iload_n 1, 1) := by decide +kernel
theorem dX5_book_1 : decode cX5_book 1 = .ok (.iload_n 2, 1) := by decide +kernel
theorem dX5_book_2 : decode cX5_book 2 = .ok (.iload_n 3, 1) := by decide +kernel
theorem dX5_book_3 : decode cX5_book 3 = .ok (.iload 4, 2) := by decide +kernel
theorem dX5_book_5 : decode cX5_book 5 = .ok (.iload 5, 2) := by decide +kernel
theorem dX5_book_7 : decode cX5_book 7 = .ok (.invokestatic 280, 3) := by decide +kernel
theorem dX5_book_10 : decode cX5_book 10 = .ok (.iload 6, 2) := by decide +kernel
theorem dX5_book_12 : decode cX5_book 12 = .ok (.iconst 0, 1) := by decide +kernel
theorem dX5_book_13 : decode cX5_book 13 = .ok (.bipush 100, 2) := by decide +kernel
theorem dX5_book_15 : decode cX5_book 15 = .ok (.invokestatic 305, 3) := by decide +kernel
theorem dX5_book_18 : decode cX5_book 18 = .ok (.aload_n 0, 1) := by decide +kernel
theorem dX5_book_19 : decode cX5_book 19 = .ok (.getfield 23, 3) := by decide +kernel
theorem dX5_book_22 : decode cX5_book 22 = .ok (.getfield 84, 3) := by decide +kernel
theorem dX5_book_25 : decode cX5_book 25 = .ok (.bipush 16, 2) := by decide +kernel
theorem dX5_book_27 : decode cX5_book 27 = .ok (.if_icmp .lt 14, 3) := by decide +kernel
theorem dX5_book_30 : decode cX5_book 30 = .ok (.new 55, 3) := by decide +kernel
theorem dX5_book_33 : decode cX5_book 33 = .ok (.dup, 1) := by decide +kernel
theorem dX5_book_34 : decode cX5_book 34 = .ok (.ldc_w 309, 3) := by decide +kernel
theorem dX5_book_37 : decode cX5_book 37 = .ok (.invokespecial 59, 3) := by decide +kernel
theorem dX5_book_40 : decode cX5_book 40 = .ok (.athrow, 1) := by decide +kernel
theorem dX5_book_41 : decode cX5_book 41 = .ok (.aload_n 0, 1) := by decide +kernel
theorem dX5_book_42 : decode cX5_book 42 = .ok (.invokevirtual 311, 3) := by decide +kernel
theorem dX5_book_45 : decode cX5_book 45 = .ok (.aload_n 0, 1) := by decide +kernel
theorem dX5_book_46 : decode cX5_book 46 = .ok (.getfield 23, 3) := by decide +kernel
theorem dX5_book_49 : decode cX5_book 49 = .ok (.getfield 139, 3) := by decide +kernel
theorem dX5_book_52 : decode cX5_book 52 = .ok (.aload_n 0, 1) := by decide +kernel
theorem dX5_book_53 : decode cX5_book 53 = .ok (.getfield 23, 3) := by decide +kernel
theorem dX5_book_56 : decode cX5_book 56 = .ok (.getfield 84, 3) := by decide +kernel
theorem dX5_book_59 : decode cX5_book 59 = .ok (.aaload, 1) := by decide +kernel
theorem dX5_book_60 : decode cX5_book 60 = .ok (.iload_n 1, 1) := by decide +kernel
theorem dX5_book_61 : decode cX5_book 61 = .ok (.iload_n 2, 1) := by decide +kernel
theorem dX5_book_62 : decode cX5_book 62 = .ok (.iload_n 3, 1) := by decide +kernel
theorem dX5_book_63 : decode cX5_book 63 = .ok (.iload 4, 2) := by decide +kernel
theorem dX5_book_65 : decode cX5_book 65 = .ok (.iload 5, 2) := by decide +kernel
theorem dX5_book_67 : decode cX5_book 67 = .ok (.iload 6, 2) := by decide +kernel
theorem dX5_book_69 : decode cX5_book 69 = .ok (.invokevirtual 295, 3) := by decide +kernel
theorem dX5_book_72 : decode cX5_book 72 = .ok (.aload_n 0, 1) := by decide +kernel
theorem dX5_book_73 : decode cX5_book 73 = .ok (.getfield 23, 3) := by decide +kernel
theorem dX5_book_76 : decode cX5_book 76 = .ok (.invokevirtual 314, 3) := by decide +kernel
theorem dX5_book_79 : decode cX5_book 79 = .ok (.aload_n 0, 1) := by decide +kernel
theorem dX5_book_80 : decode cX5_book 80 = .ok (.getfield 33, 3) := by decide +kernel
theorem dX5_book_83 : decode cX5_book 83 = .ok (.aload_n 0, 1) := by decide +kernel
theorem dX5_book_84 : decode cX5_book 84 = .ok (.getfield 23, 3) := by decide +kernel
theorem dX5_book_87 : decode cX5_book 87 = .ok (.invokevirtual 80, 3) := by decide +kernel
theorem dX5_book_90 : decode cX5_book 90 = .ok (.aload_n 0, 1) := by decide +kernel
theorem dX5_book_91 : decode cX5_book 91 = .ok (.getfield 23, 3) := by decide +kernel
theorem dX5_book_94 : decode cX5_book 94 = .ok (.getfield 84, 3) := by decide +kernel
theorem dX5_book_97 : decode cX5_book 97 = .ok (.iconst 1, 1) := by decide +kernel
theorem dX5_book_98 : decode cX5_book 98 = .ok (.isub, 1) := by decide +kernel
theorem dX5_book_99 : decode cX5_book 99 = .ok (.ireturn, 1) := by decide +kernel
theorem dX5_cancel_0 : decode cX5_cancel 0 = .ok (.aload_n 0, 1) := by decide +kernel
theorem dX5_cancel_1 : decode cX5_cancel 1 = .ok (.iload_n 1, 1) := by decide +kernel
theorem dX5_cancel_2 : decode cX5_cancel 2 = .ok (.invokevirtual 136, 3) := by decide +kernel
theorem dX5_cancel_5 : decode cX5_cancel 5 = .ok (.aload_n 0, 1) := by decide +kernel
theorem dX5_cancel_6 : decode cX5_cancel 6 = .ok (.getfield 23, 3) := by decide +kernel
theorem dX5_cancel_9 : decode cX5_cancel 9 = .ok (.getfield 139, 3) := by decide +kernel
theorem dX5_cancel_12 : decode cX5_cancel 12 = .ok (.iload_n 1, 1) := by decide +kernel
theorem dX5_cancel_13 : decode cX5_cancel 13 = .ok (.aaload, 1) := by decide +kernel
theorem dX5_cancel_14 : decode cX5_cancel 14 = .ok (.getfield 186, 3) := by decide +kernel
theorem dX5_cancel_17 : decode cX5_cancel 17 = .ok (.iconst 2, 1) := by decide +kernel
theorem dX5_cancel_18 : decode cX5_cancel 18 = .ok (.if_icmp .ne 14, 3) := by decide +kernel
theorem dX5_cancel_21 : decode cX5_cancel 21 = .ok (.new 55, 3) := by decide +kernel
theorem dX5_cancel_24 : decode cX5_cancel 24 = .ok (.dup, 1) := by decide +kernel
theorem dX5_cancel_25 : decode cX5_cancel 25 = .ok (.ldc_w 317, 3) := by decide +kernel
theorem dX5_cancel_28 : decode cX5_cancel 28 = .ok (.invokespecial 59, 3) := by decide +kernel
theorem dX5_cancel_31 : decode cX5_cancel 31 = .ok (.athrow, 1) := by decide +kernel
theorem dX5_cancel_32 : decode cX5_cancel 32 = .ok (.aload_n 0, 1) := by decide +kernel
theorem dX5_cancel_33 : decode cX5_cancel 33 = .ok (.invokevirtual 311, 3) := by decide +kernel
theorem dX5_cancel_36 : decode cX5_cancel 36 = .ok (.aload_n 0, 1) := by decide +kernel
theorem dX5_cancel_37 : decode cX5_cancel 37 = .ok (.getfield 23, 3) := by decide +kernel
theorem dX5_cancel_40 : decode cX5_cancel 40 = .ok (.iload_n 1, 1) := by decide +kernel
theorem dX5_cancel_41 : decode cX5_cancel 41 = .ok (.invokevirtual 299, 3) := by decide +kernel
theorem dX5_cancel_44 : decode cX5_cancel 44 = .ok (.aload_n 0, 1) := by decide +kernel
theorem dX5_cancel_45 : decode cX5_cancel 45 = .ok (.getfield 23, 3) := by decide +kernel
theorem dX5_cancel_48 : decode cX5_cancel 48 = .ok (.invokevirtual 319, 3) := by decide +kernel
theorem dX5_cancel_51 : decode cX5_cancel 51 = .ok (.istore_n 2, 1) := by decide +kernel
theorem dX5_cancel_52 : decode cX5_cancel 52 = .ok (.aload_n 0, 1) := by decide +kernel
theorem dX5_cancel_53 : decode cX5_cancel 53 = .ok (.getfield 33, 3) := by decide +kernel
theorem dX5_cancel_56 : decode cX5_cancel 56 = .ok (.aload_n 0, 1) := by decide +kernel
theorem dX5_cancel_57 : decode cX5_cancel 57 = .ok (.getfield 23, 3) := by decide +kernel
theorem dX5_cancel_60 : decode cX5_cancel 60 = .ok (.invokevirtual 80, 3) := by decide +kernel
theorem dX5_cancel_63 : decode cX5_cancel 63 = .ok (.iload_n 2, 1) := by decide +kernel
theorem dX5_cancel_64 : decode cX5_cancel 64 = .ok (.ireturn, 1) := by decide +kernel
theorem dX5_setAbsent_0 : decode cX5_setAbsent 0 = .ok (.aload_n 0, 1) := by decide +kernel
theorem dX5_setAbsent_1 : decode cX5_setAbsent 1 = .ok (.iload_n 1, 1) := by decide +kernel
theorem dX5_setAbsent_2 : decode cX5_setAbsent 2 = .ok (.invokevirtual 136, 3) := by decide +kernel
theorem dX5_setAbsent_5 : decode cX5_setAbsent 5 = .ok (.aload_n 0, 1) := by decide +kernel
theorem dX5_setAbsent_6 : decode cX5_setAbsent 6 = .ok (.invokevirtual 311, 3) := by decide +kernel
theorem dX5_setAbsent_9 : decode cX5_setAbsent 9 = .ok (.aload_n 0, 1) := by decide +kernel
theorem dX5_setAbsent_10 : decode cX5_setAbsent 10 = .ok (.getfield 23, 3) := by decide +kernel
theorem dX5_setAbsent_13 : decode cX5_setAbsent 13 = .ok (.getfield 139, 3) := by decide +kernel
theorem dX5_setAbsent_16 : decode cX5_setAbsent 16 = .ok (.iload_n 1, 1) := by decide +kernel
theorem dX5_setAbsent_17 : decode cX5_setAbsent 17 = .ok (.aaload, 1) := by decide +kernel
theorem dX5_setAbsent_18 : decode cX5_setAbsent 18 = .ok (.getfield 165, 3) := by decide +kernel
theorem dX5_setAbsent_21 : decode cX5_setAbsent 21 = .ok (.istore_n 3, 1) := by decide +kernel
theorem dX5_setAbsent_22 : decode cX5_setAbsent 22 = .ok (.aload_n 0, 1) := by decide +kernel
theorem dX5_setAbsent_23 : decode cX5_setAbsent 23 = .ok (.getfield 23, 3) := by decide +kernel
theorem dX5_setAbsent_26 : decode cX5_setAbsent 26 = .ok (.getfield 139, 3) := by decide +kernel
theorem dX5_setAbsent_29 : decode cX5_setAbsent 29 = .ok (.iload_n 1, 1) := by decide +kernel
theorem dX5_setAbsent_30 : decode cX5_setAbsent 30 = .ok (.aaload, 1) := by decide +kernel
theorem dX5_setAbsent_31 : decode cX5_setAbsent 31 = .ok (.iload_n 2, 1) := by decide +kernel
theorem dX5_setAbsent_32 : decode cX5_setAbsent 32 = .ok (.putfield 165, 3) := by decide +kernel
theorem dX5_setAbsent_35 : decode cX5_setAbsent 35 = .ok (.aload_n 0, 1) := by decide +kernel
theorem dX5_setAbsent_36 : decode cX5_setAbsent 36 = .ok (.getfield 33, 3) := by decide +kernel
theorem dX5_setAbsent_39 : decode cX5_setAbsent 39 = .ok (.aload_n 0, 1) := by decide +kernel
theorem dX5_setAbsent_40 : decode cX5_setAbsent 40 = .ok (.getfield 23, 3) := by decide +kernel
theorem dX5_setAbsent_43 : decode cX5_setAbsent 43 = .ok (.invokevirtual 80, 3) := by decide +kernel
theorem dX5_setAbsent_46 : decode cX5_setAbsent 46 = .ok (.iload_n 3, 1) := by decide +kernel
theorem dX5_setAbsent_47 : decode cX5_setAbsent 47 = .ok (.ireturn, 1) := by decide +kernel
theorem dX5_setTogether_0 : decode cX5_setTogether 0 = .ok (.aload_n 0, 1) := by decide +kernel
theorem dX5_setTogether_1 : decode cX5_setTogether 1 = .ok (.iload_n 1, 1) := by decide +kernel
theorem dX5_setTogether_2 : decode cX5_setTogether 2 = .ok (.invokevirtual 136, 3) := by decide +kernel
theorem dX5_setTogether_5 : decode cX5_setTogether 5 = .ok (.aload_n 0, 1) := by decide +kernel
theorem dX5_setTogether_6 : decode cX5_setTogether 6 = .ok (.invokevirtual 311, 3) := by decide +kernel
theorem dX5_setTogether_9 : decode cX5_setTogether 9 = .ok (.aload_n 0, 1) := by decide +kernel
theorem dX5_setTogether_10 : decode cX5_setTogether 10 = .ok (.getfield 23, 3) := by decide +kernel
theorem dX5_setTogether_13 : decode cX5_setTogether 13 = .ok (.getfield 139, 3) := by decide +kernel
theorem dX5_setTogether_16 : decode cX5_setTogether 16 = .ok (.iload_n 1, 1) := by decide +kernel
theorem dX5_setTogether_17 : decode cX5_setTogether 17 = .ok (.aaload, 1) := by decide +kernel
theorem dX5_setTogether_18 : decode cX5_setTogether 18 = .ok (.getfield 161, 3) := by decide +kernel
theorem dX5_setTogether_21 : decode cX5_setTogether 21 = .ok (.istore_n 3, 1) := by decide +kernel
theorem dX5_setTogether_22 : decode cX5_setTogether 22 = .ok (.aload_n 0, 1) := by decide +kernel
theorem dX5_setTogether_23 : decode cX5_setTogether 23 = .ok (.getfield 23, 3) := by decide +kernel
theorem dX5_setTogether_26 : decode cX5_setTogether 26 = .ok (.getfield 139, 3) := by decide +kernel
theorem dX5_setTogether_29 : decode cX5_setTogether 29 = .ok (.iload_n 1, 1) := by decide +kernel
theorem dX5_setTogether_30 : decode cX5_setTogether 30 = .ok (.aaload, 1) := by decide +kernel
theorem dX5_setTogether_31 : decode cX5_setTogether 31 = .ok (.iload_n 2, 1) := by decide +kernel
theorem dX5_setTogether_32 : decode cX5_setTogether 32 = .ok (.putfield 161, 3) := by decide +kernel
theorem dX5_setTogether_35 : decode cX5_setTogether 35 = .ok (.aload_n 0, 1) := by decide +kernel
theorem dX5_setTogether_36 : decode cX5_setTogether 36 = .ok (.getfield 33, 3) := by decide +kernel
theorem dX5_setTogether_39 : decode cX5_setTogether 39 = .ok (.aload_n 0, 1) := by decide +kernel
theorem dX5_setTogether_40 : decode cX5_setTogether 40 = .ok (.getfield 23, 3) := by decide +kernel
theorem dX5_setTogether_43 : decode cX5_setTogether 43 = .ok (.invokevirtual 80, 3) := by decide +kernel
theorem dX5_setTogether_46 : decode cX5_setTogether 46 = .ok (.iload_n 3, 1) := by decide +kernel
theorem dX5_setTogether_47 : decode cX5_setTogether 47 = .ok (.ireturn, 1) := by decide +kernel
theorem dX5_setOver_0 : decode cX5_setOver 0 = .ok (.iload_n 1, 1) := by decide +kernel
theorem dX5_setOver_1 : decode cX5_setOver 1 = .ok (.iconst 0, 1) := by decide +kernel
theorem dX5_setOver_2 : decode cX5_setOver 2 = .ok (.bipush 50, 2) := by decide +kernel
theorem dX5_setOver_4 : decode cX5_setOver 4 = .ok (.invokestatic 305, 3) := by decide +kernel
theorem dX5_setOver_7 : decode cX5_setOver 7 = .ok (.aload_n 0, 1) := by decide +kernel
theorem dX5_setOver_8 : decode cX5_setOver 8 = .ok (.invokevirtual 311, 3) := by decide +kernel
theorem dX5_setOver_11 : decode cX5_setOver 11 = .ok (.aload_n 0, 1) := by decide +kernel
theorem dX5_setOver_12 : decode cX5_setOver 12 = .ok (.getfield 23, 3) := by decide +kernel
theorem dX5_setOver_15 : decode cX5_setOver 15 = .ok (.iload_n 1, 1) := by decide +kernel
theorem dX5_setOver_16 : decode cX5_setOver 16 = .ok (.putfield 99, 3) := by decide +kernel
theorem dX5_setOver_19 : decode cX5_setOver 19 = .ok (.aload_n 0, 1) := by decide +kernel
theorem dX5_setOver_20 : decode cX5_setOver 20 = .ok (.getfield 23, 3) := by decide +kernel
theorem dX5_setOver_23 : decode cX5_setOver 23 = .ok (.invokevirtual 319, 3) := by decide +kernel
theorem dX5_setOver_26 : decode cX5_setOver 26 = .ok (.istore_n 2, 1) := by decide +kernel
theorem dX5_setOver_27 : decode cX5_setOver 27 = .ok (.aload_n 0, 1) := by decide +kernel
theorem dX5_setOver_28 : decode cX5_setOver 28 = .ok (.getfield 33, 3) := by decide +kernel
theorem dX5_setOver_31 : decode cX5_setOver 31 = .ok (.aload_n 0, 1) := by decide +kernel
theorem dX5_setOver_32 : decode cX5_setOver 32 = .ok (.getfield 23, 3) := by decide +kernel
theorem dX5_setOver_35 : decode cX5_setOver 35 = .ok (.invokevirtual 80, 3) := by decide +kernel
theorem dX5_setOver_38 : decode cX5_setOver 38 = .ok (.iload_n 2, 1) := by decide +kernel
theorem dX5_setOver_39 : decode cX5_setOver 39 = .ok (.ireturn, 1) := by decide +kernel
theorem dX5_setWalk_0 : decode cX5_setWalk 0 = .ok (.iload_n 1, 1) := by decide +kernel
theorem dX5_setWalk_1 : decode cX5_setWalk 1 = .ok (.iconst 0, 1) := by decide +kernel
theorem dX5_setWalk_2 : decode cX5_setWalk 2 = .ok (.sipush 300, 3) := by decide +kernel
theorem dX5_setWalk_5 : decode cX5_setWalk 5 = .ok (.invokestatic 305, 3) := by decide +kernel
theorem dX5_setWalk_8 : decode cX5_setWalk 8 = .ok (.aload_n 0, 1) := by decide +kernel
theorem dX5_setWalk_9 : decode cX5_setWalk 9 = .ok (.invokevirtual 311, 3) := by decide +kernel
theorem dX5_setWalk_12 : decode cX5_setWalk 12 = .ok (.aload_n 0, 1) := by decide +kernel
theorem dX5_setWalk_13 : decode cX5_setWalk 13 = .ok (.getfield 23, 3) := by decide +kernel
theorem dX5_setWalk_16 : decode cX5_setWalk 16 = .ok (.getfield 102, 3) := by decide +kernel
theorem dX5_setWalk_19 : decode cX5_setWalk 19 = .ok (.istore_n 2, 1) := by decide +kernel
theorem dX5_setWalk_20 : decode cX5_setWalk 20 = .ok (.aload_n 0, 1) := by decide +kernel
theorem dX5_setWalk_21 : decode cX5_setWalk 21 = .ok (.getfield 23, 3) := by decide +kernel
theorem dX5_setWalk_24 : decode cX5_setWalk 24 = .ok (.iload_n 1, 1) := by decide +kernel
theorem dX5_setWalk_25 : decode cX5_setWalk 25 = .ok (.putfield 102, 3) := by decide +kernel
theorem dX5_setWalk_28 : decode cX5_setWalk 28 = .ok (.aload_n 0, 1) := by decide +kernel
theorem dX5_setWalk_29 : decode cX5_setWalk 29 = .ok (.getfield 33, 3) := by decide +kernel
theorem dX5_setWalk_32 : decode cX5_setWalk 32 = .ok (.aload_n 0, 1) := by decide +kernel
theorem dX5_setWalk_33 : decode cX5_setWalk 33 = .ok (.getfield 23, 3) := by decide +kernel
theorem dX5_setWalk_36 : decode cX5_setWalk 36 = .ok (.invokevirtual 80, 3) := by decide +kernel
theorem dX5_setWalk_39 : decode cX5_setWalk 39 = .ok (.iload_n 2, 1) := by decide +kernel
theorem dX5_setWalk_40 : decode cX5_setWalk 40 = .ok (.ireturn, 1) := by decide +kernel
theorem dX5_setPrice_0 : decode cX5_setPrice 0 = .ok (.aload_n 0, 1) := by decide +kernel
theorem dX5_setPrice_1 : decode cX5_setPrice 1 = .ok (.iload_n 1, 1) := by decide +kernel
theorem dX5_setPrice_2 : decode cX5_setPrice 2 = .ok (.invokevirtual 113, 3) := by decide +kernel
theorem dX5_setPrice_5 : decode cX5_setPrice 5 = .ok (.iload_n 2, 1) := by decide +kernel
theorem dX5_setPrice_6 : decode cX5_setPrice 6 = .ok (.iconst 1, 1) := by decide +kernel
theorem dX5_setPrice_7 : decode cX5_setPrice 7 = .ok (.sipush 200, 3) := by decide +kernel
theorem dX5_setPrice_10 : decode cX5_setPrice 10 = .ok (.invokestatic 305, 3) := by decide +kernel
theorem dX5_setPrice_13 : decode cX5_setPrice 13 = .ok (.aload_n 0, 1) := by decide +kernel
theorem dX5_setPrice_14 : decode cX5_setPrice 14 = .ok (.invokevirtual 311, 3) := by decide +kernel
theorem dX5_setPrice_17 : decode cX5_setPrice 17 = .ok (.aload_n 0, 1) := by decide +kernel
theorem dX5_setPrice_18 : decode cX5_setPrice 18 = .ok (.getfield 23, 3) := by decide +kernel
theorem dX5_setPrice_21 : decode cX5_setPrice 21 = .ok (.getfield 116, 3) := by decide +kernel
theorem dX5_setPrice_24 : decode cX5_setPrice 24 = .ok (.iload_n 1, 1) := by decide +kernel
theorem dX5_setPrice_25 : decode cX5_setPrice 25 = .ok (.aaload, 1) := by decide +kernel
theorem dX5_setPrice_26 : decode cX5_setPrice 26 = .ok (.getfield 131, 3) := by decide +kernel
theorem dX5_setPrice_29 : decode cX5_setPrice 29 = .ok (.istore_n 3, 1) := by decide +kernel
theorem dX5_setPrice_30 : decode cX5_setPrice 30 = .ok (.aload_n 0, 1) := by decide +kernel
theorem dX5_setPrice_31 : decode cX5_setPrice 31 = .ok (.getfield 23, 3) := by decide +kernel
theorem dX5_setPrice_34 : decode cX5_setPrice 34 = .ok (.getfield 116, 3) := by decide +kernel
theorem dX5_setPrice_37 : decode cX5_setPrice 37 = .ok (.iload_n 1, 1) := by decide +kernel
theorem dX5_setPrice_38 : decode cX5_setPrice 38 = .ok (.aaload, 1) := by decide +kernel
theorem dX5_setPrice_39 : decode cX5_setPrice 39 = .ok (.iload_n 2, 1) := by decide +kernel
theorem dX5_setPrice_40 : decode cX5_setPrice 40 = .ok (.putfield 131, 3) := by decide +kernel
theorem dX5_setPrice_43 : decode cX5_setPrice 43 = .ok (.aload_n 0, 1) := by decide +kernel
theorem dX5_setPrice_44 : decode cX5_setPrice 44 = .ok (.getfield 33, 3) := by decide +kernel
theorem dX5_setPrice_47 : decode cX5_setPrice 47 = .ok (.aload_n 0, 1) := by decide +kernel
theorem dX5_setPrice_48 : decode cX5_setPrice 48 = .ok (.getfield 23, 3) := by decide +kernel
theorem dX5_setPrice_51 : decode cX5_setPrice 51 = .ok (.invokevirtual 80, 3) := by decide +kernel
theorem dX5_setPrice_54 : decode cX5_setPrice 54 = .ok (.iload_n 3, 1) := by decide +kernel
theorem dX5_setPrice_55 : decode cX5_setPrice 55 = .ok (.ireturn, 1) := by decide +kernel
theorem dX5_undo_0 : decode cX5_undo 0 = .ok (.aload_n 0, 1) := by decide +kernel
theorem dX5_undo_1 : decode cX5_undo 1 = .ok (.getfield 77, 3) := by decide +kernel
theorem dX5_undo_4 : decode cX5_undo 4 = .ok (.ifCond .ne 14, 3) := by decide +kernel
theorem dX5_undo_7 : decode cX5_undo 7 = .ok (.new 55, 3) := by decide +kernel
theorem dX5_undo_10 : decode cX5_undo 10 = .ok (.dup, 1) := by decide +kernel
theorem dX5_undo_11 : decode cX5_undo 11 = .ok (.ldc_w 322, 3) := by decide +kernel
theorem dX5_undo_14 : decode cX5_undo 14 = .ok (.invokespecial 59, 3) := by decide +kernel
theorem dX5_undo_17 : decode cX5_undo 17 = .ok (.athrow, 1) := by decide +kernel
theorem dX5_undo_18 : decode cX5_undo 18 = .ok (.aload_n 0, 1) := by decide +kernel
theorem dX5_undo_19 : decode cX5_undo 19 = .ok (.dup, 1) := by decide +kernel
theorem dX5_undo_20 : decode cX5_undo 20 = .ok (.getfield 77, 3) := by decide +kernel
theorem dX5_undo_23 : decode cX5_undo 23 = .ok (.iconst 1, 1) := by decide +kernel
theorem dX5_undo_24 : decode cX5_undo 24 = .ok (.isub, 1) := by decide +kernel
theorem dX5_undo_25 : decode cX5_undo 25 = .ok (.putfield 77, 3) := by decide +kernel
theorem dX5_undo_28 : decode cX5_undo 28 = .ok (.aload_n 0, 1) := by decide +kernel
theorem dX5_undo_29 : decode cX5_undo 29 = .ok (.aload_n 0, 1) := by decide +kernel
theorem dX5_undo_30 : decode cX5_undo 30 = .ok (.getfield 324, 3) := by decide +kernel
theorem dX5_undo_33 : decode cX5_undo 33 = .ok (.ifCond .ne 13, 3) := by decide +kernel
theorem dX5_undo_36 : decode cX5_undo 36 = .ok (.aload_n 0, 1) := by decide +kernel
theorem dX5_undo_37 : decode cX5_undo 37 = .ok (.getfield 40, 3) := by decide +kernel
theorem dX5_undo_40 : decode cX5_undo 40 = .ok (.arraylength, 1) := by decide +kernel
theorem dX5_undo_41 : decode cX5_undo 41 = .ok (.iconst 1, 1) := by decide +kernel
theorem dX5_undo_42 : decode cX5_undo 42 = .ok (.isub, 1) := by decide +kernel
theorem dX5_undo_43 : decode cX5_undo 43 = .ok (.goto 9, 3) := by decide +kernel
theorem dX5_undo_46 : decode cX5_undo 46 = .ok (.aload_n 0, 1) := by decide +kernel
theorem dX5_undo_47 : decode cX5_undo 47 = .ok (.getfield 324, 3) := by decide +kernel
theorem dX5_undo_50 : decode cX5_undo 50 = .ok (.iconst 1, 1) := by decide +kernel
theorem dX5_undo_51 : decode cX5_undo 51 = .ok (.isub, 1) := by decide +kernel
theorem dX5_undo_52 : decode cX5_undo 52 = .ok (.putfield 324, 3) := by decide +kernel
theorem dX5_undo_55 : decode cX5_undo 55 = .ok (.aload_n 0, 1) := by decide +kernel
theorem dX5_undo_56 : decode cX5_undo 56 = .ok (.getfield 23, 3) := by decide +kernel
theorem dX5_undo_59 : decode cX5_undo 59 = .ok (.aload_n 0, 1) := by decide +kernel
theorem dX5_undo_60 : decode cX5_undo 60 = .ok (.getfield 40, 3) := by decide +kernel
theorem dX5_undo_63 : decode cX5_undo 63 = .ok (.aload_n 0, 1) := by decide +kernel
theorem dX5_undo_64 : decode cX5_undo 64 = .ok (.getfield 324, 3) := by decide +kernel
theorem dX5_undo_67 : decode cX5_undo 67 = .ok (.aaload, 1) := by decide +kernel
theorem dX5_undo_68 : decode cX5_undo 68 = .ok (.invokevirtual 292, 3) := by decide +kernel
theorem dX5_undo_71 : decode cX5_undo 71 = .ok (.aload_n 0, 1) := by decide +kernel
theorem dX5_undo_72 : decode cX5_undo 72 = .ok (.getfield 33, 3) := by decide +kernel
theorem dX5_undo_75 : decode cX5_undo 75 = .ok (.aload_n 0, 1) := by decide +kernel
theorem dX5_undo_76 : decode cX5_undo 76 = .ok (.getfield 23, 3) := by decide +kernel
theorem dX5_undo_79 : decode cX5_undo 79 = .ok (.invokevirtual 80, 3) := by decide +kernel
theorem dX5_undo_82 : decode cX5_undo 82 = .ok (.aload_n 0, 1) := by decide +kernel
theorem dX5_undo_83 : decode cX5_undo 83 = .ok (.getfield 77, 3) := by decide +kernel
theorem dX5_undo_86 : decode cX5_undo 86 = .ok (.ireturn, 1) := by decide +kernel
theorem dX5_remember_0 : decode cX5_remember 0 = .ok (.aload_n 0, 1) := by decide +kernel
theorem dX5_remember_1 : decode cX5_remember 1 = .ok (.getfield 40, 3) := by decide +kernel
theorem dX5_remember_4 : decode cX5_remember 4 = .ok (.aload_n 0, 1) := by decide +kernel
theorem dX5_remember_5 : decode cX5_remember 5 = .ok (.getfield 324, 3) := by decide +kernel
theorem dX5_remember_8 : decode cX5_remember 8 = .ok (.aaload, 1) := by decide +kernel
theorem dX5_remember_9 : decode cX5_remember 9 = .ok (.aload_n 0, 1) := by decide +kernel
theorem dX5_remember_10 : decode cX5_remember 10 = .ok (.getfield 23, 3) := by decide +kernel
theorem dX5_remember_13 : decode cX5_remember 13 = .ok (.invokevirtual 292, 3) := by decide +kernel
theorem dX5_remember_16 : decode cX5_remember 16 = .ok (.aload_n 0, 1) := by decide +kernel
theorem dX5_remember_17 : decode cX5_remember 17 = .ok (.aload_n 0, 1) := by decide +kernel
theorem dX5_remember_18 : decode cX5_remember 18 = .ok (.getfield 324, 3) := by decide +kernel
theorem dX5_remember_21 : decode cX5_remember 21 = .ok (.aload_n 0, 1) := by decide +kernel
theorem dX5_remember_22 : decode cX5_remember 22 = .ok (.getfield 40, 3) := by decide +kernel
theorem dX5_remember_25 : decode cX5_remember 25 = .ok (.arraylength, 1) := by decide +kernel
theorem dX5_remember_26 : decode cX5_remember 26 = .ok (.iconst 1, 1) := by decide +kernel
theorem dX5_remember_27 : decode cX5_remember 27 = .ok (.isub, 1) := by decide +kernel
theorem dX5_remember_28 : decode cX5_remember 28 = .ok (.if_icmp .ne 7, 3) := by decide +kernel
theorem dX5_remember_31 : decode cX5_remember 31 = .ok (.iconst 0, 1) := by decide +kernel
theorem dX5_remember_32 : decode cX5_remember 32 = .ok (.goto 9, 3) := by decide +kernel
theorem dX5_remember_35 : decode cX5_remember 35 = .ok (.aload_n 0, 1) := by decide +kernel
theorem dX5_remember_36 : decode cX5_remember 36 = .ok (.getfield 324, 3) := by decide +kernel
theorem dX5_remember_39 : decode cX5_remember 39 = .ok (.iconst 1, 1) := by decide +kernel
theorem dX5_remember_40 : decode cX5_remember 40 = .ok (.iadd, 1) := by decide +kernel
theorem dX5_remember_41 : decode cX5_remember 41 = .ok (.putfield 324, 3) := by decide +kernel
theorem dX5_remember_44 : decode cX5_remember 44 = .ok (.aload_n 0, 1) := by decide +kernel
theorem dX5_remember_45 : decode cX5_remember 45 = .ok (.aload_n 0, 1) := by decide +kernel
theorem dX5_remember_46 : decode cX5_remember 46 = .ok (.getfield 77, 3) := by decide +kernel
theorem dX5_remember_49 : decode cX5_remember 49 = .ok (.iconst 1, 1) := by decide +kernel
theorem dX5_remember_50 : decode cX5_remember 50 = .ok (.iadd, 1) := by decide +kernel
theorem dX5_remember_51 : decode cX5_remember 51 = .ok (.aload_n 0, 1) := by decide +kernel
theorem dX5_remember_52 : decode cX5_remember 52 = .ok (.getfield 40, 3) := by decide +kernel
theorem dX5_remember_55 : decode cX5_remember 55 = .ok (.arraylength, 1) := by decide +kernel
theorem dX5_remember_56 : decode cX5_remember 56 = .ok (.invokestatic 327, 3) := by decide +kernel
theorem dX5_remember_59 : decode cX5_remember 59 = .ok (.putfield 77, 3) := by decide +kernel
theorem dX5_remember_62 : decode cX5_remember 62 = .ok (.return_, 1) := by decide +kernel
theorem dX5_format_0 : decode cX5_format 0 = .ok (.iload_n 1, 1) := by decide +kernel
theorem dX5_format_1 : decode cX5_format 1 = .ok (.invokestatic 228, 3) := by decide +kernel
theorem dX5_format_4 : decode cX5_format 4 = .ok (.aload_n 0, 1) := by decide +kernel
theorem dX5_format_5 : decode cX5_format 5 = .ok (.iconst 0, 1) := by decide +kernel
theorem dX5_format_6 : decode cX5_format 6 = .ok (.putfield 330, 3) := by decide +kernel
theorem dX5_format_9 : decode cX5_format 9 = .ok (.iconst 0, 1) := by decide +kernel
theorem dX5_format_10 : decode cX5_format 10 = .ok (.istore_n 2, 1) := by decide +kernel
theorem dX5_format_11 : decode cX5_format 11 = .ok (.iload_n 2, 1) := by decide +kernel
theorem dX5_format_12 : decode cX5_format 12 = .ok (.aload_n 0, 1) := by decide +kernel
theorem dX5_format_13 : decode cX5_format 13 = .ok (.getfield 23, 3) := by decide +kernel
theorem dX5_format_16 : decode cX5_format 16 = .ok (.getfield 87, 3) := by decide +kernel
theorem dX5_format_19 : decode cX5_format 19 = .ok (.if_icmp .ge 82, 3) := by decide +kernel
theorem dX5_format_22 : decode cX5_format 22 = .ok (.iload_n 2, 1) := by decide +kernel
theorem dX5_format_23 : decode cX5_format 23 = .ok (.ifCond .le 15, 3) := by decide +kernel
theorem dX5_format_26 : decode cX5_format 26 = .ok (.aload_n 0, 1) := by decide +kernel
theorem dX5_format_27 : decode cX5_format 27 = .ok (.bipush 44, 2) := by decide +kernel
theorem dX5_format_29 : decode cX5_format 29 = .ok (.invokevirtual 333, 3) := by decide +kernel
theorem dX5_format_32 : decode cX5_format 32 = .ok (.aload_n 0, 1) := by decide +kernel
theorem dX5_format_33 : decode cX5_format 33 = .ok (.bipush 32, 2) := by decide +kernel
theorem dX5_format_35 : decode cX5_format 35 = .ok (.invokevirtual 333, 3) := by decide +kernel
theorem dX5_format_38 : decode cX5_format 38 = .ok (.aload_n 0, 1) := by decide +kernel
theorem dX5_format_39 : decode cX5_format 39 = .ok (.aload_n 0, 1) := by decide +kernel
theorem dX5_format_40 : decode cX5_format 40 = .ok (.getfield 23, 3) := by decide +kernel
theorem dX5_format_43 : decode cX5_format 43 = .ok (.getfield 116, 3) := by decide +kernel
theorem dX5_format_46 : decode cX5_format 46 = .ok (.iload_n 2, 1) := by decide +kernel
theorem dX5_format_47 : decode cX5_format 47 = .ok (.aaload, 1) := by decide +kernel
theorem dX5_format_48 : decode cX5_format 48 = .ok (.getfield 337, 3) := by decide +kernel
theorem dX5_format_51 : decode cX5_format 51 = .ok (.invokevirtual 341, 3) := by decide +kernel
theorem dX5_format_54 : decode cX5_format 54 = .ok (.aload_n 0, 1) := by decide +kernel
theorem dX5_format_55 : decode cX5_format 55 = .ok (.bipush 32, 2) := by decide +kernel
theorem dX5_format_57 : decode cX5_format 57 = .ok (.invokevirtual 333, 3) := by decide +kernel
theorem dX5_format_60 : decode cX5_format 60 = .ok (.aload_n 0, 1) := by decide +kernel
theorem dX5_format_61 : decode cX5_format 61 = .ok (.aload_n 0, 1) := by decide +kernel
theorem dX5_format_62 : decode cX5_format 62 = .ok (.getfield 33, 3) := by decide +kernel
theorem dX5_format_65 : decode cX5_format 65 = .ok (.iload_n 2, 1) := by decide +kernel
theorem dX5_format_66 : decode cX5_format 66 = .ok (.iload_n 1, 1) := by decide +kernel
theorem dX5_format_67 : decode cX5_format 67 = .ok (.invokevirtual 238, 3) := by decide +kernel
theorem dX5_format_70 : decode cX5_format 70 = .ok (.invokevirtual 345, 3) := by decide +kernel
theorem dX5_format_73 : decode cX5_format 73 = .ok (.aload_n 0, 1) := by decide +kernel
theorem dX5_format_74 : decode cX5_format 74 = .ok (.bipush 47, 2) := by decide +kernel
theorem dX5_format_76 : decode cX5_format 76 = .ok (.invokevirtual 333, 3) := by decide +kernel
theorem dX5_format_79 : decode cX5_format 79 = .ok (.aload_n 0, 1) := by decide +kernel
theorem dX5_format_80 : decode cX5_format 80 = .ok (.aload_n 0, 1) := by decide +kernel
theorem dX5_format_81 : decode cX5_format 81 = .ok (.getfield 23, 3) := by decide +kernel
theorem dX5_format_84 : decode cX5_format 84 = .ok (.getfield 116, 3) := by decide +kernel
theorem dX5_format_87 : decode cX5_format 87 = .ok (.iload_n 2, 1) := by decide +kernel
theorem dX5_format_88 : decode cX5_format 88 = .ok (.aaload, 1) := by decide +kernel
theorem dX5_format_89 : decode cX5_format 89 = .ok (.getfield 125, 3) := by decide +kernel
theorem dX5_format_92 : decode cX5_format 92 = .ok (.invokevirtual 345, 3) := by decide +kernel
theorem dX5_format_95 : decode cX5_format 95 = .ok (.iinc 2 1, 3) := by decide +kernel
theorem dX5_format_98 : decode cX5_format 98 = .ok (.goto (-87), 3) := by decide +kernel
theorem dX5_format_101 : decode cX5_format 101 = .ok (.aload_n 0, 1) := by decide +kernel
theorem dX5_format_102 : decode cX5_format 102 = .ok (.iload_n 1, 1) := by decide +kernel
theorem dX5_format_103 : decode cX5_format 103 = .ok (.invokevirtual 247, 3) := by decide +kernel
theorem dX5_format_106 : decode cX5_format 106 = .ok (.istore_n 2, 1) := by decide +kernel
theorem dX5_format_107 : decode cX5_format 107 = .ok (.iload_n 2, 1) := by decide +kernel
theorem dX5_format_108 : decode cX5_format 108 = .ok (.ifCond .le 20, 3) := by decide +kernel
theorem dX5_format_111 : decode cX5_format 111 = .ok (.aload_n 0, 1) := by decide +kernel
theorem dX5_format_112 : decode cX5_format 112 = .ok (.bipush 32, 2) := by decide +kernel
theorem dX5_format_114 : decode cX5_format 114 = .ok (.invokevirtual 333, 3) := by decide +kernel
theorem dX5_format_117 : decode cX5_format 117 = .ok (.aload_n 0, 1) := by decide +kernel
theorem dX5_format_118 : decode cX5_format 118 = .ok (.bipush 43, 2) := by decide +kernel
theorem dX5_format_120 : decode cX5_format 120 = .ok (.invokevirtual 333, 3) := by decide +kernel
theorem dX5_format_123 : decode cX5_format 123 = .ok (.aload_n 0, 1) := by decide +kernel
theorem dX5_format_124 : decode cX5_format 124 = .ok (.iload_n 2, 1) := by decide +kernel
theorem dX5_format_125 : decode cX5_format 125 = .ok (.invokevirtual 345, 3) := by decide +kernel
theorem dX5_format_128 : decode cX5_format 128 = .ok (.aload_n 0, 1) := by decide +kernel
theorem dX5_format_129 : decode cX5_format 129 = .ok (.getfield 330, 3) := by decide +kernel
theorem dX5_format_132 : decode cX5_format 132 = .ok (.ireturn, 1) := by decide +kernel
theorem dX5_putName_0 : decode cX5_putName 0 = .ok (.bipush 56, 2) := by decide +kernel
theorem dX5_putName_2 : decode cX5_putName 2 = .ok (.istore_n 3, 1) := by decide +kernel
theorem dX5_putName_3 : decode cX5_putName 3 = .ok (.iload_n 3, 1) := by decide +kernel
theorem dX5_putName_4 : decode cX5_putName 4 = .ok (.ifCond .lt 31, 3) := by decide +kernel
theorem dX5_putName_7 : decode cX5_putName 7 = .ok (.lload_n 1, 1) := by decide +kernel
theorem dX5_putName_8 : decode cX5_putName 8 = .ok (.iload_n 3, 1) := by decide +kernel
theorem dX5_putName_9 : decode cX5_putName 9 = .ok (.lushr, 1) := by decide +kernel
theorem dX5_putName_10 : decode cX5_putName 10 = .ok (.l2i, 1) := by decide +kernel
theorem dX5_putName_11 : decode cX5_putName 11 = .ok (.sipush 255, 3) := by decide +kernel
theorem dX5_putName_14 : decode cX5_putName 14 = .ok (.iand, 1) := by decide +kernel
theorem dX5_putName_15 : decode cX5_putName 15 = .ok (.istore 4, 2) := by decide +kernel
theorem dX5_putName_17 : decode cX5_putName 17 = .ok (.iload 4, 2) := by decide +kernel
theorem dX5_putName_19 : decode cX5_putName 19 = .ok (.ifCond .eq 10, 3) := by decide +kernel
theorem dX5_putName_22 : decode cX5_putName 22 = .ok (.aload_n 0, 1) := by decide +kernel
theorem dX5_putName_23 : decode cX5_putName 23 = .ok (.iload 4, 2) := by decide +kernel
theorem dX5_putName_25 : decode cX5_putName 25 = .ok (.i2c, 1) := by decide +kernel
theorem dX5_putName_26 : decode cX5_putName 26 = .ok (.invokevirtual 333, 3) := by decide +kernel
theorem dX5_putName_29 : decode cX5_putName 29 = .ok (.iinc 3 (-8), 3) := by decide +kernel
theorem dX5_putName_32 : decode cX5_putName 32 = .ok (.goto (-29), 3) := by decide +kernel
theorem dX5_putName_35 : decode cX5_putName 35 = .ok (.return_, 1) := by decide +kernel
theorem dX5_putNumber_0 : decode cX5_putNumber 0 = .ok (.iload_n 1, 1) := by decide +kernel
theorem dX5_putNumber_1 : decode cX5_putNumber 1 = .ok (.bipush 100, 2) := by decide +kernel
theorem dX5_putNumber_3 : decode cX5_putNumber 3 = .ok (.if_icmp .lt 15, 3) := by decide +kernel
theorem dX5_putNumber_6 : decode cX5_putNumber 6 = .ok (.aload_n 0, 1) := by decide +kernel
theorem dX5_putNumber_7 : decode cX5_putNumber 7 = .ok (.bipush 48, 2) := by decide +kernel
theorem dX5_putNumber_9 : decode cX5_putNumber 9 = .ok (.iload_n 1, 1) := by decide +kernel
theorem dX5_putNumber_10 : decode cX5_putNumber 10 = .ok (.bipush 100, 2) := by decide +kernel
theorem dX5_putNumber_12 : decode cX5_putNumber 12 = .ok (.idiv, 1) := by decide +kernel
theorem dX5_putNumber_13 : decode cX5_putNumber 13 = .ok (.iadd, 1) := by decide +kernel
theorem dX5_putNumber_14 : decode cX5_putNumber 14 = .ok (.i2c, 1) := by decide +kernel
theorem dX5_putNumber_15 : decode cX5_putNumber 15 = .ok (.invokevirtual 333, 3) := by decide +kernel
theorem dX5_putNumber_18 : decode cX5_putNumber 18 = .ok (.iload_n 1, 1) := by decide +kernel
theorem dX5_putNumber_19 : decode cX5_putNumber 19 = .ok (.bipush 10, 2) := by decide +kernel
theorem dX5_putNumber_21 : decode cX5_putNumber 21 = .ok (.if_icmp .lt 18, 3) := by decide +kernel
theorem dX5_putNumber_24 : decode cX5_putNumber 24 = .ok (.aload_n 0, 1) := by decide +kernel
theorem dX5_putNumber_25 : decode cX5_putNumber 25 = .ok (.bipush 48, 2) := by decide +kernel
theorem dX5_putNumber_27 : decode cX5_putNumber 27 = .ok (.iload_n 1, 1) := by decide +kernel
theorem dX5_putNumber_28 : decode cX5_putNumber 28 = .ok (.bipush 10, 2) := by decide +kernel
theorem dX5_putNumber_30 : decode cX5_putNumber 30 = .ok (.idiv, 1) := by decide +kernel
theorem dX5_putNumber_31 : decode cX5_putNumber 31 = .ok (.bipush 10, 2) := by decide +kernel
theorem dX5_putNumber_33 : decode cX5_putNumber 33 = .ok (.irem, 1) := by decide +kernel
theorem dX5_putNumber_34 : decode cX5_putNumber 34 = .ok (.iadd, 1) := by decide +kernel
theorem dX5_putNumber_35 : decode cX5_putNumber 35 = .ok (.i2c, 1) := by decide +kernel
theorem dX5_putNumber_36 : decode cX5_putNumber 36 = .ok (.invokevirtual 333, 3) := by decide +kernel
theorem dX5_putNumber_39 : decode cX5_putNumber 39 = .ok (.aload_n 0, 1) := by decide +kernel
theorem dX5_putNumber_40 : decode cX5_putNumber 40 = .ok (.bipush 48, 2) := by decide +kernel
theorem dX5_putNumber_42 : decode cX5_putNumber 42 = .ok (.iload_n 1, 1) := by decide +kernel
theorem dX5_putNumber_43 : decode cX5_putNumber 43 = .ok (.bipush 10, 2) := by decide +kernel
theorem dX5_putNumber_45 : decode cX5_putNumber 45 = .ok (.irem, 1) := by decide +kernel
theorem dX5_putNumber_46 : decode cX5_putNumber 46 = .ok (.iadd, 1) := by decide +kernel
theorem dX5_putNumber_47 : decode cX5_putNumber 47 = .ok (.i2c, 1) := by decide +kernel
theorem dX5_putNumber_48 : decode cX5_putNumber 48 = .ok (.invokevirtual 333, 3) := by decide +kernel
theorem dX5_putNumber_51 : decode cX5_putNumber 51 = .ok (.return_, 1) := by decide +kernel
theorem dX5_putSign_0 : decode cX5_putSign 0 = .ok (.aload_n 0, 1) := by decide +kernel
theorem dX5_putSign_1 : decode cX5_putSign 1 = .ok (.getfield 330, 3) := by decide +kernel
theorem dX5_putSign_4 : decode cX5_putSign 4 = .ok (.aload_n 0, 1) := by decide +kernel
theorem dX5_putSign_5 : decode cX5_putSign 5 = .ok (.getfield 48, 3) := by decide +kernel
theorem dX5_putSign_8 : decode cX5_putSign 8 = .ok (.arraylength, 1) := by decide +kernel
theorem dX5_putSign_9 : decode cX5_putSign 9 = .ok (.if_icmp .ge 23, 3) := by decide +kernel
theorem dX5_putSign_12 : decode cX5_putSign 12 = .ok (.aload_n 0, 1) := by decide +kernel
theorem dX5_putSign_13 : decode cX5_putSign 13 = .ok (.getfield 48, 3) := by decide +kernel
theorem dX5_putSign_16 : decode cX5_putSign 16 = .ok (.aload_n 0, 1) := by decide +kernel
theorem dX5_putSign_17 : decode cX5_putSign 17 = .ok (.getfield 330, 3) := by decide +kernel
theorem dX5_putSign_20 : decode cX5_putSign 20 = .ok (.iload_n 1, 1) := by decide +kernel
theorem dX5_putSign_21 : decode cX5_putSign 21 = .ok (.castore, 1) := by decide +kernel
theorem dX5_putSign_22 : decode cX5_putSign 22 = .ok (.aload_n 0, 1) := by decide +kernel
theorem dX5_putSign_23 : decode cX5_putSign 23 = .ok (.dup, 1) := by decide +kernel
theorem dX5_putSign_24 : decode cX5_putSign 24 = .ok (.getfield 330, 3) := by decide +kernel
theorem dX5_putSign_27 : decode cX5_putSign 27 = .ok (.iconst 1, 1) := by decide +kernel
theorem dX5_putSign_28 : decode cX5_putSign 28 = .ok (.iadd, 1) := by decide +kernel
theorem dX5_putSign_29 : decode cX5_putSign 29 = .ok (.putfield 330, 3) := by decide +kernel
theorem dX5_putSign_32 : decode cX5_putSign 32 = .ok (.return_, 1) := by decide +kernel
theorem dX5_formattedCharacter_0 : decode cX5_formattedCharacter 0 = .ok (.iload_n 1, 1) := by decide +kernel
theorem dX5_formattedCharacter_1 : decode cX5_formattedCharacter 1 = .ok (.ifCond .lt 11, 3) := by decide +kernel
theorem dX5_formattedCharacter_4 : decode cX5_formattedCharacter 4 = .ok (.iload_n 1, 1) := by decide +kernel
theorem dX5_formattedCharacter_5 : decode cX5_formattedCharacter 5 = .ok (.aload_n 0, 1) := by decide +kernel
theorem dX5_formattedCharacter_6 : decode cX5_formattedCharacter 6 = .ok (.getfield 330, 3) := by decide +kernel
theorem dX5_formattedCharacter_9 : decode cX5_formattedCharacter 9 = .ok (.if_icmp .lt 14, 3) := by decide +kernel
theorem dX5_formattedCharacter_12 : decode cX5_formattedCharacter 12 = .ok (.new 192, 3) := by decide +kernel
theorem dX5_formattedCharacter_15 : decode cX5_formattedCharacter 15 = .ok (.dup, 1) := by decide +kernel
theorem dX5_formattedCharacter_16 : decode cX5_formattedCharacter 16 = .ok (.ldc_w 348, 3) := by decide +kernel
theorem dX5_formattedCharacter_19 : decode cX5_formattedCharacter 19 = .ok (.invokespecial 196, 3) := by decide +kernel
theorem dX5_formattedCharacter_22 : decode cX5_formattedCharacter 22 = .ok (.athrow, 1) := by decide +kernel
theorem dX5_formattedCharacter_23 : decode cX5_formattedCharacter 23 = .ok (.aload_n 0, 1) := by decide +kernel
theorem dX5_formattedCharacter_24 : decode cX5_formattedCharacter 24 = .ok (.getfield 48, 3) := by decide +kernel
theorem dX5_formattedCharacter_27 : decode cX5_formattedCharacter 27 = .ok (.iload_n 1, 1) := by decide +kernel
theorem dX5_formattedCharacter_28 : decode cX5_formattedCharacter 28 = .ok (.caload, 1) := by decide +kernel
theorem dX5_formattedCharacter_29 : decode cX5_formattedCharacter 29 = .ok (.ireturn, 1) := by decide +kernel
theorem dX5_checkRoom_0 : decode cX5_checkRoom 0 = .ok (.iload_n 1, 1) := by decide +kernel
theorem dX5_checkRoom_1 : decode cX5_checkRoom 1 = .ok (.ifCond .lt 14, 3) := by decide +kernel
theorem dX5_checkRoom_4 : decode cX5_checkRoom 4 = .ok (.iload_n 1, 1) := by decide +kernel
theorem dX5_checkRoom_5 : decode cX5_checkRoom 5 = .ok (.aload_n 0, 1) := by decide +kernel
theorem dX5_checkRoom_6 : decode cX5_checkRoom 6 = .ok (.getfield 23, 3) := by decide +kernel
theorem dX5_checkRoom_9 : decode cX5_checkRoom 9 = .ok (.getfield 87, 3) := by decide +kernel
theorem dX5_checkRoom_12 : decode cX5_checkRoom 12 = .ok (.if_icmp .lt 14, 3) := by decide +kernel
theorem dX5_checkRoom_15 : decode cX5_checkRoom 15 = .ok (.new 192, 3) := by decide +kernel
theorem dX5_checkRoom_18 : decode cX5_checkRoom 18 = .ok (.dup, 1) := by decide +kernel
theorem dX5_checkRoom_19 : decode cX5_checkRoom 19 = .ok (.ldc_w 350, 3) := by decide +kernel
theorem dX5_checkRoom_22 : decode cX5_checkRoom 22 = .ok (.invokespecial 196, 3) := by decide +kernel
theorem dX5_checkRoom_25 : decode cX5_checkRoom 25 = .ok (.athrow, 1) := by decide +kernel
theorem dX5_checkRoom_26 : decode cX5_checkRoom 26 = .ok (.return_, 1) := by decide +kernel
theorem dX5_checkBed_0 : decode cX5_checkBed 0 = .ok (.aload_n 0, 1) := by decide +kernel
theorem dX5_checkBed_1 : decode cX5_checkBed 1 = .ok (.iload_n 1, 1) := by decide +kernel
theorem dX5_checkBed_2 : decode cX5_checkBed 2 = .ok (.invokevirtual 113, 3) := by decide +kernel
theorem dX5_checkBed_5 : decode cX5_checkBed 5 = .ok (.iload_n 2, 1) := by decide +kernel
theorem dX5_checkBed_6 : decode cX5_checkBed 6 = .ok (.ifCond .lt 19, 3) := by decide +kernel
theorem dX5_checkBed_9 : decode cX5_checkBed 9 = .ok (.iload_n 2, 1) := by decide +kernel
theorem dX5_checkBed_10 : decode cX5_checkBed 10 = .ok (.aload_n 0, 1) := by decide +kernel
theorem dX5_checkBed_11 : decode cX5_checkBed 11 = .ok (.getfield 23, 3) := by decide +kernel
theorem dX5_checkBed_14 : decode cX5_checkBed 14 = .ok (.getfield 116, 3) := by decide +kernel
theorem dX5_checkBed_17 : decode cX5_checkBed 17 = .ok (.iload_n 1, 1) := by decide +kernel
theorem dX5_checkBed_18 : decode cX5_checkBed 18 = .ok (.aaload, 1) := by decide +kernel
theorem dX5_checkBed_19 : decode cX5_checkBed 19 = .ok (.getfield 125, 3) := by decide +kernel
theorem dX5_checkBed_22 : decode cX5_checkBed 22 = .ok (.if_icmp .lt 14, 3) := by decide +kernel
theorem dX5_checkBed_25 : decode cX5_checkBed 25 = .ok (.new 192, 3) := by decide +kernel
theorem dX5_checkBed_28 : decode cX5_checkBed 28 = .ok (.dup, 1) := by decide +kernel
theorem dX5_checkBed_29 : decode cX5_checkBed 29 = .ok (.ldc_w 352, 3) := by decide +kernel
theorem dX5_checkBed_32 : decode cX5_checkBed 32 = .ok (.invokespecial 196, 3) := by decide +kernel
theorem dX5_checkBed_35 : decode cX5_checkBed 35 = .ok (.athrow, 1) := by decide +kernel
theorem dX5_checkBed_36 : decode cX5_checkBed 36 = .ok (.return_, 1) := by decide +kernel
theorem dX5_checkBooking_0 : decode cX5_checkBooking 0 = .ok (.iload_n 1, 1) := by decide +kernel
theorem dX5_checkBooking_1 : decode cX5_checkBooking 1 = .ok (.ifCond .lt 14, 3) := by decide +kernel
theorem dX5_checkBooking_4 : decode cX5_checkBooking 4 = .ok (.iload_n 1, 1) := by decide +kernel
theorem dX5_checkBooking_5 : decode cX5_checkBooking 5 = .ok (.aload_n 0, 1) := by decide +kernel
theorem dX5_checkBooking_6 : decode cX5_checkBooking 6 = .ok (.getfield 23, 3) := by decide +kernel
theorem dX5_checkBooking_9 : decode cX5_checkBooking 9 = .ok (.getfield 84, 3) := by decide +kernel
theorem dX5_checkBooking_12 : decode cX5_checkBooking 12 = .ok (.if_icmp .lt 14, 3) := by decide +kernel
theorem dX5_checkBooking_15 : decode cX5_checkBooking 15 = .ok (.new 192, 3) := by decide +kernel
theorem dX5_checkBooking_18 : decode cX5_checkBooking 18 = .ok (.dup, 1) := by decide +kernel
theorem dX5_checkBooking_19 : decode cX5_checkBooking 19 = .ok (.ldc_w 354, 3) := by decide +kernel
theorem dX5_checkBooking_22 : decode cX5_checkBooking 22 = .ok (.invokespecial 196, 3) := by decide +kernel
theorem dX5_checkBooking_25 : decode cX5_checkBooking 25 = .ok (.athrow, 1) := by decide +kernel
theorem dX5_checkBooking_26 : decode cX5_checkBooking 26 = .ok (.return_, 1) := by decide +kernel
theorem dX5_checkNight_0 : decode cX5_checkNight 0 = .ok (.iload_n 0, 1) := by decide +kernel
theorem dX5_checkNight_1 : decode cX5_checkNight 1 = .ok (.ifCond .lt 9, 3) := by decide +kernel
theorem dX5_checkNight_4 : decode cX5_checkNight 4 = .ok (.iload_n 0, 1) := by decide +kernel
theorem dX5_checkNight_5 : decode cX5_checkNight 5 = .ok (.bipush 30, 2) := by decide +kernel
theorem dX5_checkNight_7 : decode cX5_checkNight 7 = .ok (.if_icmp .lt 14, 3) := by decide +kernel
theorem dX5_checkNight_10 : decode cX5_checkNight 10 = .ok (.new 192, 3) := by decide +kernel
theorem dX5_checkNight_13 : decode cX5_checkNight 13 = .ok (.dup, 1) := by decide +kernel
theorem dX5_checkNight_14 : decode cX5_checkNight 14 = .ok (.ldc_w 356, 3) := by decide +kernel
theorem dX5_checkNight_17 : decode cX5_checkNight 17 = .ok (.invokespecial 196, 3) := by decide +kernel
theorem dX5_checkNight_20 : decode cX5_checkNight 20 = .ok (.athrow, 1) := by decide +kernel
theorem dX5_checkNight_21 : decode cX5_checkNight 21 = .ok (.return_, 1) := by decide +kernel
theorem dX5_checkGroup_0 : decode cX5_checkGroup 0 = .ok (.iload_n 0, 1) := by decide +kernel
theorem dX5_checkGroup_1 : decode cX5_checkGroup 1 = .ok (.iconst 0, 1) := by decide +kernel
theorem dX5_checkGroup_2 : decode cX5_checkGroup 2 = .ok (.bipush 29, 2) := by decide +kernel
theorem dX5_checkGroup_4 : decode cX5_checkGroup 4 = .ok (.invokestatic 305, 3) := by decide +kernel
theorem dX5_checkGroup_7 : decode cX5_checkGroup 7 = .ok (.iload_n 1, 1) := by decide +kernel
theorem dX5_checkGroup_8 : decode cX5_checkGroup 8 = .ok (.iconst 1, 1) := by decide +kernel
theorem dX5_checkGroup_9 : decode cX5_checkGroup 9 = .ok (.bipush 30, 2) := by decide +kernel
theorem dX5_checkGroup_11 : decode cX5_checkGroup 11 = .ok (.iload_n 0, 1) := by decide +kernel
theorem dX5_checkGroup_12 : decode cX5_checkGroup 12 = .ok (.isub, 1) := by decide +kernel
theorem dX5_checkGroup_13 : decode cX5_checkGroup 13 = .ok (.invokestatic 305, 3) := by decide +kernel
theorem dX5_checkGroup_16 : decode cX5_checkGroup 16 = .ok (.iload_n 2, 1) := by decide +kernel
theorem dX5_checkGroup_17 : decode cX5_checkGroup 17 = .ok (.iconst 0, 1) := by decide +kernel
theorem dX5_checkGroup_18 : decode cX5_checkGroup 18 = .ok (.bipush 12, 2) := by decide +kernel
theorem dX5_checkGroup_20 : decode cX5_checkGroup 20 = .ok (.invokestatic 305, 3) := by decide +kernel
theorem dX5_checkGroup_23 : decode cX5_checkGroup 23 = .ok (.iload_n 3, 1) := by decide +kernel
theorem dX5_checkGroup_24 : decode cX5_checkGroup 24 = .ok (.iload_n 2, 1) := by decide +kernel
theorem dX5_checkGroup_25 : decode cX5_checkGroup 25 = .ok (.ifCond .ne 7, 3) := by decide +kernel
theorem dX5_checkGroup_28 : decode cX5_checkGroup 28 = .ok (.iconst 1, 1) := by decide +kernel
theorem dX5_checkGroup_29 : decode cX5_checkGroup 29 = .ok (.goto 4, 3) := by decide +kernel
theorem dX5_checkGroup_32 : decode cX5_checkGroup 32 = .ok (.iconst 0, 1) := by decide +kernel
theorem dX5_checkGroup_33 : decode cX5_checkGroup 33 = .ok (.bipush 12, 2) := by decide +kernel
theorem dX5_checkGroup_35 : decode cX5_checkGroup 35 = .ok (.iload_n 2, 1) := by decide +kernel
theorem dX5_checkGroup_36 : decode cX5_checkGroup 36 = .ok (.isub, 1) := by decide +kernel
theorem dX5_checkGroup_37 : decode cX5_checkGroup 37 = .ok (.invokestatic 305, 3) := by decide +kernel
theorem dX5_checkGroup_40 : decode cX5_checkGroup 40 = .ok (.iload 4, 2) := by decide +kernel
theorem dX5_checkGroup_42 : decode cX5_checkGroup 42 = .ok (.iconst 0, 1) := by decide +kernel
theorem dX5_checkGroup_43 : decode cX5_checkGroup 43 = .ok (.bipush 99, 2) := by decide +kernel
theorem dX5_checkGroup_45 : decode cX5_checkGroup 45 = .ok (.invokestatic 305, 3) := by decide +kernel
theorem dX5_checkGroup_48 : decode cX5_checkGroup 48 = .ok (.return_, 1) := by decide +kernel
theorem dX5_checkRange_0 : decode cX5_checkRange 0 = .ok (.iload_n 0, 1) := by decide +kernel
theorem dX5_checkRange_1 : decode cX5_checkRange 1 = .ok (.iload_n 1, 1) := by decide +kernel
theorem dX5_checkRange_2 : decode cX5_checkRange 2 = .ok (.if_icmp .lt 8, 3) := by decide +kernel
theorem dX5_checkRange_5 : decode cX5_checkRange 5 = .ok (.iload_n 0, 1) := by decide +kernel
theorem dX5_checkRange_6 : decode cX5_checkRange 6 = .ok (.iload_n 2, 1) := by decide +kernel
theorem dX5_checkRange_7 : decode cX5_checkRange 7 = .ok (.if_icmp .le 14, 3) := by decide +kernel
theorem dX5_checkRange_10 : decode cX5_checkRange 10 = .ok (.new 66, 3) := by decide +kernel
theorem dX5_checkRange_13 : decode cX5_checkRange 13 = .ok (.dup, 1) := by decide +kernel
theorem dX5_checkRange_14 : decode cX5_checkRange 14 = .ok (.ldc_w 358, 3) := by decide +kernel
theorem dX5_checkRange_17 : decode cX5_checkRange 17 = .ok (.invokespecial 70, 3) := by decide +kernel
theorem dX5_checkRange_20 : decode cX5_checkRange 20 = .ok (.athrow, 1) := by decide +kernel
theorem dX5_checkRange_21 : decode cX5_checkRange 21 = .ok (.return_, 1) := by decide +kernel
theorem dX6_init_0 : decode cX6_init 0 = .ok (.aload_n 0, 1) := by decide +kernel
theorem dX6_init_1 : decode cX6_init 1 = .ok (.invokespecial 1, 3) := by decide +kernel
theorem dX6_init_4 : decode cX6_init 4 = .ok (.aload_n 0, 1) := by decide +kernel
theorem dX6_init_5 : decode cX6_init 5 = .ok (.sipush 2496, 3) := by decide +kernel
theorem dX6_init_8 : decode cX6_init 8 = .ok (.newarray .int, 2) := by decide +kernel
theorem dX6_init_10 : decode cX6_init 10 = .ok (.putfield 7, 3) := by decide +kernel
theorem dX6_init_13 : decode cX6_init 13 = .ok (.aload_n 0, 1) := by decide +kernel
theorem dX6_init_14 : decode cX6_init 14 = .ok (.bipush 8, 2) := by decide +kernel
theorem dX6_init_16 : decode cX6_init 16 = .ok (.newarray .long, 2) := by decide +kernel
theorem dX6_init_18 : decode cX6_init 18 = .ok (.putfield 13, 3) := by decide +kernel
theorem dX6_init_21 : decode cX6_init 21 = .ok (.aload_n 0, 1) := by decide +kernel
theorem dX6_init_22 : decode cX6_init 22 = .ok (.bipush 17, 2) := by decide +kernel
theorem dX6_init_24 : decode cX6_init 24 = .ok (.newarray .long, 2) := by decide +kernel
theorem dX6_init_26 : decode cX6_init 26 = .ok (.putfield 17, 3) := by decide +kernel
theorem dX6_init_29 : decode cX6_init 29 = .ok (.aload_n 0, 1) := by decide +kernel
theorem dX6_init_30 : decode cX6_init 30 = .ok (.bipush 8, 2) := by decide +kernel
theorem dX6_init_32 : decode cX6_init 32 = .ok (.newarray .long, 2) := by decide +kernel
theorem dX6_init_34 : decode cX6_init 34 = .ok (.putfield 20, 3) := by decide +kernel
theorem dX6_init_37 : decode cX6_init 37 = .ok (.aload_n 0, 1) := by decide +kernel
theorem dX6_init_38 : decode cX6_init 38 = .ok (.bipush 17, 2) := by decide +kernel
theorem dX6_init_40 : decode cX6_init 40 = .ok (.newarray .long, 2) := by decide +kernel
theorem dX6_init_42 : decode cX6_init 42 = .ok (.putfield 23, 3) := by decide +kernel
theorem dX6_init_45 : decode cX6_init 45 = .ok (.aload_n 0, 1) := by decide +kernel
theorem dX6_init_46 : decode cX6_init 46 = .ok (.sipush 700, 3) := by decide +kernel
theorem dX6_init_49 : decode cX6_init 49 = .ok (.newarray .byte, 2) := by decide +kernel
theorem dX6_init_51 : decode cX6_init 51 = .ok (.putfield 26, 3) := by decide +kernel
theorem dX6_init_54 : decode cX6_init 54 = .ok (.aload_n 0, 1) := by decide +kernel
theorem dX6_init_55 : decode cX6_init 55 = .ok (.sipush 200, 3) := by decide +kernel
theorem dX6_init_58 : decode cX6_init 58 = .ok (.newarray .char, 2) := by decide +kernel
theorem dX6_init_60 : decode cX6_init 60 = .ok (.putfield 30, 3) := by decide +kernel
theorem dX6_init_63 : decode cX6_init 63 = .ok (.aload_n 0, 1) := by decide +kernel
theorem dX6_init_64 : decode cX6_init 64 = .ok (.sipush 2400, 3) := by decide +kernel
theorem dX6_init_67 : decode cX6_init 67 = .ok (.newarray .int, 2) := by decide +kernel
theorem dX6_init_69 : decode cX6_init 69 = .ok (.putfield 34, 3) := by decide +kernel
theorem dX6_init_72 : decode cX6_init 72 = .ok (.aload_n 0, 1) := by decide +kernel
theorem dX6_init_73 : decode cX6_init 73 = .ok (.bipush 17, 2) := by decide +kernel
theorem dX6_init_75 : decode cX6_init 75 = .ok (.newarray .int, 2) := by decide +kernel
theorem dX6_init_77 : decode cX6_init 77 = .ok (.putfield 37, 3) := by decide +kernel
theorem dX6_init_80 : decode cX6_init 80 = .ok (.aload_n 0, 1) := by decide +kernel
theorem dX6_init_81 : decode cX6_init 81 = .ok (.sipush 204, 3) := by decide +kernel
theorem dX6_init_84 : decode cX6_init 84 = .ok (.newarray .int, 2) := by decide +kernel
theorem dX6_init_86 : decode cX6_init 86 = .ok (.putfield 40, 3) := by decide +kernel
theorem dX6_init_89 : decode cX6_init 89 = .ok (.aload_n 0, 1) := by decide +kernel
theorem dX6_init_90 : decode cX6_init 90 = .ok (.sipush 204, 3) := by decide +kernel
theorem dX6_init_93 : decode cX6_init 93 = .ok (.newarray .int, 2) := by decide +kernel
theorem dX6_init_95 : decode cX6_init 95 = .ok (.putfield 43, 3) := by decide +kernel
theorem dX6_init_98 : decode cX6_init 98 = .ok (.aload_n 0, 1) := by decide +kernel
theorem dX6_init_99 : decode cX6_init 99 = .ok (.bipush 8, 2) := by decide +kernel
theorem dX6_init_101 : decode cX6_init 101 = .ok (.newarray .int, 2) := by decide +kernel
theorem dX6_init_103 : decode cX6_init 103 = .ok (.putfield 46, 3) := by decide +kernel
theorem dX6_init_106 : decode cX6_init 106 = .ok (.aload_n 0, 1) := by decide +kernel
theorem dX6_init_107 : decode cX6_init 107 = .ok (.sipush 205, 3) := by decide +kernel
theorem dX6_init_110 : decode cX6_init 110 = .ok (.newarray .double, 2) := by decide +kernel
theorem dX6_init_112 : decode cX6_init 112 = .ok (.putfield 49, 3) := by decide +kernel
theorem dX6_init_115 : decode cX6_init 115 = .ok (.aload_n 0, 1) := by decide +kernel
theorem dX6_init_116 : decode cX6_init 116 = .ok (.iconst (-1), 1) := by decide +kernel
theorem dX6_init_117 : decode cX6_init 117 = .ok (.putfield 53, 3) := by decide +kernel
theorem dX6_init_120 : decode cX6_init 120 = .ok (.aload_n 0, 1) := by decide +kernel
theorem dX6_init_121 : decode cX6_init 121 = .ok (.invokevirtual 57, 3) := by decide +kernel
theorem dX6_init_124 : decode cX6_init 124 = .ok (.aload_n 0, 1) := by decide +kernel
theorem dX6_init_125 : decode cX6_init 125 = .ok (.invokevirtual 60, 3) := by decide +kernel
theorem dX6_init_128 : decode cX6_init 128 = .ok (.return_, 1) := by decide +kernel
theorem dX6_thrown_0 : decode cX6_thrown 0 = .ok (.aload_n 0, 1) := by decide +kernel
theorem dX6_thrown_1 : decode cX6_thrown 1 = .ok (.getfield 63, 3) := by decide +kernel
theorem dX6_thrown_4 : decode cX6_thrown 4 = .ok (.ireturn, 1) := by decide +kernel
theorem dX6_fails_0 : decode cX6_fails 0 = .ok (.aload_n 0, 1) := by decide +kernel
theorem dX6_fails_1 : decode cX6_fails 1 = .ok (.iload_n 1, 1) := by decide +kernel
theorem dX6_fails_2 : decode cX6_fails 2 = .ok (.putfield 63, 3) := by decide +kernel
theorem dX6_fails_5 : decode cX6_fails 5 = .ok (.iconst 0, 1) := by decide +kernel
theorem dX6_fails_6 : decode cX6_fails 6 = .ok (.ireturn, 1) := by decide +kernel
theorem dX6_isIn_0 : decode cX6_isIn 0 = .ok (.iload_n 0, 1) := by decide +kernel
theorem dX6_isIn_1 : decode cX6_isIn 1 = .ok (.iload_n 1, 1) := by decide +kernel
theorem dX6_isIn_2 : decode cX6_isIn 2 = .ok (.if_icmp .lt 12, 3) := by decide +kernel
theorem dX6_isIn_5 : decode cX6_isIn 5 = .ok (.iload_n 0, 1) := by decide +kernel
theorem dX6_isIn_6 : decode cX6_isIn 6 = .ok (.iload_n 2, 1) := by decide +kernel
theorem dX6_isIn_7 : decode cX6_isIn 7 = .ok (.if_icmp .gt 7, 3) := by decide +kernel
theorem dX6_isIn_10 : decode cX6_isIn 10 = .ok (.iconst 1, 1) := by decide +kernel
theorem dX6_isIn_11 : decode cX6_isIn 11 = .ok (.goto 4, 3) := by decide +kernel
theorem dX6_isIn_14 : decode cX6_isIn 14 = .ok (.iconst 0, 1) := by decide +kernel
theorem dX6_isIn_15 : decode cX6_isIn 15 = .ok (.ireturn, 1) := by decide +kernel
theorem dX6_get_0 : decode cX6_get 0 = .ok (.aload_n 0, 1) := by decide +kernel
theorem dX6_get_1 : decode cX6_get 1 = .ok (.getfield 7, 3) := by decide +kernel
theorem dX6_get_4 : decode cX6_get 4 = .ok (.aload_n 0, 1) := by decide +kernel
theorem dX6_get_5 : decode cX6_get 5 = .ok (.getfield 66, 3) := by decide +kernel
theorem dX6_get_8 : decode cX6_get 8 = .ok (.iload_n 1, 1) := by decide +kernel
theorem dX6_get_9 : decode cX6_get 9 = .ok (.iadd, 1) := by decide +kernel
theorem dX6_get_10 : decode cX6_get 10 = .ok (.iaload, 1) := by decide +kernel
theorem dX6_get_11 : decode cX6_get 11 = .ok (.ireturn, 1) := by decide +kernel
theorem dX6_set_0 : decode cX6_set 0 = .ok (.aload_n 0, 1) := by decide +kernel
theorem dX6_set_1 : decode cX6_set 1 = .ok (.getfield 7, 3) := by decide +kernel
theorem dX6_set_4 : decode cX6_set 4 = .ok (.aload_n 0, 1) := by decide +kernel
theorem dX6_set_5 : decode cX6_set 5 = .ok (.getfield 66, 3) := by decide +kernel
theorem dX6_set_8 : decode cX6_set 8 = .ok (.iload_n 1, 1) := by decide +kernel
theorem dX6_set_9 : decode cX6_set 9 = .ok (.iadd, 1) := by decide +kernel
theorem dX6_set_10 : decode cX6_set 10 = .ok (.iload_n 2, 1) := by decide +kernel
theorem dX6_set_11 : decode cX6_set 11 = .ok (.iastore, 1) := by decide +kernel
theorem dX6_set_12 : decode cX6_set 12 = .ok (.return_, 1) := by decide +kernel
theorem dX6_roomIs_0 : decode cX6_roomIs 0 = .ok (.aload_n 0, 1) := by decide +kernel
theorem dX6_roomIs_1 : decode cX6_roomIs 1 = .ok (.iconst 5, 1) := by decide +kernel
theorem dX6_roomIs_2 : decode cX6_roomIs 2 = .ok (.iconst 4, 1) := by decide +kernel
theorem dX6_roomIs_3 : decode cX6_roomIs 3 = .ok (.iload_n 1, 1) := by decide +kernel
theorem dX6_roomIs_4 : decode cX6_roomIs 4 = .ok (.imul, 1) := by decide +kernel
theorem dX6_roomIs_5 : decode cX6_roomIs 5 = .ok (.iadd, 1) := by decide +kernel
theorem dX6_roomIs_6 : decode cX6_roomIs 6 = .ok (.iload_n 2, 1) := by decide +kernel
theorem dX6_roomIs_7 : decode cX6_roomIs 7 = .ok (.iadd, 1) := by decide +kernel
theorem dX6_roomIs_8 : decode cX6_roomIs 8 = .ok (.invokevirtual 69, 3) := by decide +kernel
theorem dX6_roomIs_11 : decode cX6_roomIs 11 = .ok (.ireturn, 1) := by decide +kernel
theorem dX6_of_0 : decode cX6_of 0 = .ok (.aload_n 0, 1) := by decide +kernel
theorem dX6_of_1 : decode cX6_of 1 = .ok (.bipush 38, 2) := by decide +kernel
theorem dX6_of_3 : decode cX6_of 3 = .ok (.bipush 9, 2) := by decide +kernel
theorem dX6_of_5 : decode cX6_of 5 = .ok (.iload_n 1, 1) := by decide +kernel
theorem dX6_of_6 : decode cX6_of 6 = .ok (.imul, 1) := by decide +kernel
theorem dX6_of_7 : decode cX6_of 7 = .ok (.iadd, 1) := by decide +kernel
theorem dX6_of_8 : decode cX6_of 8 = .ok (.iload_n 2, 1) := by decide +kernel
theorem dX6_of_9 : decode cX6_of 9 = .ok (.iadd, 1) := by decide +kernel
theorem dX6_of_10 : decode cX6_of 10 = .ok (.invokevirtual 69, 3) := by decide +kernel
theorem dX6_of_13 : decode cX6_of 13 = .ok (.ireturn, 1) := by decide +kernel
theorem dX6_lay_0 : decode cX6_lay 0 = .ok (.aload_n 0, 1) := by decide +kernel
theorem dX6_lay_1 : decode cX6_lay 1 = .ok (.bipush 38, 2) := by decide +kernel
theorem dX6_lay_3 : decode cX6_lay 3 = .ok (.bipush 9, 2) := by decide +kernel
theorem dX6_lay_5 : decode cX6_lay 5 = .ok (.iload_n 1, 1) := by decide +kernel
theorem dX6_lay_6 : decode cX6_lay 6 = .ok (.imul, 1) := by decide +kernel
theorem dX6_lay_7 : decode cX6_lay 7 = .ok (.iadd, 1) := by decide +kernel
theorem dX6_lay_8 : decode cX6_lay 8 = .ok (.iload_n 2, 1) := by decide +kernel
theorem dX6_lay_9 : decode cX6_lay 9 = .ok (.iadd, 1) := by decide +kernel
theorem dX6_lay_10 : decode cX6_lay 10 = .ok (.iload_n 3, 1) := by decide +kernel
theorem dX6_lay_11 : decode cX6_lay 11 = .ok (.invokevirtual 73, 3) := by decide +kernel
theorem dX6_lay_14 : decode cX6_lay 14 = .ok (.return_, 1) := by decide +kernel
theorem dX6_persons_0 : decode cX6_persons 0 = .ok (.aload_n 0, 1) := by decide +kernel
theorem dX6_persons_1 : decode cX6_persons 1 = .ok (.iload_n 1, 1) := by decide +kernel
theorem dX6_persons_2 : decode cX6_persons 2 = .ok (.iconst 2, 1) := by decide +kernel
theorem dX6_persons_3 : decode cX6_persons 3 = .ok (.invokevirtual 77, 3) := by decide +kernel
theorem dX6_persons_6 : decode cX6_persons 6 = .ok (.aload_n 0, 1) := by decide +kernel
theorem dX6_persons_7 : decode cX6_persons 7 = .ok (.iload_n 1, 1) := by decide +kernel
theorem dX6_persons_8 : decode cX6_persons 8 = .ok (.iconst 3, 1) := by decide +kernel
theorem dX6_persons_9 : decode cX6_persons 9 = .ok (.invokevirtual 77, 3) := by decide +kernel
theorem dX6_persons_12 : decode cX6_persons 12 = .ok (.iadd, 1) := by decide +kernel
theorem dX6_persons_13 : decode cX6_persons 13 = .ok (.ireturn, 1) := by decide +kernel
theorem dX6_isRoom_0 : decode cX6_isRoom 0 = .ok (.iload_n 1, 1) := by decide +kernel
theorem dX6_isRoom_1 : decode cX6_isRoom 1 = .ok (.iconst 0, 1) := by decide +kernel
theorem dX6_isRoom_2 : decode cX6_isRoom 2 = .ok (.aload_n 0, 1) := by decide +kernel
theorem dX6_isRoom_3 : decode cX6_isRoom 3 = .ok (.iconst 4, 1) := by decide +kernel
theorem dX6_isRoom_4 : decode cX6_isRoom 4 = .ok (.invokevirtual 69, 3) := by decide +kernel
theorem dX6_isRoom_7 : decode cX6_isRoom 7 = .ok (.iconst 1, 1) := by decide +kernel
theorem dX6_isRoom_8 : decode cX6_isRoom 8 = .ok (.isub, 1) := by decide +kernel
theorem dX6_isRoom_9 : decode cX6_isRoom 9 = .ok (.invokestatic 81, 3) := by decide +kernel
theorem dX6_isRoom_12 : decode cX6_isRoom 12 = .ok (.ireturn, 1) := by decide +kernel
theorem dX6_isBooking_0 : decode cX6_isBooking 0 = .ok (.iload_n 1, 1) := by decide +kernel
theorem dX6_isBooking_1 : decode cX6_isBooking 1 = .ok (.iconst 0, 1) := by decide +kernel
theorem dX6_isBooking_2 : decode cX6_isBooking 2 = .ok (.aload_n 0, 1) := by decide +kernel
theorem dX6_isBooking_3 : decode cX6_isBooking 3 = .ok (.bipush 37, 2) := by decide +kernel
theorem dX6_isBooking_5 : decode cX6_isBooking 5 = .ok (.invokevirtual 69, 3) := by decide +kernel
theorem dX6_isBooking_8 : decode cX6_isBooking 8 = .ok (.iconst 1, 1) := by decide +kernel
theorem dX6_isBooking_9 : decode cX6_isBooking 9 = .ok (.isub, 1) := by decide +kernel
theorem dX6_isBooking_10 : decode cX6_isBooking 10 = .ok (.invokestatic 81, 3) := by decide +kernel
theorem dX6_isBooking_13 : decode cX6_isBooking 13 = .ok (.ireturn, 1) := by decide +kernel
theorem dX6_isNight_0 : decode cX6_isNight 0 = .ok (.iload_n 0, 1) := by decide +kernel
theorem dX6_isNight_1 : decode cX6_isNight 1 = .ok (.iconst 0, 1) := by decide +kernel
theorem dX6_isNight_2 : decode cX6_isNight 2 = .ok (.bipush 29, 2) := by decide +kernel
theorem dX6_isNight_4 : decode cX6_isNight 4 = .ok (.invokestatic 81, 3) := by decide +kernel
theorem dX6_isNight_7 : decode cX6_isNight 7 = .ok (.ireturn, 1) := by decide +kernel
theorem dX6_isBed_0 : decode cX6_isBed 0 = .ok (.aload_n 0, 1) := by decide +kernel
theorem dX6_isBed_1 : decode cX6_isBed 1 = .ok (.iload_n 1, 1) := by decide +kernel
theorem dX6_isBed_2 : decode cX6_isBed 2 = .ok (.invokevirtual 85, 3) := by decide +kernel
theorem dX6_isBed_5 : decode cX6_isBed 5 = .ok (.ifCond .eq 23, 3) := by decide +kernel
theorem dX6_isBed_8 : decode cX6_isBed 8 = .ok (.iload_n 2, 1) := by decide +kernel
theorem dX6_isBed_9 : decode cX6_isBed 9 = .ok (.iconst 0, 1) := by decide +kernel
theorem dX6_isBed_10 : decode cX6_isBed 10 = .ok (.aload_n 0, 1) := by decide +kernel
theorem dX6_isBed_11 : decode cX6_isBed 11 = .ok (.iload_n 1, 1) := by decide +kernel
theorem dX6_isBed_12 : decode cX6_isBed 12 = .ok (.iconst 1, 1) := by decide +kernel
theorem dX6_isBed_13 : decode cX6_isBed 13 = .ok (.invokevirtual 89, 3) := by decide +kernel
theorem dX6_isBed_16 : decode cX6_isBed 16 = .ok (.iconst 1, 1) := by decide +kernel
theorem dX6_isBed_17 : decode cX6_isBed 17 = .ok (.isub, 1) := by decide +kernel
theorem dX6_isBed_18 : decode cX6_isBed 18 = .ok (.invokestatic 81, 3) := by decide +kernel
theorem dX6_isBed_21 : decode cX6_isBed 21 = .ok (.ifCond .eq 7, 3) := by decide +kernel
theorem dX6_isBed_24 : decode cX6_isBed 24 = .ok (.iconst 1, 1) := by decide +kernel
theorem dX6_isBed_25 : decode cX6_isBed 25 = .ok (.goto 4, 3) := by decide +kernel
theorem dX6_isBed_28 : decode cX6_isBed 28 = .ok (.iconst 0, 1) := by decide +kernel
theorem dX6_isBed_29 : decode cX6_isBed 29 = .ok (.ireturn, 1) := by decide +kernel
theorem dX6_staysIn_0 : decode cX6_staysIn 0 = .ok (.iload_n 2, 1) := by decide +kernel
theorem dX6_staysIn_1 : decode cX6_staysIn 1 = .ok (.aload_n 0, 1) := by decide +kernel
theorem dX6_staysIn_2 : decode cX6_staysIn 2 = .ok (.iload_n 1, 1) := by decide +kernel
theorem dX6_staysIn_3 : decode cX6_staysIn 3 = .ok (.iconst 0, 1) := by decide +kernel
theorem dX6_staysIn_4 : decode cX6_staysIn 4 = .ok (.invokevirtual 77, 3) := by decide +kernel
theorem dX6_staysIn_7 : decode cX6_staysIn 7 = .ok (.aload_n 0, 1) := by decide +kernel
theorem dX6_staysIn_8 : decode cX6_staysIn 8 = .ok (.iload_n 1, 1) := by decide +kernel
theorem dX6_staysIn_9 : decode cX6_staysIn 9 = .ok (.iconst 0, 1) := by decide +kernel
theorem dX6_staysIn_10 : decode cX6_staysIn 10 = .ok (.invokevirtual 77, 3) := by decide +kernel
theorem dX6_staysIn_13 : decode cX6_staysIn 13 = .ok (.aload_n 0, 1) := by decide +kernel
theorem dX6_staysIn_14 : decode cX6_staysIn 14 = .ok (.iload_n 1, 1) := by decide +kernel
theorem dX6_staysIn_15 : decode cX6_staysIn 15 = .ok (.iconst 1, 1) := by decide +kernel
theorem dX6_staysIn_16 : decode cX6_staysIn 16 = .ok (.invokevirtual 77, 3) := by decide +kernel
theorem dX6_staysIn_19 : decode cX6_staysIn 19 = .ok (.iadd, 1) := by decide +kernel
theorem dX6_staysIn_20 : decode cX6_staysIn 20 = .ok (.iconst 1, 1) := by decide +kernel
theorem dX6_staysIn_21 : decode cX6_staysIn 21 = .ok (.isub, 1) := by decide +kernel
theorem dX6_staysIn_22 : decode cX6_staysIn 22 = .ok (.invokestatic 81, 3) := by decide +kernel
theorem dX6_staysIn_25 : decode cX6_staysIn 25 = .ok (.ireturn, 1) := by decide +kernel
theorem dX6_put_0 : decode cX6_put 0 = .ok (.aload_n 0, 1) := by decide +kernel
theorem dX6_put_1 : decode cX6_put 1 = .ok (.getfield 26, 3) := by decide +kernel
theorem dX6_put_4 : decode cX6_put 4 = .ok (.aload_n 0, 1) := by decide +kernel
theorem dX6_put_5 : decode cX6_put 5 = .ok (.getfield 92, 3) := by decide +kernel
theorem dX6_put_8 : decode cX6_put 8 = .ok (.iload_n 1, 1) := by decide +kernel
theorem dX6_put_9 : decode cX6_put 9 = .ok (.bipush 24, 2) := by decide +kernel
theorem dX6_put_11 : decode cX6_put 11 = .ok (.ishr, 1) := by decide +kernel
theorem dX6_put_12 : decode cX6_put 12 = .ok (.i2b, 1) := by decide +kernel
theorem dX6_put_13 : decode cX6_put 13 = .ok (.bastore, 1) := by decide +kernel
theorem dX6_put_14 : decode cX6_put 14 = .ok (.aload_n 0, 1) := by decide +kernel
theorem dX6_put_15 : decode cX6_put 15 = .ok (.getfield 26, 3) := by decide +kernel
theorem dX6_put_18 : decode cX6_put 18 = .ok (.aload_n 0, 1) := by decide +kernel
theorem dX6_put_19 : decode cX6_put 19 = .ok (.getfield 92, 3) := by decide +kernel
theorem dX6_put_22 : decode cX6_put 22 = .ok (.iconst 1, 1) := by decide +kernel
theorem dX6_put_23 : decode cX6_put 23 = .ok (.iadd, 1) := by decide +kernel
theorem dX6_put_24 : decode cX6_put 24 = .ok (.iload_n 1, 1) := by decide +kernel
theorem dX6_put_25 : decode cX6_put 25 = .ok (.bipush 16, 2) := by decide +kernel
theorem dX6_put_27 : decode cX6_put 27 = .ok (.ishr, 1) := by decide +kernel
theorem dX6_put_28 : decode cX6_put 28 = .ok (.i2b, 1) := by decide +kernel
theorem dX6_put_29 : decode cX6_put 29 = .ok (.bastore, 1) := by decide +kernel
theorem dX6_put_30 : decode cX6_put 30 = .ok (.aload_n 0, 1) := by decide +kernel
theorem dX6_put_31 : decode cX6_put 31 = .ok (.getfield 26, 3) := by decide +kernel
theorem dX6_put_34 : decode cX6_put 34 = .ok (.aload_n 0, 1) := by decide +kernel
theorem dX6_put_35 : decode cX6_put 35 = .ok (.getfield 92, 3) := by decide +kernel
theorem dX6_put_38 : decode cX6_put 38 = .ok (.iconst 2, 1) := by decide +kernel
theorem dX6_put_39 : decode cX6_put 39 = .ok (.iadd, 1) := by decide +kernel
theorem dX6_put_40 : decode cX6_put 40 = .ok (.iload_n 1, 1) := by decide +kernel
theorem dX6_put_41 : decode cX6_put 41 = .ok (.bipush 8, 2) := by decide +kernel
theorem dX6_put_43 : decode cX6_put 43 = .ok (.ishr, 1) := by decide +kernel
theorem dX6_put_44 : decode cX6_put 44 = .ok (.i2b, 1) := by decide +kernel
theorem dX6_put_45 : decode cX6_put 45 = .ok (.bastore, 1) := by decide +kernel
theorem dX6_put_46 : decode cX6_put 46 = .ok (.aload_n 0, 1) := by decide +kernel
theorem dX6_put_47 : decode cX6_put 47 = .ok (.getfield 26, 3) := by decide +kernel
theorem dX6_put_50 : decode cX6_put 50 = .ok (.aload_n 0, 1) := by decide +kernel
theorem dX6_put_51 : decode cX6_put 51 = .ok (.getfield 92, 3) := by decide +kernel
theorem dX6_put_54 : decode cX6_put 54 = .ok (.iconst 3, 1) := by decide +kernel
theorem dX6_put_55 : decode cX6_put 55 = .ok (.iadd, 1) := by decide +kernel
theorem dX6_put_56 : decode cX6_put 56 = .ok (.iload_n 1, 1) := by decide +kernel
theorem dX6_put_57 : decode cX6_put 57 = .ok (.i2b, 1) := by decide +kernel
theorem dX6_put_58 : decode cX6_put 58 = .ok (.bastore, 1) := by decide +kernel
theorem dX6_put_59 : decode cX6_put 59 = .ok (.aload_n 0, 1) := by decide +kernel
theorem dX6_put_60 : decode cX6_put 60 = .ok (.dup, 1) := by decide +kernel
theorem dX6_put_61 : decode cX6_put 61 = .ok (.getfield 92, 3) := by decide +kernel
theorem dX6_put_64 : decode cX6_put 64 = .ok (.iconst 4, 1) := by decide +kernel
theorem dX6_put_65 : decode cX6_put 65 = .ok (.iadd, 1) := by decide +kernel
theorem dX6_put_66 : decode cX6_put 66 = .ok (.putfield 92, 3) := by decide +kernel
theorem dX6_put_69 : decode cX6_put 69 = .ok (.return_, 1) := by decide +kernel
theorem dX6_append_0 : decode cX6_append 0 = .ok (.aload_n 0, 1) := by decide +kernel
theorem dX6_append_1 : decode cX6_append 1 = .ok (.iconst 0, 1) := by decide +kernel
theorem dX6_append_2 : decode cX6_append 2 = .ok (.putfield 63, 3) := by decide +kernel
theorem dX6_append_5 : decode cX6_append 5 = .ok (.aload_n 0, 1) := by decide +kernel
theorem dX6_append_6 : decode cX6_append 6 = .ok (.getfield 92, 3) := by decide +kernel
theorem dX6_append_9 : decode cX6_append 9 = .ok (.bipush 20, 2) := by decide +kernel
theorem dX6_append_11 : decode cX6_append 11 = .ok (.iadd, 1) := by decide +kernel
theorem dX6_append_12 : decode cX6_append 12 = .ok (.sipush 700, 3) := by decide +kernel
theorem dX6_append_15 : decode cX6_append 15 = .ok (.if_icmp .le 9, 3) := by decide +kernel
theorem dX6_append_18 : decode cX6_append 18 = .ok (.aload_n 0, 1) := by decide +kernel
theorem dX6_append_19 : decode cX6_append 19 = .ok (.iconst 1, 1) := by decide +kernel
theorem dX6_append_20 : decode cX6_append 20 = .ok (.invokevirtual 95, 3) := by decide +kernel
theorem dX6_append_23 : decode cX6_append 23 = .ok (.ireturn, 1) := by decide +kernel
theorem dX6_append_24 : decode cX6_append 24 = .ok (.aload_n 0, 1) := by decide +kernel
theorem dX6_append_25 : decode cX6_append 25 = .ok (.iload_n 1, 1) := by decide +kernel
theorem dX6_append_26 : decode cX6_append 26 = .ok (.invokevirtual 98, 3) := by decide +kernel
theorem dX6_append_29 : decode cX6_append 29 = .ok (.aload_n 0, 1) := by decide +kernel
theorem dX6_append_30 : decode cX6_append 30 = .ok (.iload_n 2, 1) := by decide +kernel
theorem dX6_append_31 : decode cX6_append 31 = .ok (.invokevirtual 98, 3) := by decide +kernel
theorem dX6_append_34 : decode cX6_append 34 = .ok (.aload_n 0, 1) := by decide +kernel
theorem dX6_append_35 : decode cX6_append 35 = .ok (.iload_n 3, 1) := by decide +kernel
theorem dX6_append_36 : decode cX6_append 36 = .ok (.invokevirtual 98, 3) := by decide +kernel
theorem dX6_append_39 : decode cX6_append 39 = .ok (.aload_n 0, 1) := by decide +kernel
theorem dX6_append_40 : decode cX6_append 40 = .ok (.iload 4, 2) := by decide +kernel
theorem dX6_append_42 : decode cX6_append 42 = .ok (.invokevirtual 98, 3) := by decide +kernel
theorem dX6_append_45 : decode cX6_append 45 = .ok (.aload_n 0, 1) := by decide +kernel
theorem dX6_append_46 : decode cX6_append 46 = .ok (.iload 5, 2) := by decide +kernel
theorem dX6_append_48 : decode cX6_append 48 = .ok (.invokevirtual 98, 3) := by decide +kernel
theorem dX6_append_51 : decode cX6_append 51 = .ok (.aload_n 0, 1) := by decide +kernel
theorem dX6_append_52 : decode cX6_append 52 = .ok (.getfield 92, 3) := by decide +kernel
theorem dX6_append_55 : decode cX6_append 55 = .ok (.ireturn, 1) := by decide +kernel
theorem dX6_truncate_0 : decode cX6_truncate 0 = .ok (.aload_n 0, 1) := by decide +kernel
theorem dX6_truncate_1 : decode cX6_truncate 1 = .ok (.iconst 0, 1) := by decide +kernel
theorem dX6_truncate_2 : decode cX6_truncate 2 = .ok (.putfield 63, 3) := by decide +kernel
theorem dX6_truncate_5 : decode cX6_truncate 5 = .ok (.iload_n 1, 1) := by decide +kernel
theorem dX6_truncate_6 : decode cX6_truncate 6 = .ok (.iconst 0, 1) := by decide +kernel
theorem dX6_truncate_7 : decode cX6_truncate 7 = .ok (.aload_n 0, 1) := by decide +kernel
theorem dX6_truncate_8 : decode cX6_truncate 8 = .ok (.getfield 92, 3) := by decide +kernel
theorem dX6_truncate_11 : decode cX6_truncate 11 = .ok (.invokestatic 81, 3) := by decide +kernel
theorem dX6_truncate_14 : decode cX6_truncate 14 = .ok (.ifCond .ne 9, 3) := by decide +kernel
theorem dX6_truncate_17 : decode cX6_truncate 17 = .ok (.aload_n 0, 1) := by decide +kernel
theorem dX6_truncate_18 : decode cX6_truncate 18 = .ok (.iconst 1, 1) := by decide +kernel
theorem dX6_truncate_19 : decode cX6_truncate 19 = .ok (.putfield 63, 3) := by decide +kernel
theorem dX6_truncate_22 : decode cX6_truncate 22 = .ok (.return_, 1) := by decide +kernel
theorem dX6_truncate_23 : decode cX6_truncate 23 = .ok (.aload_n 0, 1) := by decide +kernel
theorem dX6_truncate_24 : decode cX6_truncate 24 = .ok (.iload_n 1, 1) := by decide +kernel
theorem dX6_truncate_25 : decode cX6_truncate 25 = .ok (.putfield 92, 3) := by decide +kernel
theorem dX6_truncate_28 : decode cX6_truncate 28 = .ok (.return_, 1) := by decide +kernel
theorem dX6_byteAt_0 : decode cX6_byteAt 0 = .ok (.iload_n 1, 1) := by decide +kernel
theorem dX6_byteAt_1 : decode cX6_byteAt 1 = .ok (.aload_n 0, 1) := by decide +kernel
theorem dX6_byteAt_2 : decode cX6_byteAt 2 = .ok (.getfield 102, 3) := by decide +kernel
theorem dX6_byteAt_5 : decode cX6_byteAt 5 = .ok (.if_icmp .ge 12, 3) := by decide +kernel
theorem dX6_byteAt_8 : decode cX6_byteAt 8 = .ok (.aload_n 0, 1) := by decide +kernel
theorem dX6_byteAt_9 : decode cX6_byteAt 9 = .ok (.getfield 26, 3) := by decide +kernel
theorem dX6_byteAt_12 : decode cX6_byteAt 12 = .ok (.iload_n 1, 1) := by decide +kernel
theorem dX6_byteAt_13 : decode cX6_byteAt 13 = .ok (.baload, 1) := by decide +kernel
theorem dX6_byteAt_14 : decode cX6_byteAt 14 = .ok (.goto 4, 3) := by decide +kernel
theorem dX6_byteAt_17 : decode cX6_byteAt 17 = .ok (.iconst 0, 1) := by decide +kernel
theorem dX6_byteAt_18 : decode cX6_byteAt 18 = .ok (.ireturn, 1) := by decide +kernel
theorem dX6_isLetter_0 : decode cX6_isLetter 0 = .ok (.aload_n 0, 1) := by decide +kernel
theorem dX6_isLetter_1 : decode cX6_isLetter 1 = .ok (.iload_n 1, 1) := by decide +kernel
theorem dX6_isLetter_2 : decode cX6_isLetter 2 = .ok (.invokevirtual 105, 3) := by decide +kernel
theorem dX6_isLetter_5 : decode cX6_isLetter 5 = .ok (.bipush 97, 2) := by decide +kernel
theorem dX6_isLetter_7 : decode cX6_isLetter 7 = .ok (.bipush 122, 2) := by decide +kernel
theorem dX6_isLetter_9 : decode cX6_isLetter 9 = .ok (.invokestatic 81, 3) := by decide +kernel
theorem dX6_isLetter_12 : decode cX6_isLetter 12 = .ok (.ireturn, 1) := by decide +kernel
theorem dX6_isDigit_0 : decode cX6_isDigit 0 = .ok (.aload_n 0, 1) := by decide +kernel
theorem dX6_isDigit_1 : decode cX6_isDigit 1 = .ok (.iload_n 1, 1) := by decide +kernel
theorem dX6_isDigit_2 : decode cX6_isDigit 2 = .ok (.invokevirtual 105, 3) := by decide +kernel
theorem dX6_isDigit_5 : decode cX6_isDigit 5 = .ok (.bipush 48, 2) := by decide +kernel
theorem dX6_isDigit_7 : decode cX6_isDigit 7 = .ok (.bipush 57, 2) := by decide +kernel
theorem dX6_isDigit_9 : decode cX6_isDigit 9 = .ok (.invokestatic 81, 3) := by decide +kernel
theorem dX6_isDigit_12 : decode cX6_isDigit 12 = .ok (.ireturn, 1) := by decide +kernel
theorem dX6_isBlank_0 : decode cX6_isBlank 0 = .ok (.aload_n 0, 1) := by decide +kernel
theorem dX6_isBlank_1 : decode cX6_isBlank 1 = .ok (.iload_n 1, 1) := by decide +kernel
theorem dX6_isBlank_2 : decode cX6_isBlank 2 = .ok (.invokevirtual 105, 3) := by decide +kernel
theorem dX6_isBlank_5 : decode cX6_isBlank 5 = .ok (.bipush 32, 2) := by decide +kernel
theorem dX6_isBlank_7 : decode cX6_isBlank 7 = .ok (.if_icmp .eq 13, 3) := by decide +kernel
theorem dX6_isBlank_10 : decode cX6_isBlank 10 = .ok (.aload_n 0, 1) := by decide +kernel
theorem dX6_isBlank_11 : decode cX6_isBlank 11 = .ok (.iload_n 1, 1) := by decide +kernel
theorem dX6_isBlank_12 : decode cX6_isBlank 12 = .ok (.invokevirtual 105, 3) := by decide +kernel
theorem dX6_isBlank_15 : decode cX6_isBlank 15 = .ok (.bipush 10, 2) := by decide +kernel
theorem dX6_isBlank_17 : decode cX6_isBlank 17 = .ok (.if_icmp .ne 7, 3) := by decide +kernel
theorem dX6_isBlank_20 : decode cX6_isBlank 20 = .ok (.iconst 1, 1) := by decide +kernel
theorem dX6_isBlank_21 : decode cX6_isBlank 21 = .ok (.goto 4, 3) := by decide +kernel
theorem dX6_isBlank_24 : decode cX6_isBlank 24 = .ok (.iconst 0, 1) := by decide +kernel
theorem dX6_isBlank_25 : decode cX6_isBlank 25 = .ok (.ireturn, 1) := by decide +kernel
theorem dX6_readWord_0 : decode cX6_readWord 0 = .ok (.aload_n 0, 1) := by decide +kernel
theorem dX6_readWord_1 : decode cX6_readWord 1 = .ok (.lconst 0, 1) := by decide +kernel
theorem dX6_readWord_2 : decode cX6_readWord 2 = .ok (.putfield 108, 3) := by decide +kernel
theorem dX6_readWord_5 : decode cX6_readWord 5 = .ok (.iconst 0, 1) := by decide +kernel
theorem dX6_readWord_6 : decode cX6_readWord 6 = .ok (.istore_n 1, 1) := by decide +kernel
theorem dX6_readWord_7 : decode cX6_readWord 7 = .ok (.aload_n 0, 1) := by decide +kernel
theorem dX6_readWord_8 : decode cX6_readWord 8 = .ok (.aload_n 0, 1) := by decide +kernel
theorem dX6_readWord_9 : decode cX6_readWord 9 = .ok (.getfield 112, 3) := by decide +kernel
theorem dX6_readWord_12 : decode cX6_readWord 12 = .ok (.invokevirtual 115, 3) := by decide +kernel
theorem dX6_readWord_15 : decode cX6_readWord 15 = .ok (.ifCond .eq 53, 3) := by decide +kernel
theorem dX6_readWord_18 : decode cX6_readWord 18 = .ok (.iload_n 1, 1) := by decide +kernel
theorem dX6_readWord_19 : decode cX6_readWord 19 = .ok (.bipush 8, 2) := by decide +kernel
theorem dX6_readWord_21 : decode cX6_readWord 21 = .ok (.if_icmp .ge 31, 3) := by decide +kernel
theorem dX6_readWord_24 : decode cX6_readWord 24 = .ok (.aload_n 0, 1) := by decide +kernel
theorem dX6_readWord_25 : decode cX6_readWord 25 = .ok (.ldc2_w 118, 3) := by decide +kernel
theorem dX6_readWord_28 : decode cX6_readWord 28 = .ok (.aload_n 0, 1) := by decide +kernel
theorem dX6_readWord_29 : decode cX6_readWord 29 = .ok (.getfield 108, 3) := by decide +kernel
theorem dX6_readWord_32 : decode cX6_readWord 32 = .ok (.lmul, 1) := by decide +kernel
theorem dX6_readWord_33 : decode cX6_readWord 33 = .ok (.aload_n 0, 1) := by decide +kernel
theorem dX6_readWord_34 : decode cX6_readWord 34 = .ok (.aload_n 0, 1) := by decide +kernel
theorem dX6_readWord_35 : decode cX6_readWord 35 = .ok (.getfield 112, 3) := by decide +kernel
theorem dX6_readWord_38 : decode cX6_readWord 38 = .ok (.invokevirtual 105, 3) := by decide +kernel
theorem dX6_readWord_41 : decode cX6_readWord 41 = .ok (.i2l, 1) := by decide +kernel
theorem dX6_readWord_42 : decode cX6_readWord 42 = .ok (.ladd, 1) := by decide +kernel
theorem dX6_readWord_43 : decode cX6_readWord 43 = .ok (.ldc2_w 120, 3) := by decide +kernel
theorem dX6_readWord_46 : decode cX6_readWord 46 = .ok (.lsub, 1) := by decide +kernel
theorem dX6_readWord_47 : decode cX6_readWord 47 = .ok (.lconst 1, 1) := by decide +kernel
theorem dX6_readWord_48 : decode cX6_readWord 48 = .ok (.ladd, 1) := by decide +kernel
theorem dX6_readWord_49 : decode cX6_readWord 49 = .ok (.putfield 108, 3) := by decide +kernel
theorem dX6_readWord_52 : decode cX6_readWord 52 = .ok (.iinc 1 1, 3) := by decide +kernel
theorem dX6_readWord_55 : decode cX6_readWord 55 = .ok (.aload_n 0, 1) := by decide +kernel
theorem dX6_readWord_56 : decode cX6_readWord 56 = .ok (.dup, 1) := by decide +kernel
theorem dX6_readWord_57 : decode cX6_readWord 57 = .ok (.getfield 112, 3) := by decide +kernel
theorem dX6_readWord_60 : decode cX6_readWord 60 = .ok (.iconst 1, 1) := by decide +kernel
theorem dX6_readWord_61 : decode cX6_readWord 61 = .ok (.iadd, 1) := by decide +kernel
theorem dX6_readWord_62 : decode cX6_readWord 62 = .ok (.putfield 112, 3) := by decide +kernel
theorem dX6_readWord_65 : decode cX6_readWord 65 = .ok (.goto (-58), 3) := by decide +kernel
theorem dX6_readWord_68 : decode cX6_readWord 68 = .ok (.aload_n 0, 1) := by decide +kernel
theorem dX6_readWord_69 : decode cX6_readWord 69 = .ok (.iload_n 1, 1) := by decide +kernel
theorem dX6_readWord_70 : decode cX6_readWord 70 = .ok (.bipush 8, 2) := by decide +kernel
theorem dX6_readWord_72 : decode cX6_readWord 72 = .ok (.if_icmp .le 7, 3) := by decide +kernel
theorem dX6_readWord_75 : decode cX6_readWord 75 = .ok (.iconst 4, 1) := by decide +kernel
theorem dX6_readWord_76 : decode cX6_readWord 76 = .ok (.goto 4, 3) := by decide +kernel
theorem dX6_readWord_79 : decode cX6_readWord 79 = .ok (.iconst 1, 1) := by decide +kernel
theorem dX6_readWord_80 : decode cX6_readWord 80 = .ok (.putfield 122, 3) := by decide +kernel
theorem dX6_readWord_83 : decode cX6_readWord 83 = .ok (.return_, 1) := by decide +kernel
theorem dX6_readNumber_0 : decode cX6_readNumber 0 = .ok (.aload_n 0, 1) := by decide +kernel
theorem dX6_readNumber_1 : decode cX6_readNumber 1 = .ok (.iconst 0, 1) := by decide +kernel
theorem dX6_readNumber_2 : decode cX6_readNumber 2 = .ok (.putfield 125, 3) := by decide +kernel
theorem dX6_readNumber_5 : decode cX6_readNumber 5 = .ok (.iconst 0, 1) := by decide +kernel
theorem dX6_readNumber_6 : decode cX6_readNumber 6 = .ok (.istore_n 1, 1) := by decide +kernel
theorem dX6_readNumber_7 : decode cX6_readNumber 7 = .ok (.aload_n 0, 1) := by decide +kernel
theorem dX6_readNumber_8 : decode cX6_readNumber 8 = .ok (.aload_n 0, 1) := by decide +kernel
theorem dX6_readNumber_9 : decode cX6_readNumber 9 = .ok (.getfield 112, 3) := by decide +kernel
theorem dX6_readNumber_12 : decode cX6_readNumber 12 = .ok (.invokevirtual 128, 3) := by decide +kernel
theorem dX6_readNumber_15 : decode cX6_readNumber 15 = .ok (.ifCond .eq 47, 3) := by decide +kernel
theorem dX6_readNumber_18 : decode cX6_readNumber 18 = .ok (.iload_n 1, 1) := by decide +kernel
theorem dX6_readNumber_19 : decode cX6_readNumber 19 = .ok (.iconst 3, 1) := by decide +kernel
theorem dX6_readNumber_20 : decode cX6_readNumber 20 = .ok (.if_icmp .ge 26, 3) := by decide +kernel
theorem dX6_readNumber_23 : decode cX6_readNumber 23 = .ok (.aload_n 0, 1) := by decide +kernel
theorem dX6_readNumber_24 : decode cX6_readNumber 24 = .ok (.bipush 10, 2) := by decide +kernel
theorem dX6_readNumber_26 : decode cX6_readNumber 26 = .ok (.aload_n 0, 1) := by decide +kernel
theorem dX6_readNumber_27 : decode cX6_readNumber 27 = .ok (.getfield 125, 3) := by decide +kernel
theorem dX6_readNumber_30 : decode cX6_readNumber 30 = .ok (.imul, 1) := by decide +kernel
theorem dX6_readNumber_31 : decode cX6_readNumber 31 = .ok (.aload_n 0, 1) := by decide +kernel
theorem dX6_readNumber_32 : decode cX6_readNumber 32 = .ok (.aload_n 0, 1) := by decide +kernel
theorem dX6_readNumber_33 : decode cX6_readNumber 33 = .ok (.getfield 112, 3) := by decide +kernel
theorem dX6_readNumber_36 : decode cX6_readNumber 36 = .ok (.invokevirtual 105, 3) := by decide +kernel
theorem dX6_readNumber_39 : decode cX6_readNumber 39 = .ok (.iadd, 1) := by decide +kernel
theorem dX6_readNumber_40 : decode cX6_readNumber 40 = .ok (.bipush 48, 2) := by decide +kernel
theorem dX6_readNumber_42 : decode cX6_readNumber 42 = .ok (.isub, 1) := by decide +kernel
theorem dX6_readNumber_43 : decode cX6_readNumber 43 = .ok (.putfield 125, 3) := by decide +kernel
theorem dX6_readNumber_46 : decode cX6_readNumber 46 = .ok (.iinc 1 1, 3) := by decide +kernel
theorem dX6_readNumber_49 : decode cX6_readNumber 49 = .ok (.aload_n 0, 1) := by decide +kernel
theorem dX6_readNumber_50 : decode cX6_readNumber 50 = .ok (.dup, 1) := by decide +kernel
theorem dX6_readNumber_51 : decode cX6_readNumber 51 = .ok (.getfield 112, 3) := by decide +kernel
theorem dX6_readNumber_54 : decode cX6_readNumber 54 = .ok (.iconst 1, 1) := by decide +kernel
theorem dX6_readNumber_55 : decode cX6_readNumber 55 = .ok (.iadd, 1) := by decide +kernel
theorem dX6_readNumber_56 : decode cX6_readNumber 56 = .ok (.putfield 112, 3) := by decide +kernel
theorem dX6_readNumber_59 : decode cX6_readNumber 59 = .ok (.goto (-52), 3) := by decide +kernel
theorem dX6_readNumber_62 : decode cX6_readNumber 62 = .ok (.aload_n 0, 1) := by decide +kernel
theorem dX6_readNumber_63 : decode cX6_readNumber 63 = .ok (.iload_n 1, 1) := by decide +kernel
theorem dX6_readNumber_64 : decode cX6_readNumber 64 = .ok (.iconst 3, 1) := by decide +kernel
theorem dX6_readNumber_65 : decode cX6_readNumber 65 = .ok (.if_icmp .le 7, 3) := by decide +kernel
theorem dX6_readNumber_68 : decode cX6_readNumber 68 = .ok (.iconst 4, 1) := by decide +kernel
theorem dX6_readNumber_69 : decode cX6_readNumber 69 = .ok (.goto 4, 3) := by decide +kernel
theorem dX6_readNumber_72 : decode cX6_readNumber 72 = .ok (.iconst 2, 1) := by decide +kernel
theorem dX6_readNumber_73 : decode cX6_readNumber 73 = .ok (.putfield 122, 3) := by decide +kernel
theorem dX6_readNumber_76 : decode cX6_readNumber 76 = .ok (.return_, 1) := by decide +kernel
theorem dX6_readToken_0 : decode cX6_readToken 0 = .ok (.aload_n 0, 1) := by decide +kernel
theorem dX6_readToken_1 : decode cX6_readToken 1 = .ok (.getfield 112, 3) := by decide +kernel
theorem dX6_readToken_4 : decode cX6_readToken 4 = .ok (.aload_n 0, 1) := by decide +kernel
theorem dX6_readToken_5 : decode cX6_readToken 5 = .ok (.getfield 102, 3) := by decide +kernel
theorem dX6_readToken_8 : decode cX6_readToken 8 = .ok (.if_icmp .ge 27, 3) := by decide +kernel
theorem dX6_readToken_11 : decode cX6_readToken 11 = .ok (.aload_n 0, 1) := by decide +kernel
theorem dX6_readToken_12 : decode cX6_readToken 12 = .ok (.aload_n 0, 1) := by decide +kernel
theorem dX6_readToken_13 : decode cX6_readToken 13 = .ok (.getfield 112, 3) := by decide +kernel
theorem dX6_readToken_16 : decode cX6_readToken 16 = .ok (.invokevirtual 131, 3) := by decide +kernel
theorem dX6_readToken_19 : decode cX6_readToken 19 = .ok (.ifCond .eq 16, 3) := by decide +kernel
theorem dX6_readToken_22 : decode cX6_readToken 22 = .ok (.aload_n 0, 1) := by decide +kernel
theorem dX6_readToken_23 : decode cX6_readToken 23 = .ok (.dup, 1) := by decide +kernel
theorem dX6_readToken_24 : decode cX6_readToken 24 = .ok (.getfield 112, 3) := by decide +kernel
theorem dX6_readToken_27 : decode cX6_readToken 27 = .ok (.iconst 1, 1) := by decide +kernel
theorem dX6_readToken_28 : decode cX6_readToken 28 = .ok (.iadd, 1) := by decide +kernel
theorem dX6_readToken_29 : decode cX6_readToken 29 = .ok (.putfield 112, 3) := by decide +kernel
theorem dX6_readToken_32 : decode cX6_readToken 32 = .ok (.goto (-32), 3) := by decide +kernel
theorem dX6_readToken_35 : decode cX6_readToken 35 = .ok (.aload_n 0, 1) := by decide +kernel
theorem dX6_readToken_36 : decode cX6_readToken 36 = .ok (.aload_n 0, 1) := by decide +kernel
theorem dX6_readToken_37 : decode cX6_readToken 37 = .ok (.getfield 112, 3) := by decide +kernel
theorem dX6_readToken_40 : decode cX6_readToken 40 = .ok (.putfield 134, 3) := by decide +kernel
theorem dX6_readToken_43 : decode cX6_readToken 43 = .ok (.aload_n 0, 1) := by decide +kernel
theorem dX6_readToken_44 : decode cX6_readToken 44 = .ok (.getfield 112, 3) := by decide +kernel
theorem dX6_readToken_47 : decode cX6_readToken 47 = .ok (.aload_n 0, 1) := by decide +kernel
theorem dX6_readToken_48 : decode cX6_readToken 48 = .ok (.getfield 102, 3) := by decide +kernel
theorem dX6_readToken_51 : decode cX6_readToken 51 = .ok (.if_icmp .lt 9, 3) := by decide +kernel
theorem dX6_readToken_54 : decode cX6_readToken 54 = .ok (.aload_n 0, 1) := by decide +kernel
theorem dX6_readToken_55 : decode cX6_readToken 55 = .ok (.iconst 0, 1) := by decide +kernel
theorem dX6_readToken_56 : decode cX6_readToken 56 = .ok (.putfield 122, 3) := by decide +kernel
theorem dX6_readToken_59 : decode cX6_readToken 59 = .ok (.return_, 1) := by decide +kernel
theorem dX6_readToken_60 : decode cX6_readToken 60 = .ok (.aload_n 0, 1) := by decide +kernel
theorem dX6_readToken_61 : decode cX6_readToken 61 = .ok (.aload_n 0, 1) := by decide +kernel
theorem dX6_readToken_62 : decode cX6_readToken 62 = .ok (.getfield 112, 3) := by decide +kernel
theorem dX6_readToken_65 : decode cX6_readToken 65 = .ok (.invokevirtual 115, 3) := by decide +kernel
theorem dX6_readToken_68 : decode cX6_readToken 68 = .ok (.ifCond .eq 8, 3) := by decide +kernel
theorem dX6_readToken_71 : decode cX6_readToken 71 = .ok (.aload_n 0, 1) := by decide +kernel
theorem dX6_readToken_72 : decode cX6_readToken 72 = .ok (.invokevirtual 137, 3) := by decide +kernel
theorem dX6_readToken_75 : decode cX6_readToken 75 = .ok (.return_, 1) := by decide +kernel
theorem dX6_readToken_76 : decode cX6_readToken 76 = .ok (.aload_n 0, 1) := by decide +kernel
theorem dX6_readToken_77 : decode cX6_readToken 77 = .ok (.aload_n 0, 1) := by decide +kernel
theorem dX6_readToken_78 : decode cX6_readToken 78 = .ok (.getfield 112, 3) := by decide +kernel
theorem dX6_readToken_81 : decode cX6_readToken 81 = .ok (.invokevirtual 128, 3) := by decide +kernel
theorem dX6_readToken_84 : decode cX6_readToken 84 = .ok (.ifCond .eq 8, 3) := by decide +kernel
theorem dX6_readToken_87 : decode cX6_readToken 87 = .ok (.aload_n 0, 1) := by decide +kernel
theorem dX6_readToken_88 : decode cX6_readToken 88 = .ok (.invokevirtual 140, 3) := by decide +kernel
theorem dX6_readToken_91 : decode cX6_readToken 91 = .ok (.return_, 1) := by decide +kernel
theorem dX6_readToken_92 : decode cX6_readToken 92 = .ok (.aload_n 0, 1) := by decide +kernel
theorem dX6_readToken_93 : decode cX6_readToken 93 = .ok (.aload_n 0, 1) := by decide +kernel
theorem dX6_readToken_94 : decode cX6_readToken 94 = .ok (.aload_n 0, 1) := by decide +kernel
theorem dX6_readToken_95 : decode cX6_readToken 95 = .ok (.getfield 112, 3) := by decide +kernel
theorem dX6_readToken_98 : decode cX6_readToken 98 = .ok (.invokevirtual 105, 3) := by decide +kernel
theorem dX6_readToken_101 : decode cX6_readToken 101 = .ok (.bipush 59, 2) := by decide +kernel
theorem dX6_readToken_103 : decode cX6_readToken 103 = .ok (.if_icmp .ne 7, 3) := by decide +kernel
theorem dX6_readToken_106 : decode cX6_readToken 106 = .ok (.iconst 3, 1) := by decide +kernel
theorem dX6_readToken_107 : decode cX6_readToken 107 = .ok (.goto 4, 3) := by decide +kernel
theorem dX6_readToken_110 : decode cX6_readToken 110 = .ok (.iconst 4, 1) := by decide +kernel
theorem dX6_readToken_111 : decode cX6_readToken 111 = .ok (.putfield 122, 3) := by decide +kernel
theorem dX6_readToken_114 : decode cX6_readToken 114 = .ok (.aload_n 0, 1) := by decide +kernel
theorem dX6_readToken_115 : decode cX6_readToken 115 = .ok (.dup, 1) := by decide +kernel
theorem dX6_readToken_116 : decode cX6_readToken 116 = .ok (.getfield 112, 3) := by decide +kernel
theorem dX6_readToken_119 : decode cX6_readToken 119 = .ok (.iconst 1, 1) := by decide +kernel
theorem dX6_readToken_120 : decode cX6_readToken 120 = .ok (.iadd, 1) := by decide +kernel
theorem dX6_readToken_121 : decode cX6_readToken 121 = .ok (.putfield 112, 3) := by decide +kernel
theorem dX6_readToken_124 : decode cX6_readToken 124 = .ok (.return_, 1) := by decide +kernel
theorem dX6_isWell_0 : decode cX6_isWell 0 = .ok (.aload_n 0, 1) := by decide +kernel
theorem dX6_isWell_1 : decode cX6_isWell 1 = .ok (.getfield 143, 3) := by decide +kernel
theorem dX6_isWell_4 : decode cX6_isWell 4 = .ok (.iconst (-1), 1) := by decide +kernel
theorem dX6_isWell_5 : decode cX6_isWell 5 = .ok (.if_icmp .ne 7, 3) := by decide +kernel
theorem dX6_isWell_8 : decode cX6_isWell 8 = .ok (.iconst 1, 1) := by decide +kernel
theorem dX6_isWell_9 : decode cX6_isWell 9 = .ok (.goto 4, 3) := by decide +kernel
theorem dX6_isWell_12 : decode cX6_isWell 12 = .ok (.iconst 0, 1) := by decide +kernel
theorem dX6_isWell_13 : decode cX6_isWell 13 = .ok (.ireturn, 1) := by decide +kernel
theorem dX6_must_0 : decode cX6_must 0 = .ok (.iload_n 1, 1) := by decide +kernel
theorem dX6_must_1 : decode cX6_must 1 = .ok (.ifCond .ne 19, 3) := by decide +kernel
theorem dX6_must_4 : decode cX6_must 4 = .ok (.aload_n 0, 1) := by decide +kernel
theorem dX6_must_5 : decode cX6_must 5 = .ok (.getfield 143, 3) := by decide +kernel
theorem dX6_must_8 : decode cX6_must 8 = .ok (.iconst (-1), 1) := by decide +kernel
theorem dX6_must_9 : decode cX6_must 9 = .ok (.if_icmp .ne 11, 3) := by decide +kernel
theorem dX6_must_12 : decode cX6_must 12 = .ok (.aload_n 0, 1) := by decide +kernel
theorem dX6_must_13 : decode cX6_must 13 = .ok (.aload_n 0, 1) := by decide +kernel
theorem dX6_must_14 : decode cX6_must 14 = .ok (.getfield 134, 3) := by decide +kernel
theorem dX6_must_17 : decode cX6_must 17 = .ok (.putfield 143, 3) := by decide +kernel
theorem dX6_must_20 : decode cX6_must 20 = .ok (.return_, 1) := by decide +kernel
theorem dX6_goesOn_0 : decode cX6_goesOn 0 = .ok (.aload_n 0, 1) := by decide +kernel
theorem dX6_goesOn_1 : decode cX6_goesOn 1 = .ok (.invokevirtual 146, 3) := by decide +kernel
theorem dX6_goesOn_4 : decode cX6_goesOn 4 = .ok (.ifCond .eq 7, 3) := by decide +kernel
theorem dX6_goesOn_7 : decode cX6_goesOn 7 = .ok (.aload_n 0, 1) := by decide +kernel
theorem dX6_goesOn_8 : decode cX6_goesOn 8 = .ok (.invokevirtual 150, 3) := by decide +kernel
theorem dX6_goesOn_11 : decode cX6_goesOn 11 = .ok (.return_, 1) := by decide +kernel
theorem dX6_more_0 : decode cX6_more 0 = .ok (.iload_n 2, 1) := by decide +kernel
theorem dX6_more_1 : decode cX6_more 1 = .ok (.ifCond .ne 7, 3) := by decide +kernel
theorem dX6_more_4 : decode cX6_more 4 = .ok (.lload_n 0, 1) := by decide +kernel
theorem dX6_more_5 : decode cX6_more 5 = .ok (.goto 15, 3) := by decide +kernel
theorem dX6_more_8 : decode cX6_more 8 = .ok (.ldc2_w 118, 3) := by decide +kernel
theorem dX6_more_11 : decode cX6_more 11 = .ok (.lload_n 0, 1) := by decide +kernel
theorem dX6_more_12 : decode cX6_more 12 = .ok (.lmul, 1) := by decide +kernel
theorem dX6_more_13 : decode cX6_more 13 = .ok (.iload_n 2, 1) := by decide +kernel
theorem dX6_more_14 : decode cX6_more 14 = .ok (.i2l, 1) := by decide +kernel
theorem dX6_more_15 : decode cX6_more 15 = .ok (.ladd, 1) := by decide +kernel
theorem dX6_more_16 : decode cX6_more 16 = .ok (.ldc2_w 153, 3) := by decide +kernel
theorem dX6_more_19 : decode cX6_more 19 = .ok (.lsub, 1) := by decide +kernel
theorem dX6_more_20 : decode cX6_more 20 = .ok (.lreturn, 1) := by decide +kernel
theorem dX6_spelled_0 : decode cX6_spelled 0 = .ok (.lconst 0, 1) := by decide +kernel
theorem dX6_spelled_1 : decode cX6_spelled 1 = .ok (.iload_n 0, 1) := by decide +kernel
theorem dX6_spelled_2 : decode cX6_spelled 2 = .ok (.invokestatic 155, 3) := by decide +kernel
theorem dX6_spelled_5 : decode cX6_spelled 5 = .ok (.iload_n 1, 1) := by decide +kernel
theorem dX6_spelled_6 : decode cX6_spelled 6 = .ok (.invokestatic 155, 3) := by decide +kernel
theorem dX6_spelled_9 : decode cX6_spelled 9 = .ok (.iload_n 2, 1) := by decide +kernel
theorem dX6_spelled_10 : decode cX6_spelled 10 = .ok (.invokestatic 155, 3) := by decide +kernel
theorem dX6_spelled_13 : decode cX6_spelled 13 = .ok (.iload_n 3, 1) := by decide +kernel
theorem dX6_spelled_14 : decode cX6_spelled 14 = .ok (.invokestatic 155, 3) := by decide +kernel
theorem dX6_spelled_17 : decode cX6_spelled 17 = .ok (.lstore 7, 2) := by decide +kernel
theorem dX6_spelled_19 : decode cX6_spelled 19 = .ok (.lload 7, 2) := by decide +kernel
theorem dX6_spelled_21 : decode cX6_spelled 21 = .ok (.iload 4, 2) := by decide +kernel
theorem dX6_spelled_23 : decode cX6_spelled 23 = .ok (.invokestatic 155, 3) := by decide +kernel
theorem dX6_spelled_26 : decode cX6_spelled 26 = .ok (.iload 5, 2) := by decide +kernel
theorem dX6_spelled_28 : decode cX6_spelled 28 = .ok (.invokestatic 155, 3) := by decide +kernel
theorem dX6_spelled_31 : decode cX6_spelled 31 = .ok (.iload 6, 2) := by decide +kernel
theorem dX6_spelled_33 : decode cX6_spelled 33 = .ok (.invokestatic 155, 3) := by decide +kernel
theorem dX6_spelled_36 : decode cX6_spelled 36 = .ok (.lreturn, 1) := by decide +kernel
theorem dX6_isWord_0 : decode cX6_isWord 0 = .ok (.aload_n 0, 1) := by decide +kernel
theorem dX6_isWord_1 : decode cX6_isWord 1 = .ok (.getfield 122, 3) := by decide +kernel
theorem dX6_isWord_4 : decode cX6_isWord 4 = .ok (.iconst 1, 1) := by decide +kernel
theorem dX6_isWord_5 : decode cX6_isWord 5 = .ok (.if_icmp .ne 16, 3) := by decide +kernel
theorem dX6_isWord_8 : decode cX6_isWord 8 = .ok (.aload_n 0, 1) := by decide +kernel
theorem dX6_isWord_9 : decode cX6_isWord 9 = .ok (.getfield 108, 3) := by decide +kernel
theorem dX6_isWord_12 : decode cX6_isWord 12 = .ok (.lload_n 1, 1) := by decide +kernel
theorem dX6_isWord_13 : decode cX6_isWord 13 = .ok (.lcmp, 1) := by decide +kernel
theorem dX6_isWord_14 : decode cX6_isWord 14 = .ok (.ifCond .ne 7, 3) := by decide +kernel
theorem dX6_isWord_17 : decode cX6_isWord 17 = .ok (.iconst 1, 1) := by decide +kernel
theorem dX6_isWord_18 : decode cX6_isWord 18 = .ok (.goto 4, 3) := by decide +kernel
theorem dX6_isWord_21 : decode cX6_isWord 21 = .ok (.iconst 0, 1) := by decide +kernel
theorem dX6_isWord_22 : decode cX6_isWord 22 = .ok (.ireturn, 1) := by decide +kernel
theorem dX6_beginReading_0 : decode cX6_beginReading 0 = .ok (.iconst 0, 1) := by decide +kernel
theorem dX6_beginReading_1 : decode cX6_beginReading 1 = .ok (.istore_n 1, 1) := by decide +kernel
theorem dX6_beginReading_2 : decode cX6_beginReading 2 = .ok (.iload_n 1, 1) := by decide +kernel
theorem dX6_beginReading_3 : decode cX6_beginReading 3 = .ok (.sipush 208, 3) := by decide +kernel
theorem dX6_beginReading_6 : decode cX6_beginReading 6 = .ok (.if_icmp .ge 20, 3) := by decide +kernel
theorem dX6_beginReading_9 : decode cX6_beginReading 9 = .ok (.aload_n 0, 1) := by decide +kernel
theorem dX6_beginReading_10 : decode cX6_beginReading 10 = .ok (.getfield 7, 3) := by decide +kernel
theorem dX6_beginReading_13 : decode cX6_beginReading 13 = .ok (.sipush 208, 3) := by decide +kernel
theorem dX6_beginReading_16 : decode cX6_beginReading 16 = .ok (.iload_n 1, 1) := by decide +kernel
theorem dX6_beginReading_17 : decode cX6_beginReading 17 = .ok (.iadd, 1) := by decide +kernel
theorem dX6_beginReading_18 : decode cX6_beginReading 18 = .ok (.iconst 0, 1) := by decide +kernel
theorem dX6_beginReading_19 : decode cX6_beginReading 19 = .ok (.iastore, 1) := by decide +kernel
theorem dX6_beginReading_20 : decode cX6_beginReading 20 = .ok (.iinc 1 1, 3) := by decide +kernel
theorem dX6_beginReading_23 : decode cX6_beginReading 23 = .ok (.goto (-21), 3) := by decide +kernel
theorem dX6_beginReading_26 : decode cX6_beginReading 26 = .ok (.aload_n 0, 1) := by decide +kernel
theorem dX6_beginReading_27 : decode cX6_beginReading 27 = .ok (.getfield 7, 3) := by decide +kernel
theorem dX6_beginReading_30 : decode cX6_beginReading 30 = .ok (.sipush 209, 3) := by decide +kernel
theorem dX6_beginReading_33 : decode cX6_beginReading 33 = .ok (.bipush 60, 2) := by decide +kernel
theorem dX6_beginReading_35 : decode cX6_beginReading 35 = .ok (.iastore, 1) := by decide +kernel
theorem dX6_beginReading_36 : decode cX6_beginReading 36 = .ok (.aload_n 0, 1) := by decide +kernel
theorem dX6_beginReading_37 : decode cX6_beginReading 37 = .ok (.getfield 7, 3) := by decide +kernel
theorem dX6_beginReading_40 : decode cX6_beginReading 40 = .ok (.sipush 210, 3) := by decide +kernel
theorem dX6_beginReading_43 : decode cX6_beginReading 43 = .ok (.bipush 7, 2) := by decide +kernel
theorem dX6_beginReading_45 : decode cX6_beginReading 45 = .ok (.iastore, 1) := by decide +kernel
theorem dX6_beginReading_46 : decode cX6_beginReading 46 = .ok (.aload_n 0, 1) := by decide +kernel
theorem dX6_beginReading_47 : decode cX6_beginReading 47 = .ok (.getfield 7, 3) := by decide +kernel
theorem dX6_beginReading_50 : decode cX6_beginReading 50 = .ok (.sipush 211, 3) := by decide +kernel
theorem dX6_beginReading_53 : decode cX6_beginReading 53 = .ok (.bipush 10, 2) := by decide +kernel
theorem dX6_beginReading_55 : decode cX6_beginReading 55 = .ok (.iastore, 1) := by decide +kernel
theorem dX6_beginReading_56 : decode cX6_beginReading 56 = .ok (.iconst 0, 1) := by decide +kernel
theorem dX6_beginReading_57 : decode cX6_beginReading 57 = .ok (.istore_n 1, 1) := by decide +kernel
theorem dX6_beginReading_58 : decode cX6_beginReading 58 = .ok (.iload_n 1, 1) := by decide +kernel
theorem dX6_beginReading_59 : decode cX6_beginReading 59 = .ok (.aload_n 0, 1) := by decide +kernel
theorem dX6_beginReading_60 : decode cX6_beginReading 60 = .ok (.getfield 20, 3) := by decide +kernel
theorem dX6_beginReading_63 : decode cX6_beginReading 63 = .ok (.arraylength, 1) := by decide +kernel
theorem dX6_beginReading_64 : decode cX6_beginReading 64 = .ok (.if_icmp .ge 16, 3) := by decide +kernel
theorem dX6_beginReading_67 : decode cX6_beginReading 67 = .ok (.aload_n 0, 1) := by decide +kernel
theorem dX6_beginReading_68 : decode cX6_beginReading 68 = .ok (.getfield 20, 3) := by decide +kernel
theorem dX6_beginReading_71 : decode cX6_beginReading 71 = .ok (.iload_n 1, 1) := by decide +kernel
theorem dX6_beginReading_72 : decode cX6_beginReading 72 = .ok (.lconst 0, 1) := by decide +kernel
theorem dX6_beginReading_73 : decode cX6_beginReading 73 = .ok (.lastore, 1) := by decide +kernel
theorem dX6_beginReading_74 : decode cX6_beginReading 74 = .ok (.iinc 1 1, 3) := by decide +kernel
theorem dX6_beginReading_77 : decode cX6_beginReading 77 = .ok (.goto (-19), 3) := by decide +kernel
theorem dX6_beginReading_80 : decode cX6_beginReading 80 = .ok (.iconst 0, 1) := by decide +kernel
theorem dX6_beginReading_81 : decode cX6_beginReading 81 = .ok (.istore_n 1, 1) := by decide +kernel
theorem dX6_beginReading_82 : decode cX6_beginReading 82 = .ok (.iload_n 1, 1) := by decide +kernel
theorem dX6_beginReading_83 : decode cX6_beginReading 83 = .ok (.aload_n 0, 1) := by decide +kernel
theorem dX6_beginReading_84 : decode cX6_beginReading 84 = .ok (.getfield 23, 3) := by decide +kernel
theorem dX6_beginReading_87 : decode cX6_beginReading 87 = .ok (.arraylength, 1) := by decide +kernel
theorem dX6_beginReading_88 : decode cX6_beginReading 88 = .ok (.if_icmp .ge 16, 3) := by decide +kernel
theorem dX6_beginReading_91 : decode cX6_beginReading 91 = .ok (.aload_n 0, 1) := by decide +kernel
theorem dX6_beginReading_92 : decode cX6_beginReading 92 = .ok (.getfield 23, 3) := by decide +kernel
theorem dX6_beginReading_95 : decode cX6_beginReading 95 = .ok (.iload_n 1, 1) := by decide +kernel
theorem dX6_beginReading_96 : decode cX6_beginReading 96 = .ok (.lconst 0, 1) := by decide +kernel
theorem dX6_beginReading_97 : decode cX6_beginReading 97 = .ok (.lastore, 1) := by decide +kernel
theorem dX6_beginReading_98 : decode cX6_beginReading 98 = .ok (.iinc 1 1, 3) := by decide +kernel
theorem dX6_beginReading_101 : decode cX6_beginReading 101 = .ok (.goto (-19), 3) := by decide +kernel
theorem dX6_beginReading_104 : decode cX6_beginReading 104 = .ok (.return_, 1) := by decide +kernel
theorem dX6_keepReading_0 : decode cX6_keepReading 0 = .ok (.aload_n 0, 1) := by decide +kernel
theorem dX6_keepReading_1 : decode cX6_keepReading 1 = .ok (.iconst 1, 1) := by decide +kernel
theorem dX6_keepReading_2 : decode cX6_keepReading 2 = .ok (.iconst 0, 1) := by decide +kernel
theorem dX6_keepReading_3 : decode cX6_keepReading 3 = .ok (.invokevirtual 159, 3) := by decide +kernel
theorem dX6_keepReading_6 : decode cX6_keepReading 6 = .ok (.iconst 0, 1) := by decide +kernel
theorem dX6_keepReading_7 : decode cX6_keepReading 7 = .ok (.istore_n 1, 1) := by decide +kernel
theorem dX6_keepReading_8 : decode cX6_keepReading 8 = .ok (.iload_n 1, 1) := by decide +kernel
theorem dX6_keepReading_9 : decode cX6_keepReading 9 = .ok (.aload_n 0, 1) := by decide +kernel
theorem dX6_keepReading_10 : decode cX6_keepReading 10 = .ok (.getfield 20, 3) := by decide +kernel
theorem dX6_keepReading_13 : decode cX6_keepReading 13 = .ok (.arraylength, 1) := by decide +kernel
theorem dX6_keepReading_14 : decode cX6_keepReading 14 = .ok (.if_icmp .ge 21, 3) := by decide +kernel
theorem dX6_keepReading_17 : decode cX6_keepReading 17 = .ok (.aload_n 0, 1) := by decide +kernel
theorem dX6_keepReading_18 : decode cX6_keepReading 18 = .ok (.getfield 13, 3) := by decide +kernel
theorem dX6_keepReading_21 : decode cX6_keepReading 21 = .ok (.iload_n 1, 1) := by decide +kernel
theorem dX6_keepReading_22 : decode cX6_keepReading 22 = .ok (.aload_n 0, 1) := by decide +kernel
theorem dX6_keepReading_23 : decode cX6_keepReading 23 = .ok (.getfield 20, 3) := by decide +kernel
theorem dX6_keepReading_26 : decode cX6_keepReading 26 = .ok (.iload_n 1, 1) := by decide +kernel
theorem dX6_keepReading_27 : decode cX6_keepReading 27 = .ok (.laload, 1) := by decide +kernel
theorem dX6_keepReading_28 : decode cX6_keepReading 28 = .ok (.lastore, 1) := by decide +kernel
theorem dX6_keepReading_29 : decode cX6_keepReading 29 = .ok (.iinc 1 1, 3) := by decide +kernel
theorem dX6_keepReading_32 : decode cX6_keepReading 32 = .ok (.goto (-24), 3) := by decide +kernel
theorem dX6_keepReading_35 : decode cX6_keepReading 35 = .ok (.iconst 0, 1) := by decide +kernel
theorem dX6_keepReading_36 : decode cX6_keepReading 36 = .ok (.istore_n 1, 1) := by decide +kernel
theorem dX6_keepReading_37 : decode cX6_keepReading 37 = .ok (.iload_n 1, 1) := by decide +kernel
theorem dX6_keepReading_38 : decode cX6_keepReading 38 = .ok (.aload_n 0, 1) := by decide +kernel
theorem dX6_keepReading_39 : decode cX6_keepReading 39 = .ok (.getfield 23, 3) := by decide +kernel
theorem dX6_keepReading_42 : decode cX6_keepReading 42 = .ok (.arraylength, 1) := by decide +kernel
theorem dX6_keepReading_43 : decode cX6_keepReading 43 = .ok (.if_icmp .ge 21, 3) := by decide +kernel
theorem dX6_keepReading_46 : decode cX6_keepReading 46 = .ok (.aload_n 0, 1) := by decide +kernel
theorem dX6_keepReading_47 : decode cX6_keepReading 47 = .ok (.getfield 17, 3) := by decide +kernel
theorem dX6_keepReading_50 : decode cX6_keepReading 50 = .ok (.iload_n 1, 1) := by decide +kernel
theorem dX6_keepReading_51 : decode cX6_keepReading 51 = .ok (.aload_n 0, 1) := by decide +kernel
theorem dX6_keepReading_52 : decode cX6_keepReading 52 = .ok (.getfield 23, 3) := by decide +kernel
theorem dX6_keepReading_55 : decode cX6_keepReading 55 = .ok (.iload_n 1, 1) := by decide +kernel
theorem dX6_keepReading_56 : decode cX6_keepReading 56 = .ok (.laload, 1) := by decide +kernel
theorem dX6_keepReading_57 : decode cX6_keepReading 57 = .ok (.lastore, 1) := by decide +kernel
theorem dX6_keepReading_58 : decode cX6_keepReading 58 = .ok (.iinc 1 1, 3) := by decide +kernel
theorem dX6_keepReading_61 : decode cX6_keepReading 61 = .ok (.goto (-24), 3) := by decide +kernel
theorem dX6_keepReading_64 : decode cX6_keepReading 64 = .ok (.aload_n 0, 1) := by decide +kernel
theorem dX6_keepReading_65 : decode cX6_keepReading 65 = .ok (.iconst 0, 1) := by decide +kernel
theorem dX6_keepReading_66 : decode cX6_keepReading 66 = .ok (.putfield 162, 3) := by decide +kernel
theorem dX6_keepReading_69 : decode cX6_keepReading 69 = .ok (.aload_n 0, 1) := by decide +kernel
theorem dX6_keepReading_70 : decode cX6_keepReading 70 = .ok (.iconst 0, 1) := by decide +kernel
theorem dX6_keepReading_71 : decode cX6_keepReading 71 = .ok (.putfield 165, 3) := by decide +kernel
theorem dX6_keepReading_74 : decode cX6_keepReading 74 = .ok (.return_, 1) := by decide +kernel
theorem dX6_readValue_0 : decode cX6_readValue 0 = .ok (.aload_n 0, 1) := by decide +kernel
theorem dX6_readValue_1 : decode cX6_readValue 1 = .ok (.aload_n 0, 1) := by decide +kernel
theorem dX6_readValue_2 : decode cX6_readValue 2 = .ok (.getfield 122, 3) := by decide +kernel
theorem dX6_readValue_5 : decode cX6_readValue 5 = .ok (.iconst 2, 1) := by decide +kernel
theorem dX6_readValue_6 : decode cX6_readValue 6 = .ok (.if_icmp .ne 19, 3) := by decide +kernel
theorem dX6_readValue_9 : decode cX6_readValue 9 = .ok (.aload_n 0, 1) := by decide +kernel
theorem dX6_readValue_10 : decode cX6_readValue 10 = .ok (.getfield 125, 3) := by decide +kernel
theorem dX6_readValue_13 : decode cX6_readValue 13 = .ok (.iload_n 1, 1) := by decide +kernel
theorem dX6_readValue_14 : decode cX6_readValue 14 = .ok (.iload_n 2, 1) := by decide +kernel
theorem dX6_readValue_15 : decode cX6_readValue 15 = .ok (.invokestatic 81, 3) := by decide +kernel
theorem dX6_readValue_18 : decode cX6_readValue 18 = .ok (.ifCond .eq 7, 3) := by decide +kernel
theorem dX6_readValue_21 : decode cX6_readValue 21 = .ok (.iconst 1, 1) := by decide +kernel
theorem dX6_readValue_22 : decode cX6_readValue 22 = .ok (.goto 4, 3) := by decide +kernel
theorem dX6_readValue_25 : decode cX6_readValue 25 = .ok (.iconst 0, 1) := by decide +kernel
theorem dX6_readValue_26 : decode cX6_readValue 26 = .ok (.invokevirtual 168, 3) := by decide +kernel
theorem dX6_readValue_29 : decode cX6_readValue 29 = .ok (.aload_n 0, 1) := by decide +kernel
theorem dX6_readValue_30 : decode cX6_readValue 30 = .ok (.invokevirtual 146, 3) := by decide +kernel
theorem dX6_readValue_33 : decode cX6_readValue 33 = .ok (.ifCond .ne 5, 3) := by decide +kernel
theorem dX6_readValue_36 : decode cX6_readValue 36 = .ok (.iconst 0, 1) := by decide +kernel
theorem dX6_readValue_37 : decode cX6_readValue 37 = .ok (.ireturn, 1) := by decide +kernel
theorem dX6_readValue_38 : decode cX6_readValue 38 = .ok (.aload_n 0, 1) := by decide +kernel
theorem dX6_readValue_39 : decode cX6_readValue 39 = .ok (.getfield 125, 3) := by decide +kernel
theorem dX6_readValue_42 : decode cX6_readValue 42 = .ok (.istore_n 3, 1) := by decide +kernel
theorem dX6_readValue_43 : decode cX6_readValue 43 = .ok (.aload_n 0, 1) := by decide +kernel
theorem dX6_readValue_44 : decode cX6_readValue 44 = .ok (.invokevirtual 150, 3) := by decide +kernel
theorem dX6_readValue_47 : decode cX6_readValue 47 = .ok (.iload_n 3, 1) := by decide +kernel
theorem dX6_readValue_48 : decode cX6_readValue 48 = .ok (.ireturn, 1) := by decide +kernel
theorem dX6_placeOf_0 : decode cX6_placeOf 0 = .ok (.iconst 0, 1) := by decide +kernel
theorem dX6_placeOf_1 : decode cX6_placeOf 1 = .ok (.istore 4, 2) := by decide +kernel
theorem dX6_placeOf_3 : decode cX6_placeOf 3 = .ok (.iload 4, 2) := by decide +kernel
theorem dX6_placeOf_5 : decode cX6_placeOf 5 = .ok (.iload_n 3, 1) := by decide +kernel
theorem dX6_placeOf_6 : decode cX6_placeOf 6 = .ok (.if_icmp .ge 30, 3) := by decide +kernel
theorem dX6_placeOf_9 : decode cX6_placeOf 9 = .ok (.aload_n 2, 1) := by decide +kernel
theorem dX6_placeOf_10 : decode cX6_placeOf 10 = .ok (.iload 4, 2) := by decide +kernel
theorem dX6_placeOf_12 : decode cX6_placeOf 12 = .ok (.laload, 1) := by decide +kernel
theorem dX6_placeOf_13 : decode cX6_placeOf 13 = .ok (.lconst 0, 1) := by decide +kernel
theorem dX6_placeOf_14 : decode cX6_placeOf 14 = .ok (.lcmp, 1) := by decide +kernel
theorem dX6_placeOf_15 : decode cX6_placeOf 15 = .ok (.ifCond .eq 15, 3) := by decide +kernel
theorem dX6_placeOf_18 : decode cX6_placeOf 18 = .ok (.aload_n 2, 1) := by decide +kernel
theorem dX6_placeOf_19 : decode cX6_placeOf 19 = .ok (.iload 4, 2) := by decide +kernel
theorem dX6_placeOf_21 : decode cX6_placeOf 21 = .ok (.laload, 1) := by decide +kernel
theorem dX6_placeOf_22 : decode cX6_placeOf 22 = .ok (.lload_n 0, 1) := by decide +kernel
theorem dX6_placeOf_23 : decode cX6_placeOf 23 = .ok (.lcmp, 1) := by decide +kernel
theorem dX6_placeOf_24 : decode cX6_placeOf 24 = .ok (.ifCond .ne 6, 3) := by decide +kernel
theorem dX6_placeOf_27 : decode cX6_placeOf 27 = .ok (.iload 4, 2) := by decide +kernel
theorem dX6_placeOf_29 : decode cX6_placeOf 29 = .ok (.ireturn, 1) := by decide +kernel
theorem dX6_placeOf_30 : decode cX6_placeOf 30 = .ok (.iinc 4 1, 3) := by decide +kernel
theorem dX6_placeOf_33 : decode cX6_placeOf 33 = .ok (.goto (-30), 3) := by decide +kernel
theorem dX6_placeOf_36 : decode cX6_placeOf 36 = .ok (.iconst (-1), 1) := by decide +kernel
theorem dX6_placeOf_37 : decode cX6_placeOf 37 = .ok (.ireturn, 1) := by decide +kernel
theorem dX6_kindHere_0 : decode cX6_kindHere 0 = .ok (.aload_n 0, 1) := by decide +kernel
theorem dX6_kindHere_1 : decode cX6_kindHere 1 = .ok (.bipush 109, 2) := by decide +kernel
theorem dX6_kindHere_3 : decode cX6_kindHere 3 = .ok (.bipush 105, 2) := by decide +kernel
theorem dX6_kindHere_5 : decode cX6_kindHere 5 = .ok (.bipush 120, 2) := by decide +kernel
theorem dX6_kindHere_7 : decode cX6_kindHere 7 = .ok (.bipush 101, 2) := by decide +kernel
theorem dX6_kindHere_9 : decode cX6_kindHere 9 = .ok (.bipush 100, 2) := by decide +kernel
theorem dX6_kindHere_11 : decode cX6_kindHere 11 = .ok (.iconst 0, 1) := by decide +kernel
theorem dX6_kindHere_12 : decode cX6_kindHere 12 = .ok (.iconst 0, 1) := by decide +kernel
theorem dX6_kindHere_13 : decode cX6_kindHere 13 = .ok (.invokestatic 172, 3) := by decide +kernel
theorem dX6_kindHere_16 : decode cX6_kindHere 16 = .ok (.invokevirtual 176, 3) := by decide +kernel
theorem dX6_kindHere_19 : decode cX6_kindHere 19 = .ok (.ifCond .eq 5, 3) := by decide +kernel
theorem dX6_kindHere_22 : decode cX6_kindHere 22 = .ok (.iconst 0, 1) := by decide +kernel
theorem dX6_kindHere_23 : decode cX6_kindHere 23 = .ok (.ireturn, 1) := by decide +kernel
theorem dX6_kindHere_24 : decode cX6_kindHere 24 = .ok (.aload_n 0, 1) := by decide +kernel
theorem dX6_kindHere_25 : decode cX6_kindHere 25 = .ok (.bipush 119, 2) := by decide +kernel
theorem dX6_kindHere_27 : decode cX6_kindHere 27 = .ok (.bipush 111, 2) := by decide +kernel
theorem dX6_kindHere_29 : decode cX6_kindHere 29 = .ok (.bipush 109, 2) := by decide +kernel
theorem dX6_kindHere_31 : decode cX6_kindHere 31 = .ok (.bipush 101, 2) := by decide +kernel
theorem dX6_kindHere_33 : decode cX6_kindHere 33 = .ok (.bipush 110, 2) := by decide +kernel
theorem dX6_kindHere_35 : decode cX6_kindHere 35 = .ok (.iconst 0, 1) := by decide +kernel
theorem dX6_kindHere_36 : decode cX6_kindHere 36 = .ok (.iconst 0, 1) := by decide +kernel
theorem dX6_kindHere_37 : decode cX6_kindHere 37 = .ok (.invokestatic 172, 3) := by decide +kernel
theorem dX6_kindHere_40 : decode cX6_kindHere 40 = .ok (.invokevirtual 176, 3) := by decide +kernel
theorem dX6_kindHere_43 : decode cX6_kindHere 43 = .ok (.ifCond .eq 5, 3) := by decide +kernel
theorem dX6_kindHere_46 : decode cX6_kindHere 46 = .ok (.iconst 1, 1) := by decide +kernel
theorem dX6_kindHere_47 : decode cX6_kindHere 47 = .ok (.ireturn, 1) := by decide +kernel
theorem dX6_kindHere_48 : decode cX6_kindHere 48 = .ok (.aload_n 0, 1) := by decide +kernel
theorem dX6_kindHere_49 : decode cX6_kindHere 49 = .ok (.bipush 109, 2) := by decide +kernel
theorem dX6_kindHere_51 : decode cX6_kindHere 51 = .ok (.bipush 101, 2) := by decide +kernel
theorem dX6_kindHere_53 : decode cX6_kindHere 53 = .ok (.bipush 110, 2) := by decide +kernel
theorem dX6_kindHere_55 : decode cX6_kindHere 55 = .ok (.iconst 0, 1) := by decide +kernel
theorem dX6_kindHere_56 : decode cX6_kindHere 56 = .ok (.iconst 0, 1) := by decide +kernel
theorem dX6_kindHere_57 : decode cX6_kindHere 57 = .ok (.iconst 0, 1) := by decide +kernel
theorem dX6_kindHere_58 : decode cX6_kindHere 58 = .ok (.iconst 0, 1) := by decide +kernel
theorem dX6_kindHere_59 : decode cX6_kindHere 59 = .ok (.invokestatic 172, 3) := by decide +kernel
theorem dX6_kindHere_62 : decode cX6_kindHere 62 = .ok (.invokevirtual 176, 3) := by decide +kernel
theorem dX6_kindHere_65 : decode cX6_kindHere 65 = .ok (.ifCond .eq 7, 3) := by decide +kernel
theorem dX6_kindHere_68 : decode cX6_kindHere 68 = .ok (.iconst 2, 1) := by decide +kernel
theorem dX6_kindHere_69 : decode cX6_kindHere 69 = .ok (.goto 4, 3) := by decide +kernel
theorem dX6_kindHere_72 : decode cX6_kindHere 72 = .ok (.iconst (-1), 1) := by decide +kernel
theorem dX6_kindHere_73 : decode cX6_kindHere 73 = .ok (.ireturn, 1) := by decide +kernel
theorem dX6_ends_0 : decode cX6_ends 0 = .ok (.aload_n 0, 1) := by decide +kernel
theorem dX6_ends_1 : decode cX6_ends 1 = .ok (.aload_n 0, 1) := by decide +kernel
theorem dX6_ends_2 : decode cX6_ends 2 = .ok (.getfield 122, 3) := by decide +kernel
theorem dX6_ends_5 : decode cX6_ends 5 = .ok (.iconst 3, 1) := by decide +kernel
theorem dX6_ends_6 : decode cX6_ends 6 = .ok (.if_icmp .ne 7, 3) := by decide +kernel
theorem dX6_ends_9 : decode cX6_ends 9 = .ok (.iconst 1, 1) := by decide +kernel
theorem dX6_ends_10 : decode cX6_ends 10 = .ok (.goto 4, 3) := by decide +kernel
theorem dX6_ends_13 : decode cX6_ends 13 = .ok (.iconst 0, 1) := by decide +kernel
theorem dX6_ends_14 : decode cX6_ends 14 = .ok (.invokevirtual 168, 3) := by decide +kernel
theorem dX6_ends_17 : decode cX6_ends 17 = .ok (.return_, 1) := by decide +kernel
theorem dX6_readRoom_0 : decode cX6_readRoom 0 = .ok (.aload_n 0, 1) := by decide +kernel
theorem dX6_readRoom_1 : decode cX6_readRoom 1 = .ok (.iconst 4, 1) := by decide +kernel
theorem dX6_readRoom_2 : decode cX6_readRoom 2 = .ok (.invokevirtual 69, 3) := by decide +kernel
theorem dX6_readRoom_5 : decode cX6_readRoom 5 = .ok (.istore_n 1, 1) := by decide +kernel
theorem dX6_readRoom_6 : decode cX6_readRoom 6 = .ok (.aload_n 0, 1) := by decide +kernel
theorem dX6_readRoom_7 : decode cX6_readRoom 7 = .ok (.iload_n 1, 1) := by decide +kernel
theorem dX6_readRoom_8 : decode cX6_readRoom 8 = .ok (.bipush 8, 2) := by decide +kernel
theorem dX6_readRoom_10 : decode cX6_readRoom 10 = .ok (.if_icmp .ge 7, 3) := by decide +kernel
theorem dX6_readRoom_13 : decode cX6_readRoom 13 = .ok (.iconst 1, 1) := by decide +kernel
theorem dX6_readRoom_14 : decode cX6_readRoom 14 = .ok (.goto 4, 3) := by decide +kernel
theorem dX6_readRoom_17 : decode cX6_readRoom 17 = .ok (.iconst 0, 1) := by decide +kernel
theorem dX6_readRoom_18 : decode cX6_readRoom 18 = .ok (.invokevirtual 168, 3) := by decide +kernel
theorem dX6_readRoom_21 : decode cX6_readRoom 21 = .ok (.aload_n 0, 1) := by decide +kernel
theorem dX6_readRoom_22 : decode cX6_readRoom 22 = .ok (.invokevirtual 180, 3) := by decide +kernel
theorem dX6_readRoom_25 : decode cX6_readRoom 25 = .ok (.aload_n 0, 1) := by decide +kernel
theorem dX6_readRoom_26 : decode cX6_readRoom 26 = .ok (.aload_n 0, 1) := by decide +kernel
theorem dX6_readRoom_27 : decode cX6_readRoom 27 = .ok (.getfield 122, 3) := by decide +kernel
theorem dX6_readRoom_30 : decode cX6_readRoom 30 = .ok (.iconst 1, 1) := by decide +kernel
theorem dX6_readRoom_31 : decode cX6_readRoom 31 = .ok (.if_icmp .ne 23, 3) := by decide +kernel
theorem dX6_readRoom_34 : decode cX6_readRoom 34 = .ok (.aload_n 0, 1) := by decide +kernel
theorem dX6_readRoom_35 : decode cX6_readRoom 35 = .ok (.getfield 108, 3) := by decide +kernel
theorem dX6_readRoom_38 : decode cX6_readRoom 38 = .ok (.aload_n 0, 1) := by decide +kernel
theorem dX6_readRoom_39 : decode cX6_readRoom 39 = .ok (.getfield 20, 3) := by decide +kernel
theorem dX6_readRoom_42 : decode cX6_readRoom 42 = .ok (.iload_n 1, 1) := by decide +kernel
theorem dX6_readRoom_43 : decode cX6_readRoom 43 = .ok (.invokestatic 183, 3) := by decide +kernel
theorem dX6_readRoom_46 : decode cX6_readRoom 46 = .ok (.iconst (-1), 1) := by decide +kernel
theorem dX6_readRoom_47 : decode cX6_readRoom 47 = .ok (.if_icmp .ne 7, 3) := by decide +kernel
theorem dX6_readRoom_50 : decode cX6_readRoom 50 = .ok (.iconst 1, 1) := by decide +kernel
theorem dX6_readRoom_51 : decode cX6_readRoom 51 = .ok (.goto 4, 3) := by decide +kernel
theorem dX6_readRoom_54 : decode cX6_readRoom 54 = .ok (.iconst 0, 1) := by decide +kernel
theorem dX6_readRoom_55 : decode cX6_readRoom 55 = .ok (.invokevirtual 168, 3) := by decide +kernel
theorem dX6_readRoom_58 : decode cX6_readRoom 58 = .ok (.aload_n 0, 1) := by decide +kernel
theorem dX6_readRoom_59 : decode cX6_readRoom 59 = .ok (.getfield 108, 3) := by decide +kernel
theorem dX6_readRoom_62 : decode cX6_readRoom 62 = .ok (.lstore_n 2, 1) := by decide +kernel
theorem dX6_readRoom_63 : decode cX6_readRoom 63 = .ok (.aload_n 0, 1) := by decide +kernel
theorem dX6_readRoom_64 : decode cX6_readRoom 64 = .ok (.invokevirtual 180, 3) := by decide +kernel
theorem dX6_readRoom_67 : decode cX6_readRoom 67 = .ok (.aload_n 0, 1) := by decide +kernel
theorem dX6_readRoom_68 : decode cX6_readRoom 68 = .ok (.invokevirtual 187, 3) := by decide +kernel
theorem dX6_readRoom_71 : decode cX6_readRoom 71 = .ok (.istore 4, 2) := by decide +kernel
theorem dX6_readRoom_73 : decode cX6_readRoom 73 = .ok (.aload_n 0, 1) := by decide +kernel
theorem dX6_readRoom_74 : decode cX6_readRoom 74 = .ok (.iload 4, 2) := by decide +kernel
theorem dX6_readRoom_76 : decode cX6_readRoom 76 = .ok (.iconst (-1), 1) := by decide +kernel
theorem dX6_readRoom_77 : decode cX6_readRoom 77 = .ok (.if_icmp .eq 7, 3) := by decide +kernel
theorem dX6_readRoom_80 : decode cX6_readRoom 80 = .ok (.iconst 1, 1) := by decide +kernel
theorem dX6_readRoom_81 : decode cX6_readRoom 81 = .ok (.goto 4, 3) := by decide +kernel
theorem dX6_readRoom_84 : decode cX6_readRoom 84 = .ok (.iconst 0, 1) := by decide +kernel
theorem dX6_readRoom_85 : decode cX6_readRoom 85 = .ok (.invokevirtual 168, 3) := by decide +kernel
theorem dX6_readRoom_88 : decode cX6_readRoom 88 = .ok (.aload_n 0, 1) := by decide +kernel
theorem dX6_readRoom_89 : decode cX6_readRoom 89 = .ok (.invokevirtual 180, 3) := by decide +kernel
theorem dX6_readRoom_92 : decode cX6_readRoom 92 = .ok (.aload_n 0, 1) := by decide +kernel
theorem dX6_readRoom_93 : decode cX6_readRoom 93 = .ok (.iconst 1, 1) := by decide +kernel
theorem dX6_readRoom_94 : decode cX6_readRoom 94 = .ok (.bipush 10, 2) := by decide +kernel
theorem dX6_readRoom_96 : decode cX6_readRoom 96 = .ok (.invokevirtual 191, 3) := by decide +kernel
theorem dX6_readRoom_99 : decode cX6_readRoom 99 = .ok (.istore 5, 2) := by decide +kernel
theorem dX6_readRoom_101 : decode cX6_readRoom 101 = .ok (.aload_n 0, 1) := by decide +kernel
theorem dX6_readRoom_102 : decode cX6_readRoom 102 = .ok (.iconst 0, 1) := by decide +kernel
theorem dX6_readRoom_103 : decode cX6_readRoom 103 = .ok (.bipush 99, 2) := by decide +kernel
theorem dX6_readRoom_105 : decode cX6_readRoom 105 = .ok (.invokevirtual 191, 3) := by decide +kernel
theorem dX6_readRoom_108 : decode cX6_readRoom 108 = .ok (.istore 6, 2) := by decide +kernel
theorem dX6_readRoom_110 : decode cX6_readRoom 110 = .ok (.aload_n 0, 1) := by decide +kernel
theorem dX6_readRoom_111 : decode cX6_readRoom 111 = .ok (.iconst 1, 1) := by decide +kernel
theorem dX6_readRoom_112 : decode cX6_readRoom 112 = .ok (.sipush 200, 3) := by decide +kernel
theorem dX6_readRoom_115 : decode cX6_readRoom 115 = .ok (.invokevirtual 191, 3) := by decide +kernel
theorem dX6_readRoom_118 : decode cX6_readRoom 118 = .ok (.istore 7, 2) := by decide +kernel
theorem dX6_readRoom_120 : decode cX6_readRoom 120 = .ok (.aload_n 0, 1) := by decide +kernel
theorem dX6_readRoom_121 : decode cX6_readRoom 121 = .ok (.invokevirtual 194, 3) := by decide +kernel
theorem dX6_readRoom_124 : decode cX6_readRoom 124 = .ok (.aload_n 0, 1) := by decide +kernel
theorem dX6_readRoom_125 : decode cX6_readRoom 125 = .ok (.invokevirtual 146, 3) := by decide +kernel
theorem dX6_readRoom_128 : decode cX6_readRoom 128 = .ok (.ifCond .ne 4, 3) := by decide +kernel
theorem dX6_readRoom_131 : decode cX6_readRoom 131 = .ok (.return_, 1) := by decide +kernel
theorem dX6_readRoom_132 : decode cX6_readRoom 132 = .ok (.aload_n 0, 1) := by decide +kernel
theorem dX6_readRoom_133 : decode cX6_readRoom 133 = .ok (.getfield 20, 3) := by decide +kernel
theorem dX6_readRoom_136 : decode cX6_readRoom 136 = .ok (.iload_n 1, 1) := by decide +kernel
theorem dX6_readRoom_137 : decode cX6_readRoom 137 = .ok (.lload_n 2, 1) := by decide +kernel
theorem dX6_readRoom_138 : decode cX6_readRoom 138 = .ok (.lastore, 1) := by decide +kernel
theorem dX6_readRoom_139 : decode cX6_readRoom 139 = .ok (.aload_n 0, 1) := by decide +kernel
theorem dX6_readRoom_140 : decode cX6_readRoom 140 = .ok (.iconst 5, 1) := by decide +kernel
theorem dX6_readRoom_141 : decode cX6_readRoom 141 = .ok (.iconst 4, 1) := by decide +kernel
theorem dX6_readRoom_142 : decode cX6_readRoom 142 = .ok (.iload_n 1, 1) := by decide +kernel
theorem dX6_readRoom_143 : decode cX6_readRoom 143 = .ok (.imul, 1) := by decide +kernel
theorem dX6_readRoom_144 : decode cX6_readRoom 144 = .ok (.iadd, 1) := by decide +kernel
theorem dX6_readRoom_145 : decode cX6_readRoom 145 = .ok (.iconst 0, 1) := by decide +kernel
theorem dX6_readRoom_146 : decode cX6_readRoom 146 = .ok (.iadd, 1) := by decide +kernel
theorem dX6_readRoom_147 : decode cX6_readRoom 147 = .ok (.iload 4, 2) := by decide +kernel
theorem dX6_readRoom_149 : decode cX6_readRoom 149 = .ok (.invokevirtual 73, 3) := by decide +kernel
theorem dX6_readRoom_152 : decode cX6_readRoom 152 = .ok (.aload_n 0, 1) := by decide +kernel
theorem dX6_readRoom_153 : decode cX6_readRoom 153 = .ok (.iconst 5, 1) := by decide +kernel
theorem dX6_readRoom_154 : decode cX6_readRoom 154 = .ok (.iconst 4, 1) := by decide +kernel
theorem dX6_readRoom_155 : decode cX6_readRoom 155 = .ok (.iload_n 1, 1) := by decide +kernel
theorem dX6_readRoom_156 : decode cX6_readRoom 156 = .ok (.imul, 1) := by decide +kernel
theorem dX6_readRoom_157 : decode cX6_readRoom 157 = .ok (.iadd, 1) := by decide +kernel
theorem dX6_readRoom_158 : decode cX6_readRoom 158 = .ok (.iconst 1, 1) := by decide +kernel
theorem dX6_readRoom_159 : decode cX6_readRoom 159 = .ok (.iadd, 1) := by decide +kernel
theorem dX6_readRoom_160 : decode cX6_readRoom 160 = .ok (.iload 5, 2) := by decide +kernel
theorem dX6_readRoom_162 : decode cX6_readRoom 162 = .ok (.invokevirtual 73, 3) := by decide +kernel
theorem dX6_readRoom_165 : decode cX6_readRoom 165 = .ok (.aload_n 0, 1) := by decide +kernel
theorem dX6_readRoom_166 : decode cX6_readRoom 166 = .ok (.iconst 5, 1) := by decide +kernel
theorem dX6_readRoom_167 : decode cX6_readRoom 167 = .ok (.iconst 4, 1) := by decide +kernel
theorem dX6_readRoom_168 : decode cX6_readRoom 168 = .ok (.iload_n 1, 1) := by decide +kernel
theorem dX6_readRoom_169 : decode cX6_readRoom 169 = .ok (.imul, 1) := by decide +kernel
theorem dX6_readRoom_170 : decode cX6_readRoom 170 = .ok (.iadd, 1) := by decide +kernel
theorem dX6_readRoom_171 : decode cX6_readRoom 171 = .ok (.iconst 2, 1) := by decide +kernel
theorem dX6_readRoom_172 : decode cX6_readRoom 172 = .ok (.iadd, 1) := by decide +kernel
theorem dX6_readRoom_173 : decode cX6_readRoom 173 = .ok (.iload 6, 2) := by decide +kernel
theorem dX6_readRoom_175 : decode cX6_readRoom 175 = .ok (.invokevirtual 73, 3) := by decide +kernel
theorem dX6_readRoom_178 : decode cX6_readRoom 178 = .ok (.aload_n 0, 1) := by decide +kernel
theorem dX6_readRoom_179 : decode cX6_readRoom 179 = .ok (.iconst 5, 1) := by decide +kernel
theorem dX6_readRoom_180 : decode cX6_readRoom 180 = .ok (.iconst 4, 1) := by decide +kernel
theorem dX6_readRoom_181 : decode cX6_readRoom 181 = .ok (.iload_n 1, 1) := by decide +kernel
theorem dX6_readRoom_182 : decode cX6_readRoom 182 = .ok (.imul, 1) := by decide +kernel
theorem dX6_readRoom_183 : decode cX6_readRoom 183 = .ok (.iadd, 1) := by decide +kernel
theorem dX6_readRoom_184 : decode cX6_readRoom 184 = .ok (.iconst 3, 1) := by decide +kernel
theorem dX6_readRoom_185 : decode cX6_readRoom 185 = .ok (.iadd, 1) := by decide +kernel
theorem dX6_readRoom_186 : decode cX6_readRoom 186 = .ok (.iload 7, 2) := by decide +kernel
theorem dX6_readRoom_188 : decode cX6_readRoom 188 = .ok (.invokevirtual 73, 3) := by decide +kernel
theorem dX6_readRoom_191 : decode cX6_readRoom 191 = .ok (.aload_n 0, 1) := by decide +kernel
theorem dX6_readRoom_192 : decode cX6_readRoom 192 = .ok (.iconst 4, 1) := by decide +kernel
theorem dX6_readRoom_193 : decode cX6_readRoom 193 = .ok (.iload_n 1, 1) := by decide +kernel
theorem dX6_readRoom_194 : decode cX6_readRoom 194 = .ok (.iconst 1, 1) := by decide +kernel
theorem dX6_readRoom_195 : decode cX6_readRoom 195 = .ok (.iadd, 1) := by decide +kernel
theorem dX6_readRoom_196 : decode cX6_readRoom 196 = .ok (.invokevirtual 73, 3) := by decide +kernel
theorem dX6_readRoom_199 : decode cX6_readRoom 199 = .ok (.return_, 1) := by decide +kernel
theorem dX6_readSetting_0 : decode cX6_readSetting 0 = .ok (.aload_n 0, 1) := by decide +kernel
theorem dX6_readSetting_1 : decode cX6_readSetting 1 = .ok (.invokevirtual 180, 3) := by decide +kernel
theorem dX6_readSetting_4 : decode cX6_readSetting 4 = .ok (.aload_n 0, 1) := by decide +kernel
theorem dX6_readSetting_5 : decode cX6_readSetting 5 = .ok (.iconst 0, 1) := by decide +kernel
theorem dX6_readSetting_6 : decode cX6_readSetting 6 = .ok (.iload_n 2, 1) := by decide +kernel
theorem dX6_readSetting_7 : decode cX6_readSetting 7 = .ok (.invokevirtual 191, 3) := by decide +kernel
theorem dX6_readSetting_10 : decode cX6_readSetting 10 = .ok (.istore_n 3, 1) := by decide +kernel
theorem dX6_readSetting_11 : decode cX6_readSetting 11 = .ok (.aload_n 0, 1) := by decide +kernel
theorem dX6_readSetting_12 : decode cX6_readSetting 12 = .ok (.invokevirtual 194, 3) := by decide +kernel
theorem dX6_readSetting_15 : decode cX6_readSetting 15 = .ok (.aload_n 0, 1) := by decide +kernel
theorem dX6_readSetting_16 : decode cX6_readSetting 16 = .ok (.invokevirtual 146, 3) := by decide +kernel
theorem dX6_readSetting_19 : decode cX6_readSetting 19 = .ok (.ifCond .eq 9, 3) := by decide +kernel
theorem dX6_readSetting_22 : decode cX6_readSetting 22 = .ok (.aload_n 0, 1) := by decide +kernel
theorem dX6_readSetting_23 : decode cX6_readSetting 23 = .ok (.iload_n 1, 1) := by decide +kernel
theorem dX6_readSetting_24 : decode cX6_readSetting 24 = .ok (.iload_n 3, 1) := by decide +kernel
theorem dX6_readSetting_25 : decode cX6_readSetting 25 = .ok (.invokevirtual 73, 3) := by decide +kernel
theorem dX6_readSetting_28 : decode cX6_readSetting 28 = .ok (.return_, 1) := by decide +kernel
theorem dX6_readOffer_0 : decode cX6_readOffer 0 = .ok (.aload_n 0, 1) := by decide +kernel
theorem dX6_readOffer_1 : decode cX6_readOffer 1 = .ok (.invokevirtual 180, 3) := by decide +kernel
theorem dX6_readOffer_4 : decode cX6_readOffer 4 = .ok (.aload_n 0, 1) := by decide +kernel
theorem dX6_readOffer_5 : decode cX6_readOffer 5 = .ok (.iconst 2, 1) := by decide +kernel
theorem dX6_readOffer_6 : decode cX6_readOffer 6 = .ok (.bipush 30, 2) := by decide +kernel
theorem dX6_readOffer_8 : decode cX6_readOffer 8 = .ok (.invokevirtual 191, 3) := by decide +kernel
theorem dX6_readOffer_11 : decode cX6_readOffer 11 = .ok (.istore_n 1, 1) := by decide +kernel
theorem dX6_readOffer_12 : decode cX6_readOffer 12 = .ok (.aload_n 0, 1) := by decide +kernel
theorem dX6_readOffer_13 : decode cX6_readOffer 13 = .ok (.iconst 0, 1) := by decide +kernel
theorem dX6_readOffer_14 : decode cX6_readOffer 14 = .ok (.bipush 50, 2) := by decide +kernel
theorem dX6_readOffer_16 : decode cX6_readOffer 16 = .ok (.invokevirtual 191, 3) := by decide +kernel
theorem dX6_readOffer_19 : decode cX6_readOffer 19 = .ok (.istore_n 2, 1) := by decide +kernel
theorem dX6_readOffer_20 : decode cX6_readOffer 20 = .ok (.aload_n 0, 1) := by decide +kernel
theorem dX6_readOffer_21 : decode cX6_readOffer 21 = .ok (.invokevirtual 194, 3) := by decide +kernel
theorem dX6_readOffer_24 : decode cX6_readOffer 24 = .ok (.aload_n 0, 1) := by decide +kernel
theorem dX6_readOffer_25 : decode cX6_readOffer 25 = .ok (.invokevirtual 146, 3) := by decide +kernel
theorem dX6_readOffer_28 : decode cX6_readOffer 28 = .ok (.ifCond .ne 4, 3) := by decide +kernel
theorem dX6_readOffer_31 : decode cX6_readOffer 31 = .ok (.return_, 1) := by decide +kernel
theorem dX6_readOffer_32 : decode cX6_readOffer 32 = .ok (.aload_n 0, 1) := by decide +kernel
theorem dX6_readOffer_33 : decode cX6_readOffer 33 = .ok (.iconst 2, 1) := by decide +kernel
theorem dX6_readOffer_34 : decode cX6_readOffer 34 = .ok (.iload_n 1, 1) := by decide +kernel
theorem dX6_readOffer_35 : decode cX6_readOffer 35 = .ok (.invokevirtual 73, 3) := by decide +kernel
theorem dX6_readOffer_38 : decode cX6_readOffer 38 = .ok (.aload_n 0, 1) := by decide +kernel
theorem dX6_readOffer_39 : decode cX6_readOffer 39 = .ok (.iconst 3, 1) := by decide +kernel
theorem dX6_readOffer_40 : decode cX6_readOffer 40 = .ok (.iload_n 2, 1) := by decide +kernel
theorem dX6_readOffer_41 : decode cX6_readOffer 41 = .ok (.invokevirtual 73, 3) := by decide +kernel
theorem dX6_readOffer_44 : decode cX6_readOffer 44 = .ok (.return_, 1) := by decide +kernel
theorem dX6_readBook_0 : decode cX6_readBook 0 = .ok (.aload_n 0, 1) := by decide +kernel
theorem dX6_readBook_1 : decode cX6_readBook 1 = .ok (.bipush 37, 2) := by decide +kernel
theorem dX6_readBook_3 : decode cX6_readBook 3 = .ok (.invokevirtual 69, 3) := by decide +kernel
theorem dX6_readBook_6 : decode cX6_readBook 6 = .ok (.istore_n 1, 1) := by decide +kernel
theorem dX6_readBook_7 : decode cX6_readBook 7 = .ok (.aload_n 0, 1) := by decide +kernel
theorem dX6_readBook_8 : decode cX6_readBook 8 = .ok (.iload_n 1, 1) := by decide +kernel
theorem dX6_readBook_9 : decode cX6_readBook 9 = .ok (.bipush 16, 2) := by decide +kernel
theorem dX6_readBook_11 : decode cX6_readBook 11 = .ok (.if_icmp .ge 7, 3) := by decide +kernel
theorem dX6_readBook_14 : decode cX6_readBook 14 = .ok (.iconst 1, 1) := by decide +kernel
theorem dX6_readBook_15 : decode cX6_readBook 15 = .ok (.goto 4, 3) := by decide +kernel
theorem dX6_readBook_18 : decode cX6_readBook 18 = .ok (.iconst 0, 1) := by decide +kernel
theorem dX6_readBook_19 : decode cX6_readBook 19 = .ok (.invokevirtual 168, 3) := by decide +kernel
theorem dX6_readBook_22 : decode cX6_readBook 22 = .ok (.aload_n 0, 1) := by decide +kernel
theorem dX6_readBook_23 : decode cX6_readBook 23 = .ok (.invokevirtual 180, 3) := by decide +kernel
theorem dX6_readBook_26 : decode cX6_readBook 26 = .ok (.aload_n 0, 1) := by decide +kernel
theorem dX6_readBook_27 : decode cX6_readBook 27 = .ok (.aload_n 0, 1) := by decide +kernel
theorem dX6_readBook_28 : decode cX6_readBook 28 = .ok (.getfield 122, 3) := by decide +kernel
theorem dX6_readBook_31 : decode cX6_readBook 31 = .ok (.iconst 1, 1) := by decide +kernel
theorem dX6_readBook_32 : decode cX6_readBook 32 = .ok (.if_icmp .ne 23, 3) := by decide +kernel
theorem dX6_readBook_35 : decode cX6_readBook 35 = .ok (.aload_n 0, 1) := by decide +kernel
theorem dX6_readBook_36 : decode cX6_readBook 36 = .ok (.getfield 108, 3) := by decide +kernel
theorem dX6_readBook_39 : decode cX6_readBook 39 = .ok (.aload_n 0, 1) := by decide +kernel
theorem dX6_readBook_40 : decode cX6_readBook 40 = .ok (.getfield 23, 3) := by decide +kernel
theorem dX6_readBook_43 : decode cX6_readBook 43 = .ok (.iload_n 1, 1) := by decide +kernel
theorem dX6_readBook_44 : decode cX6_readBook 44 = .ok (.invokestatic 183, 3) := by decide +kernel
theorem dX6_readBook_47 : decode cX6_readBook 47 = .ok (.iconst (-1), 1) := by decide +kernel
theorem dX6_readBook_48 : decode cX6_readBook 48 = .ok (.if_icmp .ne 7, 3) := by decide +kernel
theorem dX6_readBook_51 : decode cX6_readBook 51 = .ok (.iconst 1, 1) := by decide +kernel
theorem dX6_readBook_52 : decode cX6_readBook 52 = .ok (.goto 4, 3) := by decide +kernel
theorem dX6_readBook_55 : decode cX6_readBook 55 = .ok (.iconst 0, 1) := by decide +kernel
theorem dX6_readBook_56 : decode cX6_readBook 56 = .ok (.invokevirtual 168, 3) := by decide +kernel
theorem dX6_readBook_59 : decode cX6_readBook 59 = .ok (.aload_n 0, 1) := by decide +kernel
theorem dX6_readBook_60 : decode cX6_readBook 60 = .ok (.getfield 108, 3) := by decide +kernel
theorem dX6_readBook_63 : decode cX6_readBook 63 = .ok (.lstore_n 2, 1) := by decide +kernel
theorem dX6_readBook_64 : decode cX6_readBook 64 = .ok (.aload_n 0, 1) := by decide +kernel
theorem dX6_readBook_65 : decode cX6_readBook 65 = .ok (.invokevirtual 180, 3) := by decide +kernel
theorem dX6_readBook_68 : decode cX6_readBook 68 = .ok (.aload_n 0, 1) := by decide +kernel
theorem dX6_readBook_69 : decode cX6_readBook 69 = .ok (.iconst 0, 1) := by decide +kernel
theorem dX6_readBook_70 : decode cX6_readBook 70 = .ok (.bipush 29, 2) := by decide +kernel
theorem dX6_readBook_72 : decode cX6_readBook 72 = .ok (.invokevirtual 191, 3) := by decide +kernel
theorem dX6_readBook_75 : decode cX6_readBook 75 = .ok (.istore 4, 2) := by decide +kernel
theorem dX6_readBook_77 : decode cX6_readBook 77 = .ok (.aload_n 0, 1) := by decide +kernel
theorem dX6_readBook_78 : decode cX6_readBook 78 = .ok (.iconst 1, 1) := by decide +kernel
theorem dX6_readBook_79 : decode cX6_readBook 79 = .ok (.bipush 30, 2) := by decide +kernel
theorem dX6_readBook_81 : decode cX6_readBook 81 = .ok (.iload 4, 2) := by decide +kernel
theorem dX6_readBook_83 : decode cX6_readBook 83 = .ok (.isub, 1) := by decide +kernel
theorem dX6_readBook_84 : decode cX6_readBook 84 = .ok (.invokevirtual 191, 3) := by decide +kernel
theorem dX6_readBook_87 : decode cX6_readBook 87 = .ok (.istore 5, 2) := by decide +kernel
theorem dX6_readBook_89 : decode cX6_readBook 89 = .ok (.aload_n 0, 1) := by decide +kernel
theorem dX6_readBook_90 : decode cX6_readBook 90 = .ok (.iconst 0, 1) := by decide +kernel
theorem dX6_readBook_91 : decode cX6_readBook 91 = .ok (.bipush 12, 2) := by decide +kernel
theorem dX6_readBook_93 : decode cX6_readBook 93 = .ok (.invokevirtual 191, 3) := by decide +kernel
theorem dX6_readBook_96 : decode cX6_readBook 96 = .ok (.istore 6, 2) := by decide +kernel
theorem dX6_readBook_98 : decode cX6_readBook 98 = .ok (.aload_n 0, 1) := by decide +kernel
theorem dX6_readBook_99 : decode cX6_readBook 99 = .ok (.iload 6, 2) := by decide +kernel
theorem dX6_readBook_101 : decode cX6_readBook 101 = .ok (.ifCond .ne 7, 3) := by decide +kernel
theorem dX6_readBook_104 : decode cX6_readBook 104 = .ok (.iconst 1, 1) := by decide +kernel
theorem dX6_readBook_105 : decode cX6_readBook 105 = .ok (.goto 4, 3) := by decide +kernel
theorem dX6_readBook_108 : decode cX6_readBook 108 = .ok (.iconst 0, 1) := by decide +kernel
theorem dX6_readBook_109 : decode cX6_readBook 109 = .ok (.bipush 12, 2) := by decide +kernel
theorem dX6_readBook_111 : decode cX6_readBook 111 = .ok (.iload 6, 2) := by decide +kernel
theorem dX6_readBook_113 : decode cX6_readBook 113 = .ok (.isub, 1) := by decide +kernel
theorem dX6_readBook_114 : decode cX6_readBook 114 = .ok (.invokevirtual 191, 3) := by decide +kernel
theorem dX6_readBook_117 : decode cX6_readBook 117 = .ok (.istore 7, 2) := by decide +kernel
theorem dX6_readBook_119 : decode cX6_readBook 119 = .ok (.aload_n 0, 1) := by decide +kernel
theorem dX6_readBook_120 : decode cX6_readBook 120 = .ok (.iconst 0, 1) := by decide +kernel
theorem dX6_readBook_121 : decode cX6_readBook 121 = .ok (.bipush 99, 2) := by decide +kernel
theorem dX6_readBook_123 : decode cX6_readBook 123 = .ok (.invokevirtual 191, 3) := by decide +kernel
theorem dX6_readBook_126 : decode cX6_readBook 126 = .ok (.istore 8, 2) := by decide +kernel
theorem dX6_readBook_128 : decode cX6_readBook 128 = .ok (.aload_n 0, 1) := by decide +kernel
theorem dX6_readBook_129 : decode cX6_readBook 129 = .ok (.iconst 0, 1) := by decide +kernel
theorem dX6_readBook_130 : decode cX6_readBook 130 = .ok (.bipush 100, 2) := by decide +kernel
theorem dX6_readBook_132 : decode cX6_readBook 132 = .ok (.invokevirtual 191, 3) := by decide +kernel
theorem dX6_readBook_135 : decode cX6_readBook 135 = .ok (.istore 9, 2) := by decide +kernel
theorem dX6_readBook_137 : decode cX6_readBook 137 = .ok (.aload_n 0, 1) := by decide +kernel
theorem dX6_readBook_138 : decode cX6_readBook 138 = .ok (.invokevirtual 146, 3) := by decide +kernel
theorem dX6_readBook_141 : decode cX6_readBook 141 = .ok (.ifCond .eq 36, 3) := by decide +kernel
theorem dX6_readBook_144 : decode cX6_readBook 144 = .ok (.aload_n 0, 1) := by decide +kernel
theorem dX6_readBook_145 : decode cX6_readBook 145 = .ok (.bipush 116, 2) := by decide +kernel
theorem dX6_readBook_147 : decode cX6_readBook 147 = .ok (.bipush 111, 2) := by decide +kernel
theorem dX6_readBook_149 : decode cX6_readBook 149 = .ok (.bipush 103, 2) := by decide +kernel
theorem dX6_readBook_151 : decode cX6_readBook 151 = .ok (.bipush 101, 2) := by decide +kernel
theorem dX6_readBook_153 : decode cX6_readBook 153 = .ok (.bipush 116, 2) := by decide +kernel
theorem dX6_readBook_155 : decode cX6_readBook 155 = .ok (.bipush 104, 2) := by decide +kernel
theorem dX6_readBook_157 : decode cX6_readBook 157 = .ok (.bipush 101, 2) := by decide +kernel
theorem dX6_readBook_159 : decode cX6_readBook 159 = .ok (.invokestatic 172, 3) := by decide +kernel
theorem dX6_readBook_162 : decode cX6_readBook 162 = .ok (.bipush 114, 2) := by decide +kernel
theorem dX6_readBook_164 : decode cX6_readBook 164 = .ok (.invokestatic 155, 3) := by decide +kernel
theorem dX6_readBook_167 : decode cX6_readBook 167 = .ok (.invokevirtual 176, 3) := by decide +kernel
theorem dX6_readBook_170 : decode cX6_readBook 170 = .ok (.ifCond .eq 7, 3) := by decide +kernel
theorem dX6_readBook_173 : decode cX6_readBook 173 = .ok (.iconst 1, 1) := by decide +kernel
theorem dX6_readBook_174 : decode cX6_readBook 174 = .ok (.goto 4, 3) := by decide +kernel
theorem dX6_readBook_177 : decode cX6_readBook 177 = .ok (.iconst 0, 1) := by decide +kernel
theorem dX6_readBook_178 : decode cX6_readBook 178 = .ok (.istore 10, 2) := by decide +kernel
theorem dX6_readBook_180 : decode cX6_readBook 180 = .ok (.iload 10, 2) := by decide +kernel
theorem dX6_readBook_182 : decode cX6_readBook 182 = .ok (.ifCond .eq 7, 3) := by decide +kernel
theorem dX6_readBook_185 : decode cX6_readBook 185 = .ok (.aload_n 0, 1) := by decide +kernel
theorem dX6_readBook_186 : decode cX6_readBook 186 = .ok (.invokevirtual 180, 3) := by decide +kernel
theorem dX6_readBook_189 : decode cX6_readBook 189 = .ok (.aload_n 0, 1) := by decide +kernel
theorem dX6_readBook_190 : decode cX6_readBook 190 = .ok (.invokevirtual 194, 3) := by decide +kernel
theorem dX6_readBook_193 : decode cX6_readBook 193 = .ok (.aload_n 0, 1) := by decide +kernel
theorem dX6_readBook_194 : decode cX6_readBook 194 = .ok (.invokevirtual 146, 3) := by decide +kernel
theorem dX6_readBook_197 : decode cX6_readBook 197 = .ok (.ifCond .ne 4, 3) := by decide +kernel
theorem dX6_readBook_200 : decode cX6_readBook 200 = .ok (.return_, 1) := by decide +kernel
theorem dX6_readBook_201 : decode cX6_readBook 201 = .ok (.aload_n 0, 1) := by decide +kernel
theorem dX6_readBook_202 : decode cX6_readBook 202 = .ok (.iload 4, 2) := by decide +kernel
theorem dX6_readBook_204 : decode cX6_readBook 204 = .ok (.iload 5, 2) := by decide +kernel
theorem dX6_readBook_206 : decode cX6_readBook 206 = .ok (.iload 6, 2) := by decide +kernel
theorem dX6_readBook_208 : decode cX6_readBook 208 = .ok (.iload 7, 2) := by decide +kernel
theorem dX6_readBook_210 : decode cX6_readBook 210 = .ok (.iload 8, 2) := by decide +kernel
theorem dX6_readBook_212 : decode cX6_readBook 212 = .ok (.iload 9, 2) := by decide +kernel
theorem dX6_readBook_214 : decode cX6_readBook 214 = .ok (.invokevirtual 197, 3) := by decide +kernel
theorem dX6_readBook_217 : decode cX6_readBook 217 = .ok (.aload_n 0, 1) := by decide +kernel
theorem dX6_readBook_218 : decode cX6_readBook 218 = .ok (.iload_n 1, 1) := by decide +kernel
theorem dX6_readBook_219 : decode cX6_readBook 219 = .ok (.bipush 6, 2) := by decide +kernel
theorem dX6_readBook_221 : decode cX6_readBook 221 = .ok (.iload 10, 2) := by decide +kernel
theorem dX6_readBook_223 : decode cX6_readBook 223 = .ok (.ifCond .eq 7, 3) := by decide +kernel
theorem dX6_readBook_226 : decode cX6_readBook 226 = .ok (.iconst 1, 1) := by decide +kernel
theorem dX6_readBook_227 : decode cX6_readBook 227 = .ok (.goto 4, 3) := by decide +kernel
theorem dX6_readBook_230 : decode cX6_readBook 230 = .ok (.iconst 0, 1) := by decide +kernel
theorem dX6_readBook_231 : decode cX6_readBook 231 = .ok (.invokevirtual 201, 3) := by decide +kernel
theorem dX6_readBook_234 : decode cX6_readBook 234 = .ok (.aload_n 0, 1) := by decide +kernel
theorem dX6_readBook_235 : decode cX6_readBook 235 = .ok (.getfield 23, 3) := by decide +kernel
theorem dX6_readBook_238 : decode cX6_readBook 238 = .ok (.iload_n 1, 1) := by decide +kernel
theorem dX6_readBook_239 : decode cX6_readBook 239 = .ok (.lload_n 2, 1) := by decide +kernel
theorem dX6_readBook_240 : decode cX6_readBook 240 = .ok (.lastore, 1) := by decide +kernel
theorem dX6_readBook_241 : decode cX6_readBook 241 = .ok (.aload_n 0, 1) := by decide +kernel
theorem dX6_readBook_242 : decode cX6_readBook 242 = .ok (.iload_n 1, 1) := by decide +kernel
theorem dX6_readBook_243 : decode cX6_readBook 243 = .ok (.invokevirtual 205, 3) := by decide +kernel
theorem dX6_readBook_246 : decode cX6_readBook 246 = .ok (.return_, 1) := by decide +kernel
theorem dX6_readKnown_0 : decode cX6_readKnown 0 = .ok (.aload_n 0, 1) := by decide +kernel
theorem dX6_readKnown_1 : decode cX6_readKnown 1 = .ok (.invokevirtual 180, 3) := by decide +kernel
theorem dX6_readKnown_4 : decode cX6_readKnown 4 = .ok (.aload_n 0, 1) := by decide +kernel
theorem dX6_readKnown_5 : decode cX6_readKnown 5 = .ok (.getfield 122, 3) := by decide +kernel
theorem dX6_readKnown_8 : decode cX6_readKnown 8 = .ok (.iconst 1, 1) := by decide +kernel
theorem dX6_readKnown_9 : decode cX6_readKnown 9 = .ok (.if_icmp .ne 23, 3) := by decide +kernel
theorem dX6_readKnown_12 : decode cX6_readKnown 12 = .ok (.aload_n 0, 1) := by decide +kernel
theorem dX6_readKnown_13 : decode cX6_readKnown 13 = .ok (.getfield 108, 3) := by decide +kernel
theorem dX6_readKnown_16 : decode cX6_readKnown 16 = .ok (.aload_n 0, 1) := by decide +kernel
theorem dX6_readKnown_17 : decode cX6_readKnown 17 = .ok (.getfield 23, 3) := by decide +kernel
theorem dX6_readKnown_20 : decode cX6_readKnown 20 = .ok (.aload_n 0, 1) := by decide +kernel
theorem dX6_readKnown_21 : decode cX6_readKnown 21 = .ok (.bipush 37, 2) := by decide +kernel
theorem dX6_readKnown_23 : decode cX6_readKnown 23 = .ok (.invokevirtual 69, 3) := by decide +kernel
theorem dX6_readKnown_26 : decode cX6_readKnown 26 = .ok (.invokestatic 183, 3) := by decide +kernel
theorem dX6_readKnown_29 : decode cX6_readKnown 29 = .ok (.goto 4, 3) := by decide +kernel
theorem dX6_readKnown_32 : decode cX6_readKnown 32 = .ok (.iconst (-1), 1) := by decide +kernel
theorem dX6_readKnown_33 : decode cX6_readKnown 33 = .ok (.istore_n 1, 1) := by decide +kernel
theorem dX6_readKnown_34 : decode cX6_readKnown 34 = .ok (.aload_n 0, 1) := by decide +kernel
theorem dX6_readKnown_35 : decode cX6_readKnown 35 = .ok (.iload_n 1, 1) := by decide +kernel
theorem dX6_readKnown_36 : decode cX6_readKnown 36 = .ok (.iconst (-1), 1) := by decide +kernel
theorem dX6_readKnown_37 : decode cX6_readKnown 37 = .ok (.if_icmp .eq 18, 3) := by decide +kernel
theorem dX6_readKnown_40 : decode cX6_readKnown 40 = .ok (.aload_n 0, 1) := by decide +kernel
theorem dX6_readKnown_41 : decode cX6_readKnown 41 = .ok (.iload_n 1, 1) := by decide +kernel
theorem dX6_readKnown_42 : decode cX6_readKnown 42 = .ok (.bipush 8, 2) := by decide +kernel
theorem dX6_readKnown_44 : decode cX6_readKnown 44 = .ok (.invokevirtual 77, 3) := by decide +kernel
theorem dX6_readKnown_47 : decode cX6_readKnown 47 = .ok (.iconst 2, 1) := by decide +kernel
theorem dX6_readKnown_48 : decode cX6_readKnown 48 = .ok (.if_icmp .eq 7, 3) := by decide +kernel
theorem dX6_readKnown_51 : decode cX6_readKnown 51 = .ok (.iconst 1, 1) := by decide +kernel
theorem dX6_readKnown_52 : decode cX6_readKnown 52 = .ok (.goto 4, 3) := by decide +kernel
theorem dX6_readKnown_55 : decode cX6_readKnown 55 = .ok (.iconst 0, 1) := by decide +kernel
theorem dX6_readKnown_56 : decode cX6_readKnown 56 = .ok (.invokevirtual 168, 3) := by decide +kernel
theorem dX6_readKnown_59 : decode cX6_readKnown 59 = .ok (.aload_n 0, 1) := by decide +kernel
theorem dX6_readKnown_60 : decode cX6_readKnown 60 = .ok (.invokevirtual 180, 3) := by decide +kernel
theorem dX6_readKnown_63 : decode cX6_readKnown 63 = .ok (.aload_n 0, 1) := by decide +kernel
theorem dX6_readKnown_64 : decode cX6_readKnown 64 = .ok (.invokevirtual 194, 3) := by decide +kernel
theorem dX6_readKnown_67 : decode cX6_readKnown 67 = .ok (.iload_n 1, 1) := by decide +kernel
theorem dX6_readKnown_68 : decode cX6_readKnown 68 = .ok (.ireturn, 1) := by decide +kernel
theorem dX6_readCancel_0 : decode cX6_readCancel 0 = .ok (.aload_n 0, 1) := by decide +kernel
theorem dX6_readCancel_1 : decode cX6_readCancel 1 = .ok (.invokevirtual 208, 3) := by decide +kernel
theorem dX6_readCancel_4 : decode cX6_readCancel 4 = .ok (.istore_n 1, 1) := by decide +kernel
theorem dX6_readCancel_5 : decode cX6_readCancel 5 = .ok (.aload_n 0, 1) := by decide +kernel
theorem dX6_readCancel_6 : decode cX6_readCancel 6 = .ok (.invokevirtual 146, 3) := by decide +kernel
theorem dX6_readCancel_9 : decode cX6_readCancel 9 = .ok (.ifCond .eq 9, 3) := by decide +kernel
theorem dX6_readCancel_12 : decode cX6_readCancel 12 = .ok (.aload_n 0, 1) := by decide +kernel
theorem dX6_readCancel_13 : decode cX6_readCancel 13 = .ok (.iload_n 1, 1) := by decide +kernel
theorem dX6_readCancel_14 : decode cX6_readCancel 14 = .ok (.invokevirtual 211, 3) := by decide +kernel
theorem dX6_readCancel_17 : decode cX6_readCancel 17 = .ok (.pop, 1) := by decide +kernel
theorem dX6_readCancel_18 : decode cX6_readCancel 18 = .ok (.return_, 1) := by decide +kernel
theorem dX6_readAbsent_0 : decode cX6_readAbsent 0 = .ok (.aload_n 0, 1) := by decide +kernel
theorem dX6_readAbsent_1 : decode cX6_readAbsent 1 = .ok (.invokevirtual 208, 3) := by decide +kernel
theorem dX6_readAbsent_4 : decode cX6_readAbsent 4 = .ok (.istore_n 1, 1) := by decide +kernel
theorem dX6_readAbsent_5 : decode cX6_readAbsent 5 = .ok (.aload_n 0, 1) := by decide +kernel
theorem dX6_readAbsent_6 : decode cX6_readAbsent 6 = .ok (.invokevirtual 146, 3) := by decide +kernel
theorem dX6_readAbsent_9 : decode cX6_readAbsent 9 = .ok (.ifCond .eq 11, 3) := by decide +kernel
theorem dX6_readAbsent_12 : decode cX6_readAbsent 12 = .ok (.aload_n 0, 1) := by decide +kernel
theorem dX6_readAbsent_13 : decode cX6_readAbsent 13 = .ok (.iload_n 1, 1) := by decide +kernel
theorem dX6_readAbsent_14 : decode cX6_readAbsent 14 = .ok (.bipush 7, 2) := by decide +kernel
theorem dX6_readAbsent_16 : decode cX6_readAbsent 16 = .ok (.iconst 1, 1) := by decide +kernel
theorem dX6_readAbsent_17 : decode cX6_readAbsent 17 = .ok (.invokevirtual 201, 3) := by decide +kernel
theorem dX6_readAbsent_20 : decode cX6_readAbsent 20 = .ok (.return_, 1) := by decide +kernel
theorem dX6_readStatement_0 : decode cX6_readStatement 0 = .ok (.aload_n 0, 1) := by decide +kernel
theorem dX6_readStatement_1 : decode cX6_readStatement 1 = .ok (.bipush 114, 2) := by decide +kernel
theorem dX6_readStatement_3 : decode cX6_readStatement 3 = .ok (.bipush 111, 2) := by decide +kernel
theorem dX6_readStatement_5 : decode cX6_readStatement 5 = .ok (.bipush 111, 2) := by decide +kernel
theorem dX6_readStatement_7 : decode cX6_readStatement 7 = .ok (.bipush 109, 2) := by decide +kernel
theorem dX6_readStatement_9 : decode cX6_readStatement 9 = .ok (.iconst 0, 1) := by decide +kernel
theorem dX6_readStatement_10 : decode cX6_readStatement 10 = .ok (.iconst 0, 1) := by decide +kernel
theorem dX6_readStatement_11 : decode cX6_readStatement 11 = .ok (.iconst 0, 1) := by decide +kernel
theorem dX6_readStatement_12 : decode cX6_readStatement 12 = .ok (.invokestatic 172, 3) := by decide +kernel
theorem dX6_readStatement_15 : decode cX6_readStatement 15 = .ok (.invokevirtual 176, 3) := by decide +kernel
theorem dX6_readStatement_18 : decode cX6_readStatement 18 = .ok (.ifCond .eq 10, 3) := by decide +kernel
theorem dX6_readStatement_21 : decode cX6_readStatement 21 = .ok (.aload_n 0, 1) := by decide +kernel
theorem dX6_readStatement_22 : decode cX6_readStatement 22 = .ok (.invokevirtual 214, 3) := by decide +kernel
theorem dX6_readStatement_25 : decode cX6_readStatement 25 = .ok (.goto 188, 3) := by decide +kernel
theorem dX6_readStatement_28 : decode cX6_readStatement 28 = .ok (.aload_n 0, 1) := by decide +kernel
theorem dX6_readStatement_29 : decode cX6_readStatement 29 = .ok (.bipush 111, 2) := by decide +kernel
theorem dX6_readStatement_31 : decode cX6_readStatement 31 = .ok (.bipush 118, 2) := by decide +kernel
theorem dX6_readStatement_33 : decode cX6_readStatement 33 = .ok (.bipush 101, 2) := by decide +kernel
theorem dX6_readStatement_35 : decode cX6_readStatement 35 = .ok (.bipush 114, 2) := by decide +kernel
theorem dX6_readStatement_37 : decode cX6_readStatement 37 = .ok (.iconst 0, 1) := by decide +kernel
theorem dX6_readStatement_38 : decode cX6_readStatement 38 = .ok (.iconst 0, 1) := by decide +kernel
theorem dX6_readStatement_39 : decode cX6_readStatement 39 = .ok (.iconst 0, 1) := by decide +kernel
theorem dX6_readStatement_40 : decode cX6_readStatement 40 = .ok (.invokestatic 172, 3) := by decide +kernel
theorem dX6_readStatement_43 : decode cX6_readStatement 43 = .ok (.invokevirtual 176, 3) := by decide +kernel
theorem dX6_readStatement_46 : decode cX6_readStatement 46 = .ok (.ifCond .eq 13, 3) := by decide +kernel
theorem dX6_readStatement_49 : decode cX6_readStatement 49 = .ok (.aload_n 0, 1) := by decide +kernel
theorem dX6_readStatement_50 : decode cX6_readStatement 50 = .ok (.iconst 0, 1) := by decide +kernel
theorem dX6_readStatement_51 : decode cX6_readStatement 51 = .ok (.bipush 50, 2) := by decide +kernel
theorem dX6_readStatement_53 : decode cX6_readStatement 53 = .ok (.invokevirtual 217, 3) := by decide +kernel
theorem dX6_readStatement_56 : decode cX6_readStatement 56 = .ok (.goto 157, 3) := by decide +kernel
theorem dX6_readStatement_59 : decode cX6_readStatement 59 = .ok (.aload_n 0, 1) := by decide +kernel
theorem dX6_readStatement_60 : decode cX6_readStatement 60 = .ok (.bipush 119, 2) := by decide +kernel
theorem dX6_readStatement_62 : decode cX6_readStatement 62 = .ok (.bipush 97, 2) := by decide +kernel
theorem dX6_readStatement_64 : decode cX6_readStatement 64 = .ok (.bipush 108, 2) := by decide +kernel
theorem dX6_readStatement_66 : decode cX6_readStatement 66 = .ok (.bipush 107, 2) := by decide +kernel
theorem dX6_readStatement_68 : decode cX6_readStatement 68 = .ok (.iconst 0, 1) := by decide +kernel
theorem dX6_readStatement_69 : decode cX6_readStatement 69 = .ok (.iconst 0, 1) := by decide +kernel
theorem dX6_readStatement_70 : decode cX6_readStatement 70 = .ok (.iconst 0, 1) := by decide +kernel
theorem dX6_readStatement_71 : decode cX6_readStatement 71 = .ok (.invokestatic 172, 3) := by decide +kernel
theorem dX6_readStatement_74 : decode cX6_readStatement 74 = .ok (.invokevirtual 176, 3) := by decide +kernel
theorem dX6_readStatement_77 : decode cX6_readStatement 77 = .ok (.ifCond .eq 14, 3) := by decide +kernel
theorem dX6_readStatement_80 : decode cX6_readStatement 80 = .ok (.aload_n 0, 1) := by decide +kernel
theorem dX6_readStatement_81 : decode cX6_readStatement 81 = .ok (.iconst 1, 1) := by decide +kernel
theorem dX6_readStatement_82 : decode cX6_readStatement 82 = .ok (.sipush 300, 3) := by decide +kernel
theorem dX6_readStatement_85 : decode cX6_readStatement 85 = .ok (.invokevirtual 217, 3) := by decide +kernel
theorem dX6_readStatement_88 : decode cX6_readStatement 88 = .ok (.goto 125, 3) := by decide +kernel
theorem dX6_readStatement_91 : decode cX6_readStatement 91 = .ok (.aload_n 0, 1) := by decide +kernel
theorem dX6_readStatement_92 : decode cX6_readStatement 92 = .ok (.bipush 111, 2) := by decide +kernel
theorem dX6_readStatement_94 : decode cX6_readStatement 94 = .ok (.bipush 102, 2) := by decide +kernel
theorem dX6_readStatement_96 : decode cX6_readStatement 96 = .ok (.bipush 102, 2) := by decide +kernel
theorem dX6_readStatement_98 : decode cX6_readStatement 98 = .ok (.bipush 101, 2) := by decide +kernel
theorem dX6_readStatement_100 : decode cX6_readStatement 100 = .ok (.bipush 114, 2) := by decide +kernel
theorem dX6_readStatement_102 : decode cX6_readStatement 102 = .ok (.iconst 0, 1) := by decide +kernel
theorem dX6_readStatement_103 : decode cX6_readStatement 103 = .ok (.iconst 0, 1) := by decide +kernel
theorem dX6_readStatement_104 : decode cX6_readStatement 104 = .ok (.invokestatic 172, 3) := by decide +kernel
theorem dX6_readStatement_107 : decode cX6_readStatement 107 = .ok (.invokevirtual 176, 3) := by decide +kernel
theorem dX6_readStatement_110 : decode cX6_readStatement 110 = .ok (.ifCond .eq 10, 3) := by decide +kernel
theorem dX6_readStatement_113 : decode cX6_readStatement 113 = .ok (.aload_n 0, 1) := by decide +kernel
theorem dX6_readStatement_114 : decode cX6_readStatement 114 = .ok (.invokevirtual 220, 3) := by decide +kernel
theorem dX6_readStatement_117 : decode cX6_readStatement 117 = .ok (.goto 96, 3) := by decide +kernel
theorem dX6_readStatement_120 : decode cX6_readStatement 120 = .ok (.aload_n 0, 1) := by decide +kernel
theorem dX6_readStatement_121 : decode cX6_readStatement 121 = .ok (.bipush 98, 2) := by decide +kernel
theorem dX6_readStatement_123 : decode cX6_readStatement 123 = .ok (.bipush 111, 2) := by decide +kernel
theorem dX6_readStatement_125 : decode cX6_readStatement 125 = .ok (.bipush 111, 2) := by decide +kernel
theorem dX6_readStatement_127 : decode cX6_readStatement 127 = .ok (.bipush 107, 2) := by decide +kernel
theorem dX6_readStatement_129 : decode cX6_readStatement 129 = .ok (.iconst 0, 1) := by decide +kernel
theorem dX6_readStatement_130 : decode cX6_readStatement 130 = .ok (.iconst 0, 1) := by decide +kernel
theorem dX6_readStatement_131 : decode cX6_readStatement 131 = .ok (.iconst 0, 1) := by decide +kernel
theorem dX6_readStatement_132 : decode cX6_readStatement 132 = .ok (.invokestatic 172, 3) := by decide +kernel
theorem dX6_readStatement_135 : decode cX6_readStatement 135 = .ok (.invokevirtual 176, 3) := by decide +kernel
theorem dX6_readStatement_138 : decode cX6_readStatement 138 = .ok (.ifCond .eq 10, 3) := by decide +kernel
theorem dX6_readStatement_141 : decode cX6_readStatement 141 = .ok (.aload_n 0, 1) := by decide +kernel
theorem dX6_readStatement_142 : decode cX6_readStatement 142 = .ok (.invokevirtual 223, 3) := by decide +kernel
theorem dX6_readStatement_145 : decode cX6_readStatement 145 = .ok (.goto 68, 3) := by decide +kernel
theorem dX6_readStatement_148 : decode cX6_readStatement 148 = .ok (.aload_n 0, 1) := by decide +kernel
theorem dX6_readStatement_149 : decode cX6_readStatement 149 = .ok (.bipush 99, 2) := by decide +kernel
theorem dX6_readStatement_151 : decode cX6_readStatement 151 = .ok (.bipush 97, 2) := by decide +kernel
theorem dX6_readStatement_153 : decode cX6_readStatement 153 = .ok (.bipush 110, 2) := by decide +kernel
theorem dX6_readStatement_155 : decode cX6_readStatement 155 = .ok (.bipush 99, 2) := by decide +kernel
theorem dX6_readStatement_157 : decode cX6_readStatement 157 = .ok (.bipush 101, 2) := by decide +kernel
theorem dX6_readStatement_159 : decode cX6_readStatement 159 = .ok (.bipush 108, 2) := by decide +kernel
theorem dX6_readStatement_161 : decode cX6_readStatement 161 = .ok (.iconst 0, 1) := by decide +kernel
theorem dX6_readStatement_162 : decode cX6_readStatement 162 = .ok (.invokestatic 172, 3) := by decide +kernel
theorem dX6_readStatement_165 : decode cX6_readStatement 165 = .ok (.invokevirtual 176, 3) := by decide +kernel
theorem dX6_readStatement_168 : decode cX6_readStatement 168 = .ok (.ifCond .eq 10, 3) := by decide +kernel
theorem dX6_readStatement_171 : decode cX6_readStatement 171 = .ok (.aload_n 0, 1) := by decide +kernel
theorem dX6_readStatement_172 : decode cX6_readStatement 172 = .ok (.invokevirtual 226, 3) := by decide +kernel
theorem dX6_readStatement_175 : decode cX6_readStatement 175 = .ok (.goto 38, 3) := by decide +kernel
theorem dX6_readStatement_178 : decode cX6_readStatement 178 = .ok (.aload_n 0, 1) := by decide +kernel
theorem dX6_readStatement_179 : decode cX6_readStatement 179 = .ok (.bipush 97, 2) := by decide +kernel
theorem dX6_readStatement_181 : decode cX6_readStatement 181 = .ok (.bipush 98, 2) := by decide +kernel
theorem dX6_readStatement_183 : decode cX6_readStatement 183 = .ok (.bipush 115, 2) := by decide +kernel
theorem dX6_readStatement_185 : decode cX6_readStatement 185 = .ok (.bipush 101, 2) := by decide +kernel
theorem dX6_readStatement_187 : decode cX6_readStatement 187 = .ok (.bipush 110, 2) := by decide +kernel
theorem dX6_readStatement_189 : decode cX6_readStatement 189 = .ok (.bipush 116, 2) := by decide +kernel
theorem dX6_readStatement_191 : decode cX6_readStatement 191 = .ok (.iconst 0, 1) := by decide +kernel
theorem dX6_readStatement_192 : decode cX6_readStatement 192 = .ok (.invokestatic 172, 3) := by decide +kernel
theorem dX6_readStatement_195 : decode cX6_readStatement 195 = .ok (.invokevirtual 176, 3) := by decide +kernel
theorem dX6_readStatement_198 : decode cX6_readStatement 198 = .ok (.ifCond .eq 10, 3) := by decide +kernel
theorem dX6_readStatement_201 : decode cX6_readStatement 201 = .ok (.aload_n 0, 1) := by decide +kernel
theorem dX6_readStatement_202 : decode cX6_readStatement 202 = .ok (.invokevirtual 229, 3) := by decide +kernel
theorem dX6_readStatement_205 : decode cX6_readStatement 205 = .ok (.goto 8, 3) := by decide +kernel
theorem dX6_readStatement_208 : decode cX6_readStatement 208 = .ok (.aload_n 0, 1) := by decide +kernel
theorem dX6_readStatement_209 : decode cX6_readStatement 209 = .ok (.iconst 0, 1) := by decide +kernel
theorem dX6_readStatement_210 : decode cX6_readStatement 210 = .ok (.invokevirtual 168, 3) := by decide +kernel
theorem dX6_readStatement_213 : decode cX6_readStatement 213 = .ok (.aload_n 0, 1) := by decide +kernel
theorem dX6_readStatement_214 : decode cX6_readStatement 214 = .ok (.invokevirtual 180, 3) := by decide +kernel
theorem dX6_readStatement_217 : decode cX6_readStatement 217 = .ok (.return_, 1) := by decide +kernel
theorem dX6_load_0 : decode cX6_load 0 = .ok (.aload_n 0, 1) := by decide +kernel
theorem dX6_load_1 : decode cX6_load 1 = .ok (.iconst 0, 1) := by decide +kernel
theorem dX6_load_2 : decode cX6_load 2 = .ok (.putfield 63, 3) := by decide +kernel
theorem dX6_load_5 : decode cX6_load 5 = .ok (.aload_n 0, 1) := by decide +kernel
theorem dX6_load_6 : decode cX6_load 6 = .ok (.aload_n 0, 1) := by decide +kernel
theorem dX6_load_7 : decode cX6_load 7 = .ok (.getfield 92, 3) := by decide +kernel
theorem dX6_load_10 : decode cX6_load 10 = .ok (.putfield 102, 3) := by decide +kernel
theorem dX6_load_13 : decode cX6_load 13 = .ok (.aload_n 0, 1) := by decide +kernel
theorem dX6_load_14 : decode cX6_load 14 = .ok (.iconst 0, 1) := by decide +kernel
theorem dX6_load_15 : decode cX6_load 15 = .ok (.putfield 92, 3) := by decide +kernel
theorem dX6_load_18 : decode cX6_load 18 = .ok (.aload_n 0, 1) := by decide +kernel
theorem dX6_load_19 : decode cX6_load 19 = .ok (.iconst 0, 1) := by decide +kernel
theorem dX6_load_20 : decode cX6_load 20 = .ok (.putfield 112, 3) := by decide +kernel
theorem dX6_load_23 : decode cX6_load 23 = .ok (.aload_n 0, 1) := by decide +kernel
theorem dX6_load_24 : decode cX6_load 24 = .ok (.iconst (-1), 1) := by decide +kernel
theorem dX6_load_25 : decode cX6_load 25 = .ok (.putfield 143, 3) := by decide +kernel
theorem dX6_load_28 : decode cX6_load 28 = .ok (.aload_n 0, 1) := by decide +kernel
theorem dX6_load_29 : decode cX6_load 29 = .ok (.invokevirtual 57, 3) := by decide +kernel
theorem dX6_load_32 : decode cX6_load 32 = .ok (.aload_n 0, 1) := by decide +kernel
theorem dX6_load_33 : decode cX6_load 33 = .ok (.sipush 208, 3) := by decide +kernel
theorem dX6_load_36 : decode cX6_load 36 = .ok (.putfield 66, 3) := by decide +kernel
theorem dX6_load_39 : decode cX6_load 39 = .ok (.aload_n 0, 1) := by decide +kernel
theorem dX6_load_40 : decode cX6_load 40 = .ok (.invokevirtual 150, 3) := by decide +kernel
theorem dX6_load_43 : decode cX6_load 43 = .ok (.aload_n 0, 1) := by decide +kernel
theorem dX6_load_44 : decode cX6_load 44 = .ok (.invokevirtual 146, 3) := by decide +kernel
theorem dX6_load_47 : decode cX6_load 47 = .ok (.ifCond .eq 17, 3) := by decide +kernel
theorem dX6_load_50 : decode cX6_load 50 = .ok (.aload_n 0, 1) := by decide +kernel
theorem dX6_load_51 : decode cX6_load 51 = .ok (.getfield 122, 3) := by decide +kernel
theorem dX6_load_54 : decode cX6_load 54 = .ok (.ifCond .eq 10, 3) := by decide +kernel
theorem dX6_load_57 : decode cX6_load 57 = .ok (.aload_n 0, 1) := by decide +kernel
theorem dX6_load_58 : decode cX6_load 58 = .ok (.invokevirtual 232, 3) := by decide +kernel
theorem dX6_load_61 : decode cX6_load 61 = .ok (.goto (-18), 3) := by decide +kernel
theorem dX6_load_64 : decode cX6_load 64 = .ok (.aload_n 0, 1) := by decide +kernel
theorem dX6_load_65 : decode cX6_load 65 = .ok (.iconst 0, 1) := by decide +kernel
theorem dX6_load_66 : decode cX6_load 66 = .ok (.putfield 66, 3) := by decide +kernel
theorem dX6_load_69 : decode cX6_load 69 = .ok (.aload_n 0, 1) := by decide +kernel
theorem dX6_load_70 : decode cX6_load 70 = .ok (.aload_n 0, 1) := by decide +kernel
theorem dX6_load_71 : decode cX6_load 71 = .ok (.getfield 143, 3) := by decide +kernel
theorem dX6_load_74 : decode cX6_load 74 = .ok (.putfield 53, 3) := by decide +kernel
theorem dX6_load_77 : decode cX6_load 77 = .ok (.aload_n 0, 1) := by decide +kernel
theorem dX6_load_78 : decode cX6_load 78 = .ok (.invokevirtual 146, 3) := by decide +kernel
theorem dX6_load_81 : decode cX6_load 81 = .ok (.ifCond .ne 9, 3) := by decide +kernel
theorem dX6_load_84 : decode cX6_load 84 = .ok (.aload_n 0, 1) := by decide +kernel
theorem dX6_load_85 : decode cX6_load 85 = .ok (.iconst 1, 1) := by decide +kernel
theorem dX6_load_86 : decode cX6_load 86 = .ok (.invokevirtual 95, 3) := by decide +kernel
theorem dX6_load_89 : decode cX6_load 89 = .ok (.ireturn, 1) := by decide +kernel
theorem dX6_load_90 : decode cX6_load 90 = .ok (.aload_n 0, 1) := by decide +kernel
theorem dX6_load_91 : decode cX6_load 91 = .ok (.invokevirtual 60, 3) := by decide +kernel
theorem dX6_load_94 : decode cX6_load 94 = .ok (.aload_n 0, 1) := by decide +kernel
theorem dX6_load_95 : decode cX6_load 95 = .ok (.bipush 37, 2) := by decide +kernel
theorem dX6_load_97 : decode cX6_load 97 = .ok (.invokevirtual 69, 3) := by decide +kernel
theorem dX6_load_100 : decode cX6_load 100 = .ok (.ireturn, 1) := by decide +kernel
theorem dX6_errorOffset_0 : decode cX6_errorOffset 0 = .ok (.aload_n 0, 1) := by decide +kernel
theorem dX6_errorOffset_1 : decode cX6_errorOffset 1 = .ok (.iconst 0, 1) := by decide +kernel
theorem dX6_errorOffset_2 : decode cX6_errorOffset 2 = .ok (.putfield 63, 3) := by decide +kernel
theorem dX6_errorOffset_5 : decode cX6_errorOffset 5 = .ok (.aload_n 0, 1) := by decide +kernel
theorem dX6_errorOffset_6 : decode cX6_errorOffset 6 = .ok (.getfield 53, 3) := by decide +kernel
theorem dX6_errorOffset_9 : decode cX6_errorOffset 9 = .ok (.ireturn, 1) := by decide +kernel
theorem dX6_allBeds_0 : decode cX6_allBeds 0 = .ok (.iconst 0, 1) := by decide +kernel
theorem dX6_allBeds_1 : decode cX6_allBeds 1 = .ok (.istore_n 1, 1) := by decide +kernel
theorem dX6_allBeds_2 : decode cX6_allBeds 2 = .ok (.iconst 0, 1) := by decide +kernel
theorem dX6_allBeds_3 : decode cX6_allBeds 3 = .ok (.istore_n 2, 1) := by decide +kernel
theorem dX6_allBeds_4 : decode cX6_allBeds 4 = .ok (.iload_n 2, 1) := by decide +kernel
theorem dX6_allBeds_5 : decode cX6_allBeds 5 = .ok (.aload_n 0, 1) := by decide +kernel
theorem dX6_allBeds_6 : decode cX6_allBeds 6 = .ok (.iconst 4, 1) := by decide +kernel
theorem dX6_allBeds_7 : decode cX6_allBeds 7 = .ok (.invokevirtual 69, 3) := by decide +kernel
theorem dX6_allBeds_10 : decode cX6_allBeds 10 = .ok (.if_icmp .ge 18, 3) := by decide +kernel
theorem dX6_allBeds_13 : decode cX6_allBeds 13 = .ok (.iload_n 1, 1) := by decide +kernel
theorem dX6_allBeds_14 : decode cX6_allBeds 14 = .ok (.aload_n 0, 1) := by decide +kernel
theorem dX6_allBeds_15 : decode cX6_allBeds 15 = .ok (.iload_n 2, 1) := by decide +kernel
theorem dX6_allBeds_16 : decode cX6_allBeds 16 = .ok (.iconst 1, 1) := by decide +kernel
theorem dX6_allBeds_17 : decode cX6_allBeds 17 = .ok (.invokevirtual 89, 3) := by decide +kernel
theorem dX6_allBeds_20 : decode cX6_allBeds 20 = .ok (.iadd, 1) := by decide +kernel
theorem dX6_allBeds_21 : decode cX6_allBeds 21 = .ok (.istore_n 1, 1) := by decide +kernel
theorem dX6_allBeds_22 : decode cX6_allBeds 22 = .ok (.iinc 2 1, 3) := by decide +kernel
theorem dX6_allBeds_25 : decode cX6_allBeds 25 = .ok (.goto (-21), 3) := by decide +kernel
theorem dX6_allBeds_28 : decode cX6_allBeds 28 = .ok (.iload_n 1, 1) := by decide +kernel
theorem dX6_allBeds_29 : decode cX6_allBeds 29 = .ok (.ireturn, 1) := by decide +kernel
theorem dX6_bookedIn_0 : decode cX6_bookedIn 0 = .ok (.iconst 0, 1) := by decide +kernel
theorem dX6_bookedIn_1 : decode cX6_bookedIn 1 = .ok (.istore_n 2, 1) := by decide +kernel
theorem dX6_bookedIn_2 : decode cX6_bookedIn 2 = .ok (.iconst 0, 1) := by decide +kernel
theorem dX6_bookedIn_3 : decode cX6_bookedIn 3 = .ok (.istore_n 3, 1) := by decide +kernel
theorem dX6_bookedIn_4 : decode cX6_bookedIn 4 = .ok (.iload_n 3, 1) := by decide +kernel
theorem dX6_bookedIn_5 : decode cX6_bookedIn 5 = .ok (.aload_n 0, 1) := by decide +kernel
theorem dX6_bookedIn_6 : decode cX6_bookedIn 6 = .ok (.bipush 37, 2) := by decide +kernel
theorem dX6_bookedIn_8 : decode cX6_bookedIn 8 = .ok (.invokevirtual 69, 3) := by decide +kernel
theorem dX6_bookedIn_11 : decode cX6_bookedIn 11 = .ok (.if_icmp .ge 41, 3) := by decide +kernel
theorem dX6_bookedIn_14 : decode cX6_bookedIn 14 = .ok (.iload_n 2, 1) := by decide +kernel
theorem dX6_bookedIn_15 : decode cX6_bookedIn 15 = .ok (.aload_n 0, 1) := by decide +kernel
theorem dX6_bookedIn_16 : decode cX6_bookedIn 16 = .ok (.iload_n 3, 1) := by decide +kernel
theorem dX6_bookedIn_17 : decode cX6_bookedIn 17 = .ok (.bipush 8, 2) := by decide +kernel
theorem dX6_bookedIn_19 : decode cX6_bookedIn 19 = .ok (.invokevirtual 77, 3) := by decide +kernel
theorem dX6_bookedIn_22 : decode cX6_bookedIn 22 = .ok (.iconst 1, 1) := by decide +kernel
theorem dX6_bookedIn_23 : decode cX6_bookedIn 23 = .ok (.if_icmp .ne 20, 3) := by decide +kernel
theorem dX6_bookedIn_26 : decode cX6_bookedIn 26 = .ok (.aload_n 0, 1) := by decide +kernel
theorem dX6_bookedIn_27 : decode cX6_bookedIn 27 = .ok (.iload_n 3, 1) := by decide +kernel
theorem dX6_bookedIn_28 : decode cX6_bookedIn 28 = .ok (.iload_n 1, 1) := by decide +kernel
theorem dX6_bookedIn_29 : decode cX6_bookedIn 29 = .ok (.invokevirtual 235, 3) := by decide +kernel
theorem dX6_bookedIn_32 : decode cX6_bookedIn 32 = .ok (.ifCond .eq 11, 3) := by decide +kernel
theorem dX6_bookedIn_35 : decode cX6_bookedIn 35 = .ok (.aload_n 0, 1) := by decide +kernel
theorem dX6_bookedIn_36 : decode cX6_bookedIn 36 = .ok (.iload_n 3, 1) := by decide +kernel
theorem dX6_bookedIn_37 : decode cX6_bookedIn 37 = .ok (.invokevirtual 239, 3) := by decide +kernel
theorem dX6_bookedIn_40 : decode cX6_bookedIn 40 = .ok (.goto 4, 3) := by decide +kernel
theorem dX6_bookedIn_43 : decode cX6_bookedIn 43 = .ok (.iconst 0, 1) := by decide +kernel
theorem dX6_bookedIn_44 : decode cX6_bookedIn 44 = .ok (.iadd, 1) := by decide +kernel
theorem dX6_bookedIn_45 : decode cX6_bookedIn 45 = .ok (.istore_n 2, 1) := by decide +kernel
theorem dX6_bookedIn_46 : decode cX6_bookedIn 46 = .ok (.iinc 3 1, 3) := by decide +kernel
theorem dX6_bookedIn_49 : decode cX6_bookedIn 49 = .ok (.goto (-45), 3) := by decide +kernel
theorem dX6_bookedIn_52 : decode cX6_bookedIn 52 = .ok (.iload_n 2, 1) := by decide +kernel
theorem dX6_bookedIn_53 : decode cX6_bookedIn 53 = .ok (.ireturn, 1) := by decide +kernel
theorem dX6_canBeAccepted_0 : decode cX6_canBeAccepted 0 = .ok (.aload_n 0, 1) := by decide +kernel
theorem dX6_canBeAccepted_1 : decode cX6_canBeAccepted 1 = .ok (.invokevirtual 242, 3) := by decide +kernel
theorem dX6_canBeAccepted_4 : decode cX6_canBeAccepted 4 = .ok (.bipush 100, 2) := by decide +kernel
theorem dX6_canBeAccepted_6 : decode cX6_canBeAccepted 6 = .ok (.aload_n 0, 1) := by decide +kernel
theorem dX6_canBeAccepted_7 : decode cX6_canBeAccepted 7 = .ok (.iconst 0, 1) := by decide +kernel
theorem dX6_canBeAccepted_8 : decode cX6_canBeAccepted 8 = .ok (.invokevirtual 69, 3) := by decide +kernel
theorem dX6_canBeAccepted_11 : decode cX6_canBeAccepted 11 = .ok (.iadd, 1) := by decide +kernel
theorem dX6_canBeAccepted_12 : decode cX6_canBeAccepted 12 = .ok (.imul, 1) := by decide +kernel
theorem dX6_canBeAccepted_13 : decode cX6_canBeAccepted 13 = .ok (.bipush 100, 2) := by decide +kernel
theorem dX6_canBeAccepted_15 : decode cX6_canBeAccepted 15 = .ok (.idiv, 1) := by decide +kernel
theorem dX6_canBeAccepted_16 : decode cX6_canBeAccepted 16 = .ok (.istore_n 2, 1) := by decide +kernel
theorem dX6_canBeAccepted_17 : decode cX6_canBeAccepted 17 = .ok (.iconst 0, 1) := by decide +kernel
theorem dX6_canBeAccepted_18 : decode cX6_canBeAccepted 18 = .ok (.istore_n 3, 1) := by decide +kernel
theorem dX6_canBeAccepted_19 : decode cX6_canBeAccepted 19 = .ok (.iload_n 3, 1) := by decide +kernel
theorem dX6_canBeAccepted_20 : decode cX6_canBeAccepted 20 = .ok (.bipush 30, 2) := by decide +kernel
theorem dX6_canBeAccepted_22 : decode cX6_canBeAccepted 22 = .ok (.if_icmp .ge 35, 3) := by decide +kernel
theorem dX6_canBeAccepted_25 : decode cX6_canBeAccepted 25 = .ok (.aload_n 0, 1) := by decide +kernel
theorem dX6_canBeAccepted_26 : decode cX6_canBeAccepted 26 = .ok (.iload_n 1, 1) := by decide +kernel
theorem dX6_canBeAccepted_27 : decode cX6_canBeAccepted 27 = .ok (.iload_n 3, 1) := by decide +kernel
theorem dX6_canBeAccepted_28 : decode cX6_canBeAccepted 28 = .ok (.invokevirtual 235, 3) := by decide +kernel
theorem dX6_canBeAccepted_31 : decode cX6_canBeAccepted 31 = .ok (.ifCond .eq 20, 3) := by decide +kernel
theorem dX6_canBeAccepted_34 : decode cX6_canBeAccepted 34 = .ok (.aload_n 0, 1) := by decide +kernel
theorem dX6_canBeAccepted_35 : decode cX6_canBeAccepted 35 = .ok (.iload_n 3, 1) := by decide +kernel
theorem dX6_canBeAccepted_36 : decode cX6_canBeAccepted 36 = .ok (.invokevirtual 245, 3) := by decide +kernel
theorem dX6_canBeAccepted_39 : decode cX6_canBeAccepted 39 = .ok (.aload_n 0, 1) := by decide +kernel
theorem dX6_canBeAccepted_40 : decode cX6_canBeAccepted 40 = .ok (.iload_n 1, 1) := by decide +kernel
theorem dX6_canBeAccepted_41 : decode cX6_canBeAccepted 41 = .ok (.invokevirtual 239, 3) := by decide +kernel
theorem dX6_canBeAccepted_44 : decode cX6_canBeAccepted 44 = .ok (.iadd, 1) := by decide +kernel
theorem dX6_canBeAccepted_45 : decode cX6_canBeAccepted 45 = .ok (.iload_n 2, 1) := by decide +kernel
theorem dX6_canBeAccepted_46 : decode cX6_canBeAccepted 46 = .ok (.if_icmp .le 5, 3) := by decide +kernel
theorem dX6_canBeAccepted_49 : decode cX6_canBeAccepted 49 = .ok (.iconst 0, 1) := by decide +kernel
theorem dX6_canBeAccepted_50 : decode cX6_canBeAccepted 50 = .ok (.ireturn, 1) := by decide +kernel
theorem dX6_canBeAccepted_51 : decode cX6_canBeAccepted 51 = .ok (.iinc 3 1, 3) := by decide +kernel
theorem dX6_canBeAccepted_54 : decode cX6_canBeAccepted 54 = .ok (.goto (-35), 3) := by decide +kernel
theorem dX6_canBeAccepted_57 : decode cX6_canBeAccepted 57 = .ok (.iconst 1, 1) := by decide +kernel
theorem dX6_canBeAccepted_58 : decode cX6_canBeAccepted 58 = .ok (.ireturn, 1) := by decide +kernel
theorem dX6_laysBooking_0 : decode cX6_laysBooking 0 = .ok (.aload_n 0, 1) := by decide +kernel
theorem dX6_laysBooking_1 : decode cX6_laysBooking 1 = .ok (.bipush 37, 2) := by decide +kernel
theorem dX6_laysBooking_3 : decode cX6_laysBooking 3 = .ok (.invokevirtual 69, 3) := by decide +kernel
theorem dX6_laysBooking_6 : decode cX6_laysBooking 6 = .ok (.istore 7, 2) := by decide +kernel
theorem dX6_laysBooking_8 : decode cX6_laysBooking 8 = .ok (.aload_n 0, 1) := by decide +kernel
theorem dX6_laysBooking_9 : decode cX6_laysBooking 9 = .ok (.iload 7, 2) := by decide +kernel
theorem dX6_laysBooking_11 : decode cX6_laysBooking 11 = .ok (.iconst 0, 1) := by decide +kernel
theorem dX6_laysBooking_12 : decode cX6_laysBooking 12 = .ok (.iload_n 1, 1) := by decide +kernel
theorem dX6_laysBooking_13 : decode cX6_laysBooking 13 = .ok (.invokevirtual 201, 3) := by decide +kernel
theorem dX6_laysBooking_16 : decode cX6_laysBooking 16 = .ok (.aload_n 0, 1) := by decide +kernel
theorem dX6_laysBooking_17 : decode cX6_laysBooking 17 = .ok (.iload 7, 2) := by decide +kernel
theorem dX6_laysBooking_19 : decode cX6_laysBooking 19 = .ok (.iconst 1, 1) := by decide +kernel
theorem dX6_laysBooking_20 : decode cX6_laysBooking 20 = .ok (.iload_n 2, 1) := by decide +kernel
theorem dX6_laysBooking_21 : decode cX6_laysBooking 21 = .ok (.invokevirtual 201, 3) := by decide +kernel
theorem dX6_laysBooking_24 : decode cX6_laysBooking 24 = .ok (.aload_n 0, 1) := by decide +kernel
theorem dX6_laysBooking_25 : decode cX6_laysBooking 25 = .ok (.iload 7, 2) := by decide +kernel
theorem dX6_laysBooking_27 : decode cX6_laysBooking 27 = .ok (.iconst 2, 1) := by decide +kernel
theorem dX6_laysBooking_28 : decode cX6_laysBooking 28 = .ok (.iload_n 3, 1) := by decide +kernel
theorem dX6_laysBooking_29 : decode cX6_laysBooking 29 = .ok (.invokevirtual 201, 3) := by decide +kernel
theorem dX6_laysBooking_32 : decode cX6_laysBooking 32 = .ok (.aload_n 0, 1) := by decide +kernel
theorem dX6_laysBooking_33 : decode cX6_laysBooking 33 = .ok (.iload 7, 2) := by decide +kernel
theorem dX6_laysBooking_35 : decode cX6_laysBooking 35 = .ok (.iconst 3, 1) := by decide +kernel
theorem dX6_laysBooking_36 : decode cX6_laysBooking 36 = .ok (.iload 4, 2) := by decide +kernel
theorem dX6_laysBooking_38 : decode cX6_laysBooking 38 = .ok (.invokevirtual 201, 3) := by decide +kernel
theorem dX6_laysBooking_41 : decode cX6_laysBooking 41 = .ok (.aload_n 0, 1) := by decide +kernel
theorem dX6_laysBooking_42 : decode cX6_laysBooking 42 = .ok (.iload 7, 2) := by decide +kernel
theorem dX6_laysBooking_44 : decode cX6_laysBooking 44 = .ok (.iconst 4, 1) := by decide +kernel
theorem dX6_laysBooking_45 : decode cX6_laysBooking 45 = .ok (.iload 5, 2) := by decide +kernel
theorem dX6_laysBooking_47 : decode cX6_laysBooking 47 = .ok (.invokevirtual 201, 3) := by decide +kernel
theorem dX6_laysBooking_50 : decode cX6_laysBooking 50 = .ok (.aload_n 0, 1) := by decide +kernel
theorem dX6_laysBooking_51 : decode cX6_laysBooking 51 = .ok (.iload 7, 2) := by decide +kernel
theorem dX6_laysBooking_53 : decode cX6_laysBooking 53 = .ok (.iconst 5, 1) := by decide +kernel
theorem dX6_laysBooking_54 : decode cX6_laysBooking 54 = .ok (.iload 6, 2) := by decide +kernel
theorem dX6_laysBooking_56 : decode cX6_laysBooking 56 = .ok (.invokevirtual 201, 3) := by decide +kernel
theorem dX6_laysBooking_59 : decode cX6_laysBooking 59 = .ok (.aload_n 0, 1) := by decide +kernel
theorem dX6_laysBooking_60 : decode cX6_laysBooking 60 = .ok (.iload 7, 2) := by decide +kernel
theorem dX6_laysBooking_62 : decode cX6_laysBooking 62 = .ok (.bipush 6, 2) := by decide +kernel
theorem dX6_laysBooking_64 : decode cX6_laysBooking 64 = .ok (.iconst 0, 1) := by decide +kernel
theorem dX6_laysBooking_65 : decode cX6_laysBooking 65 = .ok (.invokevirtual 201, 3) := by decide +kernel
theorem dX6_laysBooking_68 : decode cX6_laysBooking 68 = .ok (.aload_n 0, 1) := by decide +kernel
theorem dX6_laysBooking_69 : decode cX6_laysBooking 69 = .ok (.iload 7, 2) := by decide +kernel
theorem dX6_laysBooking_71 : decode cX6_laysBooking 71 = .ok (.bipush 7, 2) := by decide +kernel
theorem dX6_laysBooking_73 : decode cX6_laysBooking 73 = .ok (.iconst 0, 1) := by decide +kernel
theorem dX6_laysBooking_74 : decode cX6_laysBooking 74 = .ok (.invokevirtual 201, 3) := by decide +kernel
theorem dX6_laysBooking_77 : decode cX6_laysBooking 77 = .ok (.aload_n 0, 1) := by decide +kernel
theorem dX6_laysBooking_78 : decode cX6_laysBooking 78 = .ok (.iload 7, 2) := by decide +kernel
theorem dX6_laysBooking_80 : decode cX6_laysBooking 80 = .ok (.bipush 8, 2) := by decide +kernel
theorem dX6_laysBooking_82 : decode cX6_laysBooking 82 = .ok (.iconst 0, 1) := by decide +kernel
theorem dX6_laysBooking_83 : decode cX6_laysBooking 83 = .ok (.invokevirtual 201, 3) := by decide +kernel
theorem dX6_laysBooking_86 : decode cX6_laysBooking 86 = .ok (.aload_n 0, 1) := by decide +kernel
theorem dX6_laysBooking_87 : decode cX6_laysBooking 87 = .ok (.bipush 37, 2) := by decide +kernel
theorem dX6_laysBooking_89 : decode cX6_laysBooking 89 = .ok (.iload 7, 2) := by decide +kernel
theorem dX6_laysBooking_91 : decode cX6_laysBooking 91 = .ok (.iconst 1, 1) := by decide +kernel
theorem dX6_laysBooking_92 : decode cX6_laysBooking 92 = .ok (.iadd, 1) := by decide +kernel
theorem dX6_laysBooking_93 : decode cX6_laysBooking 93 = .ok (.invokevirtual 73, 3) := by decide +kernel
theorem dX6_laysBooking_96 : decode cX6_laysBooking 96 = .ok (.return_, 1) := by decide +kernel
theorem dX6_waits_0 : decode cX6_waits 0 = .ok (.aload_n 0, 1) := by decide +kernel
theorem dX6_waits_1 : decode cX6_waits 1 = .ok (.sipush 192, 3) := by decide +kernel
theorem dX6_waits_4 : decode cX6_waits 4 = .ok (.aload_n 0, 1) := by decide +kernel
theorem dX6_waits_5 : decode cX6_waits 5 = .ok (.sipush 191, 3) := by decide +kernel
theorem dX6_waits_8 : decode cX6_waits 8 = .ok (.invokevirtual 69, 3) := by decide +kernel
theorem dX6_waits_11 : decode cX6_waits 11 = .ok (.iadd, 1) := by decide +kernel
theorem dX6_waits_12 : decode cX6_waits 12 = .ok (.iload_n 1, 1) := by decide +kernel
theorem dX6_waits_13 : decode cX6_waits 13 = .ok (.invokevirtual 73, 3) := by decide +kernel
theorem dX6_waits_16 : decode cX6_waits 16 = .ok (.aload_n 0, 1) := by decide +kernel
theorem dX6_waits_17 : decode cX6_waits 17 = .ok (.sipush 191, 3) := by decide +kernel
theorem dX6_waits_20 : decode cX6_waits 20 = .ok (.aload_n 0, 1) := by decide +kernel
theorem dX6_waits_21 : decode cX6_waits 21 = .ok (.sipush 191, 3) := by decide +kernel
theorem dX6_waits_24 : decode cX6_waits 24 = .ok (.invokevirtual 69, 3) := by decide +kernel
theorem dX6_waits_27 : decode cX6_waits 27 = .ok (.iconst 1, 1) := by decide +kernel
theorem dX6_waits_28 : decode cX6_waits 28 = .ok (.iadd, 1) := by decide +kernel
theorem dX6_waits_29 : decode cX6_waits 29 = .ok (.invokevirtual 73, 3) := by decide +kernel
theorem dX6_waits_32 : decode cX6_waits 32 = .ok (.return_, 1) := by decide +kernel
theorem dX6_comes_0 : decode cX6_comes 0 = .ok (.aload_n 0, 1) := by decide +kernel
theorem dX6_comes_1 : decode cX6_comes 1 = .ok (.iload_n 1, 1) := by decide +kernel
theorem dX6_comes_2 : decode cX6_comes 2 = .ok (.invokevirtual 248, 3) := by decide +kernel
theorem dX6_comes_5 : decode cX6_comes 5 = .ok (.ifCond .eq 14, 3) := by decide +kernel
theorem dX6_comes_8 : decode cX6_comes 8 = .ok (.aload_n 0, 1) := by decide +kernel
theorem dX6_comes_9 : decode cX6_comes 9 = .ok (.iload_n 1, 1) := by decide +kernel
theorem dX6_comes_10 : decode cX6_comes 10 = .ok (.bipush 8, 2) := by decide +kernel
theorem dX6_comes_12 : decode cX6_comes 12 = .ok (.iconst 1, 1) := by decide +kernel
theorem dX6_comes_13 : decode cX6_comes 13 = .ok (.invokevirtual 201, 3) := by decide +kernel
theorem dX6_comes_16 : decode cX6_comes 16 = .ok (.goto 8, 3) := by decide +kernel
theorem dX6_comes_19 : decode cX6_comes 19 = .ok (.aload_n 0, 1) := by decide +kernel
theorem dX6_comes_20 : decode cX6_comes 20 = .ok (.iload_n 1, 1) := by decide +kernel
theorem dX6_comes_21 : decode cX6_comes 21 = .ok (.invokevirtual 251, 3) := by decide +kernel
theorem dX6_comes_24 : decode cX6_comes 24 = .ok (.return_, 1) := by decide +kernel
theorem dX6_goesThrough_0 : decode cX6_goesThrough 0 = .ok (.aload_n 0, 1) := by decide +kernel
theorem dX6_goesThrough_1 : decode cX6_goesThrough 1 = .ok (.sipush 191, 3) := by decide +kernel
theorem dX6_goesThrough_4 : decode cX6_goesThrough 4 = .ok (.invokevirtual 69, 3) := by decide +kernel
theorem dX6_goesThrough_7 : decode cX6_goesThrough 7 = .ok (.istore_n 1, 1) := by decide +kernel
theorem dX6_goesThrough_8 : decode cX6_goesThrough 8 = .ok (.iconst 0, 1) := by decide +kernel
theorem dX6_goesThrough_9 : decode cX6_goesThrough 9 = .ok (.istore_n 2, 1) := by decide +kernel
theorem dX6_goesThrough_10 : decode cX6_goesThrough 10 = .ok (.iconst 0, 1) := by decide +kernel
theorem dX6_goesThrough_11 : decode cX6_goesThrough 11 = .ok (.istore_n 3, 1) := by decide +kernel
theorem dX6_goesThrough_12 : decode cX6_goesThrough 12 = .ok (.iload_n 3, 1) := by decide +kernel
theorem dX6_goesThrough_13 : decode cX6_goesThrough 13 = .ok (.iload_n 1, 1) := by decide +kernel
theorem dX6_goesThrough_14 : decode cX6_goesThrough 14 = .ok (.if_icmp .ge 55, 3) := by decide +kernel
theorem dX6_goesThrough_17 : decode cX6_goesThrough 17 = .ok (.aload_n 0, 1) := by decide +kernel
theorem dX6_goesThrough_18 : decode cX6_goesThrough 18 = .ok (.sipush 192, 3) := by decide +kernel
theorem dX6_goesThrough_21 : decode cX6_goesThrough 21 = .ok (.iload_n 3, 1) := by decide +kernel
theorem dX6_goesThrough_22 : decode cX6_goesThrough 22 = .ok (.iadd, 1) := by decide +kernel
theorem dX6_goesThrough_23 : decode cX6_goesThrough 23 = .ok (.invokevirtual 69, 3) := by decide +kernel
theorem dX6_goesThrough_26 : decode cX6_goesThrough 26 = .ok (.istore 4, 2) := by decide +kernel
theorem dX6_goesThrough_28 : decode cX6_goesThrough 28 = .ok (.aload_n 0, 1) := by decide +kernel
theorem dX6_goesThrough_29 : decode cX6_goesThrough 29 = .ok (.iload 4, 2) := by decide +kernel
theorem dX6_goesThrough_31 : decode cX6_goesThrough 31 = .ok (.invokevirtual 248, 3) := by decide +kernel
theorem dX6_goesThrough_34 : decode cX6_goesThrough 34 = .ok (.ifCond .eq 15, 3) := by decide +kernel
theorem dX6_goesThrough_37 : decode cX6_goesThrough 37 = .ok (.aload_n 0, 1) := by decide +kernel
theorem dX6_goesThrough_38 : decode cX6_goesThrough 38 = .ok (.iload 4, 2) := by decide +kernel
theorem dX6_goesThrough_40 : decode cX6_goesThrough 40 = .ok (.bipush 8, 2) := by decide +kernel
theorem dX6_goesThrough_42 : decode cX6_goesThrough 42 = .ok (.iconst 1, 1) := by decide +kernel
theorem dX6_goesThrough_43 : decode cX6_goesThrough 43 = .ok (.invokevirtual 201, 3) := by decide +kernel
theorem dX6_goesThrough_46 : decode cX6_goesThrough 46 = .ok (.goto 17, 3) := by decide +kernel
theorem dX6_goesThrough_49 : decode cX6_goesThrough 49 = .ok (.aload_n 0, 1) := by decide +kernel
theorem dX6_goesThrough_50 : decode cX6_goesThrough 50 = .ok (.sipush 192, 3) := by decide +kernel
theorem dX6_goesThrough_53 : decode cX6_goesThrough 53 = .ok (.iload_n 2, 1) := by decide +kernel
theorem dX6_goesThrough_54 : decode cX6_goesThrough 54 = .ok (.iadd, 1) := by decide +kernel
theorem dX6_goesThrough_55 : decode cX6_goesThrough 55 = .ok (.iload 4, 2) := by decide +kernel
theorem dX6_goesThrough_57 : decode cX6_goesThrough 57 = .ok (.invokevirtual 73, 3) := by decide +kernel
theorem dX6_goesThrough_60 : decode cX6_goesThrough 60 = .ok (.iinc 2 1, 3) := by decide +kernel
theorem dX6_goesThrough_63 : decode cX6_goesThrough 63 = .ok (.iinc 3 1, 3) := by decide +kernel
theorem dX6_goesThrough_66 : decode cX6_goesThrough 66 = .ok (.goto (-54), 3) := by decide +kernel
theorem dX6_goesThrough_69 : decode cX6_goesThrough 69 = .ok (.aload_n 0, 1) := by decide +kernel
theorem dX6_goesThrough_70 : decode cX6_goesThrough 70 = .ok (.sipush 191, 3) := by decide +kernel
theorem dX6_goesThrough_73 : decode cX6_goesThrough 73 = .ok (.iload_n 2, 1) := by decide +kernel
theorem dX6_goesThrough_74 : decode cX6_goesThrough 74 = .ok (.invokevirtual 73, 3) := by decide +kernel
theorem dX6_goesThrough_77 : decode cX6_goesThrough 77 = .ok (.iload_n 1, 1) := by decide +kernel
theorem dX6_goesThrough_78 : decode cX6_goesThrough 78 = .ok (.iload_n 2, 1) := by decide +kernel
theorem dX6_goesThrough_79 : decode cX6_goesThrough 79 = .ok (.isub, 1) := by decide +kernel
theorem dX6_goesThrough_80 : decode cX6_goesThrough 80 = .ok (.ireturn, 1) := by decide +kernel
theorem dX6_cancels_0 : decode cX6_cancels 0 = .ok (.aload_n 0, 1) := by decide +kernel
theorem dX6_cancels_1 : decode cX6_cancels 1 = .ok (.iload_n 1, 1) := by decide +kernel
theorem dX6_cancels_2 : decode cX6_cancels 2 = .ok (.bipush 8, 2) := by decide +kernel
theorem dX6_cancels_4 : decode cX6_cancels 4 = .ok (.iconst 2, 1) := by decide +kernel
theorem dX6_cancels_5 : decode cX6_cancels 5 = .ok (.invokevirtual 201, 3) := by decide +kernel
theorem dX6_cancels_8 : decode cX6_cancels 8 = .ok (.iconst 0, 1) := by decide +kernel
theorem dX6_cancels_9 : decode cX6_cancels 9 = .ok (.istore_n 2, 1) := by decide +kernel
theorem dX6_cancels_10 : decode cX6_cancels 10 = .ok (.iconst 0, 1) := by decide +kernel
theorem dX6_cancels_11 : decode cX6_cancels 11 = .ok (.istore_n 3, 1) := by decide +kernel
theorem dX6_cancels_12 : decode cX6_cancels 12 = .ok (.iload_n 3, 1) := by decide +kernel
theorem dX6_cancels_13 : decode cX6_cancels 13 = .ok (.aload_n 0, 1) := by decide +kernel
theorem dX6_cancels_14 : decode cX6_cancels 14 = .ok (.sipush 191, 3) := by decide +kernel
theorem dX6_cancels_17 : decode cX6_cancels 17 = .ok (.invokevirtual 69, 3) := by decide +kernel
theorem dX6_cancels_20 : decode cX6_cancels 20 = .ok (.if_icmp .ge 46, 3) := by decide +kernel
theorem dX6_cancels_23 : decode cX6_cancels 23 = .ok (.aload_n 0, 1) := by decide +kernel
theorem dX6_cancels_24 : decode cX6_cancels 24 = .ok (.sipush 192, 3) := by decide +kernel
theorem dX6_cancels_27 : decode cX6_cancels 27 = .ok (.iload_n 3, 1) := by decide +kernel
theorem dX6_cancels_28 : decode cX6_cancels 28 = .ok (.iadd, 1) := by decide +kernel
theorem dX6_cancels_29 : decode cX6_cancels 29 = .ok (.invokevirtual 69, 3) := by decide +kernel
theorem dX6_cancels_32 : decode cX6_cancels 32 = .ok (.iload_n 1, 1) := by decide +kernel
theorem dX6_cancels_33 : decode cX6_cancels 33 = .ok (.if_icmp .ne 6, 3) := by decide +kernel
theorem dX6_cancels_36 : decode cX6_cancels 36 = .ok (.goto 24, 3) := by decide +kernel
theorem dX6_cancels_39 : decode cX6_cancels 39 = .ok (.aload_n 0, 1) := by decide +kernel
theorem dX6_cancels_40 : decode cX6_cancels 40 = .ok (.sipush 192, 3) := by decide +kernel
theorem dX6_cancels_43 : decode cX6_cancels 43 = .ok (.iload_n 2, 1) := by decide +kernel
theorem dX6_cancels_44 : decode cX6_cancels 44 = .ok (.iadd, 1) := by decide +kernel
theorem dX6_cancels_45 : decode cX6_cancels 45 = .ok (.aload_n 0, 1) := by decide +kernel
theorem dX6_cancels_46 : decode cX6_cancels 46 = .ok (.sipush 192, 3) := by decide +kernel
theorem dX6_cancels_49 : decode cX6_cancels 49 = .ok (.iload_n 3, 1) := by decide +kernel
theorem dX6_cancels_50 : decode cX6_cancels 50 = .ok (.iadd, 1) := by decide +kernel
theorem dX6_cancels_51 : decode cX6_cancels 51 = .ok (.invokevirtual 69, 3) := by decide +kernel
theorem dX6_cancels_54 : decode cX6_cancels 54 = .ok (.invokevirtual 73, 3) := by decide +kernel
theorem dX6_cancels_57 : decode cX6_cancels 57 = .ok (.iinc 2 1, 3) := by decide +kernel
theorem dX6_cancels_60 : decode cX6_cancels 60 = .ok (.iinc 3 1, 3) := by decide +kernel
theorem dX6_cancels_63 : decode cX6_cancels 63 = .ok (.goto (-51), 3) := by decide +kernel
theorem dX6_cancels_66 : decode cX6_cancels 66 = .ok (.aload_n 0, 1) := by decide +kernel
theorem dX6_cancels_67 : decode cX6_cancels 67 = .ok (.sipush 191, 3) := by decide +kernel
theorem dX6_cancels_70 : decode cX6_cancels 70 = .ok (.iload_n 2, 1) := by decide +kernel
theorem dX6_cancels_71 : decode cX6_cancels 71 = .ok (.invokevirtual 73, 3) := by decide +kernel
theorem dX6_cancels_74 : decode cX6_cancels 74 = .ok (.aload_n 0, 1) := by decide +kernel
theorem dX6_cancels_75 : decode cX6_cancels 75 = .ok (.invokevirtual 254, 3) := by decide +kernel
theorem dX6_cancels_78 : decode cX6_cancels 78 = .ok (.ireturn, 1) := by decide +kernel
theorem dX6_inState_0 : decode cX6_inState 0 = .ok (.iconst 0, 1) := by decide +kernel
theorem dX6_inState_1 : decode cX6_inState 1 = .ok (.istore_n 2, 1) := by decide +kernel
theorem dX6_inState_2 : decode cX6_inState 2 = .ok (.iconst 0, 1) := by decide +kernel
theorem dX6_inState_3 : decode cX6_inState 3 = .ok (.istore_n 3, 1) := by decide +kernel
theorem dX6_inState_4 : decode cX6_inState 4 = .ok (.iload_n 3, 1) := by decide +kernel
theorem dX6_inState_5 : decode cX6_inState 5 = .ok (.aload_n 0, 1) := by decide +kernel
theorem dX6_inState_6 : decode cX6_inState 6 = .ok (.bipush 37, 2) := by decide +kernel
theorem dX6_inState_8 : decode cX6_inState 8 = .ok (.invokevirtual 69, 3) := by decide +kernel
theorem dX6_inState_11 : decode cX6_inState 11 = .ok (.if_icmp .ge 28, 3) := by decide +kernel
theorem dX6_inState_14 : decode cX6_inState 14 = .ok (.iload_n 2, 1) := by decide +kernel
theorem dX6_inState_15 : decode cX6_inState 15 = .ok (.aload_n 0, 1) := by decide +kernel
theorem dX6_inState_16 : decode cX6_inState 16 = .ok (.iload_n 3, 1) := by decide +kernel
theorem dX6_inState_17 : decode cX6_inState 17 = .ok (.bipush 8, 2) := by decide +kernel
theorem dX6_inState_19 : decode cX6_inState 19 = .ok (.invokevirtual 77, 3) := by decide +kernel
theorem dX6_inState_22 : decode cX6_inState 22 = .ok (.iload_n 1, 1) := by decide +kernel
theorem dX6_inState_23 : decode cX6_inState 23 = .ok (.if_icmp .ne 7, 3) := by decide +kernel
theorem dX6_inState_26 : decode cX6_inState 26 = .ok (.iconst 1, 1) := by decide +kernel
theorem dX6_inState_27 : decode cX6_inState 27 = .ok (.goto 4, 3) := by decide +kernel
theorem dX6_inState_30 : decode cX6_inState 30 = .ok (.iconst 0, 1) := by decide +kernel
theorem dX6_inState_31 : decode cX6_inState 31 = .ok (.iadd, 1) := by decide +kernel
theorem dX6_inState_32 : decode cX6_inState 32 = .ok (.istore_n 2, 1) := by decide +kernel
theorem dX6_inState_33 : decode cX6_inState 33 = .ok (.iinc 3 1, 3) := by decide +kernel
theorem dX6_inState_36 : decode cX6_inState 36 = .ok (.goto (-32), 3) := by decide +kernel
theorem dX6_inState_39 : decode cX6_inState 39 = .ok (.iload_n 2, 1) := by decide +kernel
theorem dX6_inState_40 : decode cX6_inState 40 = .ok (.ireturn, 1) := by decide +kernel
theorem dX6_count_0 : decode cX6_count 0 = .ok (.aload_n 0, 1) := by decide +kernel
theorem dX6_count_1 : decode cX6_count 1 = .ok (.iconst 0, 1) := by decide +kernel
theorem dX6_count_2 : decode cX6_count 2 = .ok (.putfield 63, 3) := by decide +kernel
theorem dX6_count_5 : decode cX6_count 5 = .ok (.iload_n 1, 1) := by decide +kernel
theorem dX6_count_6 : decode cX6_count 6 = .ok (.tableswitch 74 0 5 #[38, 44, 49, 56, 62, 68], 38) := by decide +kernel
theorem dX6_count_44 : decode cX6_count 44 = .ok (.aload_n 0, 1) := by decide +kernel
theorem dX6_count_45 : decode cX6_count 45 = .ok (.iconst 4, 1) := by decide +kernel
theorem dX6_count_46 : decode cX6_count 46 = .ok (.invokevirtual 69, 3) := by decide +kernel
theorem dX6_count_49 : decode cX6_count 49 = .ok (.ireturn, 1) := by decide +kernel
theorem dX6_count_50 : decode cX6_count 50 = .ok (.aload_n 0, 1) := by decide +kernel
theorem dX6_count_51 : decode cX6_count 51 = .ok (.invokevirtual 242, 3) := by decide +kernel
theorem dX6_count_54 : decode cX6_count 54 = .ok (.ireturn, 1) := by decide +kernel
theorem dX6_count_55 : decode cX6_count 55 = .ok (.aload_n 0, 1) := by decide +kernel
theorem dX6_count_56 : decode cX6_count 56 = .ok (.bipush 37, 2) := by decide +kernel
theorem dX6_count_58 : decode cX6_count 58 = .ok (.invokevirtual 69, 3) := by decide +kernel
theorem dX6_count_61 : decode cX6_count 61 = .ok (.ireturn, 1) := by decide +kernel
theorem dX6_count_62 : decode cX6_count 62 = .ok (.aload_n 0, 1) := by decide +kernel
theorem dX6_count_63 : decode cX6_count 63 = .ok (.iconst 0, 1) := by decide +kernel
theorem dX6_count_64 : decode cX6_count 64 = .ok (.invokevirtual 257, 3) := by decide +kernel
theorem dX6_count_67 : decode cX6_count 67 = .ok (.ireturn, 1) := by decide +kernel
theorem dX6_count_68 : decode cX6_count 68 = .ok (.aload_n 0, 1) := by decide +kernel
theorem dX6_count_69 : decode cX6_count 69 = .ok (.iconst 1, 1) := by decide +kernel
theorem dX6_count_70 : decode cX6_count 70 = .ok (.invokevirtual 257, 3) := by decide +kernel
theorem dX6_count_73 : decode cX6_count 73 = .ok (.ireturn, 1) := by decide +kernel
theorem dX6_count_74 : decode cX6_count 74 = .ok (.aload_n 0, 1) := by decide +kernel
theorem dX6_count_75 : decode cX6_count 75 = .ok (.iconst 2, 1) := by decide +kernel
theorem dX6_count_76 : decode cX6_count 76 = .ok (.invokevirtual 257, 3) := by decide +kernel
theorem dX6_count_79 : decode cX6_count 79 = .ok (.ireturn, 1) := by decide +kernel
theorem dX6_count_80 : decode cX6_count 80 = .ok (.aload_n 0, 1) := by decide +kernel
theorem dX6_count_81 : decode cX6_count 81 = .ok (.iconst 1, 1) := by decide +kernel
theorem dX6_count_82 : decode cX6_count 82 = .ok (.invokevirtual 95, 3) := by decide +kernel
theorem dX6_count_85 : decode cX6_count 85 = .ok (.ireturn, 1) := by decide +kernel
theorem dX6_setting_0 : decode cX6_setting 0 = .ok (.aload_n 0, 1) := by decide +kernel
theorem dX6_setting_1 : decode cX6_setting 1 = .ok (.iconst 0, 1) := by decide +kernel
theorem dX6_setting_2 : decode cX6_setting 2 = .ok (.putfield 63, 3) := by decide +kernel
theorem dX6_setting_5 : decode cX6_setting 5 = .ok (.iload_n 1, 1) := by decide +kernel
theorem dX6_setting_6 : decode cX6_setting 6 = .ok (.iconst 0, 1) := by decide +kernel
theorem dX6_setting_7 : decode cX6_setting 7 = .ok (.iconst 3, 1) := by decide +kernel
theorem dX6_setting_8 : decode cX6_setting 8 = .ok (.invokestatic 81, 3) := by decide +kernel
theorem dX6_setting_11 : decode cX6_setting 11 = .ok (.ifCond .eq 11, 3) := by decide +kernel
theorem dX6_setting_14 : decode cX6_setting 14 = .ok (.aload_n 0, 1) := by decide +kernel
theorem dX6_setting_15 : decode cX6_setting 15 = .ok (.iload_n 1, 1) := by decide +kernel
theorem dX6_setting_16 : decode cX6_setting 16 = .ok (.invokevirtual 69, 3) := by decide +kernel
theorem dX6_setting_19 : decode cX6_setting 19 = .ok (.goto 8, 3) := by decide +kernel
theorem dX6_setting_22 : decode cX6_setting 22 = .ok (.aload_n 0, 1) := by decide +kernel
theorem dX6_setting_23 : decode cX6_setting 23 = .ok (.iconst 1, 1) := by decide +kernel
theorem dX6_setting_24 : decode cX6_setting 24 = .ok (.invokevirtual 95, 3) := by decide +kernel
theorem dX6_setting_27 : decode cX6_setting 27 = .ok (.ireturn, 1) := by decide +kernel
theorem dX6_room_0 : decode cX6_room 0 = .ok (.aload_n 0, 1) := by decide +kernel
theorem dX6_room_1 : decode cX6_room 1 = .ok (.iconst 0, 1) := by decide +kernel
theorem dX6_room_2 : decode cX6_room 2 = .ok (.putfield 63, 3) := by decide +kernel
theorem dX6_room_5 : decode cX6_room 5 = .ok (.aload_n 0, 1) := by decide +kernel
theorem dX6_room_6 : decode cX6_room 6 = .ok (.iload_n 1, 1) := by decide +kernel
theorem dX6_room_7 : decode cX6_room 7 = .ok (.invokevirtual 85, 3) := by decide +kernel
theorem dX6_room_10 : decode cX6_room 10 = .ok (.ifCond .ne 9, 3) := by decide +kernel
theorem dX6_room_13 : decode cX6_room 13 = .ok (.aload_n 0, 1) := by decide +kernel
theorem dX6_room_14 : decode cX6_room 14 = .ok (.iconst 1, 1) := by decide +kernel
theorem dX6_room_15 : decode cX6_room 15 = .ok (.invokevirtual 95, 3) := by decide +kernel
theorem dX6_room_18 : decode cX6_room 18 = .ok (.ireturn, 1) := by decide +kernel
theorem dX6_room_19 : decode cX6_room 19 = .ok (.iload_n 2, 1) := by decide +kernel
theorem dX6_room_20 : decode cX6_room 20 = .ok (.iconst 0, 1) := by decide +kernel
theorem dX6_room_21 : decode cX6_room 21 = .ok (.iconst 3, 1) := by decide +kernel
theorem dX6_room_22 : decode cX6_room 22 = .ok (.invokestatic 81, 3) := by decide +kernel
theorem dX6_room_25 : decode cX6_room 25 = .ok (.ifCond .eq 12, 3) := by decide +kernel
theorem dX6_room_28 : decode cX6_room 28 = .ok (.aload_n 0, 1) := by decide +kernel
theorem dX6_room_29 : decode cX6_room 29 = .ok (.iload_n 1, 1) := by decide +kernel
theorem dX6_room_30 : decode cX6_room 30 = .ok (.iload_n 2, 1) := by decide +kernel
theorem dX6_room_31 : decode cX6_room 31 = .ok (.invokevirtual 89, 3) := by decide +kernel
theorem dX6_room_34 : decode cX6_room 34 = .ok (.goto 8, 3) := by decide +kernel
theorem dX6_room_37 : decode cX6_room 37 = .ok (.aload_n 0, 1) := by decide +kernel
theorem dX6_room_38 : decode cX6_room 38 = .ok (.iconst 2, 1) := by decide +kernel
theorem dX6_room_39 : decode cX6_room 39 = .ok (.invokevirtual 95, 3) := by decide +kernel
theorem dX6_room_42 : decode cX6_room 42 = .ok (.ireturn, 1) := by decide +kernel
theorem dX6_booking_0 : decode cX6_booking 0 = .ok (.aload_n 0, 1) := by decide +kernel
theorem dX6_booking_1 : decode cX6_booking 1 = .ok (.iconst 0, 1) := by decide +kernel
theorem dX6_booking_2 : decode cX6_booking 2 = .ok (.putfield 63, 3) := by decide +kernel
theorem dX6_booking_5 : decode cX6_booking 5 = .ok (.aload_n 0, 1) := by decide +kernel
theorem dX6_booking_6 : decode cX6_booking 6 = .ok (.iload_n 1, 1) := by decide +kernel
theorem dX6_booking_7 : decode cX6_booking 7 = .ok (.invokevirtual 260, 3) := by decide +kernel
theorem dX6_booking_10 : decode cX6_booking 10 = .ok (.ifCond .ne 9, 3) := by decide +kernel
theorem dX6_booking_13 : decode cX6_booking 13 = .ok (.aload_n 0, 1) := by decide +kernel
theorem dX6_booking_14 : decode cX6_booking 14 = .ok (.iconst 1, 1) := by decide +kernel
theorem dX6_booking_15 : decode cX6_booking 15 = .ok (.invokevirtual 95, 3) := by decide +kernel
theorem dX6_booking_18 : decode cX6_booking 18 = .ok (.ireturn, 1) := by decide +kernel
theorem dX6_booking_19 : decode cX6_booking 19 = .ok (.iload_n 2, 1) := by decide +kernel
theorem dX6_booking_20 : decode cX6_booking 20 = .ok (.iconst 0, 1) := by decide +kernel
theorem dX6_booking_21 : decode cX6_booking 21 = .ok (.bipush 7, 2) := by decide +kernel
theorem dX6_booking_23 : decode cX6_booking 23 = .ok (.invokestatic 81, 3) := by decide +kernel
theorem dX6_booking_26 : decode cX6_booking 26 = .ok (.ifCond .eq 12, 3) := by decide +kernel
theorem dX6_booking_29 : decode cX6_booking 29 = .ok (.aload_n 0, 1) := by decide +kernel
theorem dX6_booking_30 : decode cX6_booking 30 = .ok (.iload_n 1, 1) := by decide +kernel
theorem dX6_booking_31 : decode cX6_booking 31 = .ok (.iload_n 2, 1) := by decide +kernel
theorem dX6_booking_32 : decode cX6_booking 32 = .ok (.invokevirtual 77, 3) := by decide +kernel
theorem dX6_booking_35 : decode cX6_booking 35 = .ok (.goto 8, 3) := by decide +kernel
theorem dX6_booking_38 : decode cX6_booking 38 = .ok (.aload_n 0, 1) := by decide +kernel
theorem dX6_booking_39 : decode cX6_booking 39 = .ok (.iconst 2, 1) := by decide +kernel
theorem dX6_booking_40 : decode cX6_booking 40 = .ok (.invokevirtual 95, 3) := by decide +kernel
theorem dX6_booking_43 : decode cX6_booking 43 = .ok (.ireturn, 1) := by decide +kernel
theorem dX6_find_0 : decode cX6_find 0 = .ok (.aload_n 0, 1) := by decide +kernel
theorem dX6_find_1 : decode cX6_find 1 = .ok (.iconst 0, 1) := by decide +kernel
theorem dX6_find_2 : decode cX6_find 2 = .ok (.putfield 63, 3) := by decide +kernel
theorem dX6_find_5 : decode cX6_find 5 = .ok (.lconst 0, 1) := by decide +kernel
theorem dX6_find_6 : decode cX6_find 6 = .ok (.lstore_n 2, 1) := by decide +kernel
theorem dX6_find_7 : decode cX6_find 7 = .ok (.aload_n 0, 1) := by decide +kernel
theorem dX6_find_8 : decode cX6_find 8 = .ok (.getfield 92, 3) := by decide +kernel
theorem dX6_find_11 : decode cX6_find 11 = .ok (.iconst 1, 1) := by decide +kernel
theorem dX6_find_12 : decode cX6_find 12 = .ok (.bipush 8, 2) := by decide +kernel
theorem dX6_find_14 : decode cX6_find 14 = .ok (.invokestatic 81, 3) := by decide +kernel
theorem dX6_find_17 : decode cX6_find 17 = .ok (.istore 4, 2) := by decide +kernel
theorem dX6_find_19 : decode cX6_find 19 = .ok (.iconst 0, 1) := by decide +kernel
theorem dX6_find_20 : decode cX6_find 20 = .ok (.istore 5, 2) := by decide +kernel
theorem dX6_find_22 : decode cX6_find 22 = .ok (.iload 5, 2) := by decide +kernel
theorem dX6_find_24 : decode cX6_find 24 = .ok (.aload_n 0, 1) := by decide +kernel
theorem dX6_find_25 : decode cX6_find 25 = .ok (.getfield 92, 3) := by decide +kernel
theorem dX6_find_28 : decode cX6_find 28 = .ok (.if_icmp .ge 42, 3) := by decide +kernel
theorem dX6_find_31 : decode cX6_find 31 = .ok (.iload 4, 2) := by decide +kernel
theorem dX6_find_33 : decode cX6_find 33 = .ok (.ifCond .eq 37, 3) := by decide +kernel
theorem dX6_find_36 : decode cX6_find 36 = .ok (.aload_n 0, 1) := by decide +kernel
theorem dX6_find_37 : decode cX6_find 37 = .ok (.getfield 26, 3) := by decide +kernel
theorem dX6_find_40 : decode cX6_find 40 = .ok (.iload 5, 2) := by decide +kernel
theorem dX6_find_42 : decode cX6_find 42 = .ok (.baload, 1) := by decide +kernel
theorem dX6_find_43 : decode cX6_find 43 = .ok (.bipush 97, 2) := by decide +kernel
theorem dX6_find_45 : decode cX6_find 45 = .ok (.bipush 122, 2) := by decide +kernel
theorem dX6_find_47 : decode cX6_find 47 = .ok (.invokestatic 81, 3) := by decide +kernel
theorem dX6_find_50 : decode cX6_find 50 = .ok (.istore 4, 2) := by decide +kernel
theorem dX6_find_52 : decode cX6_find 52 = .ok (.lload_n 2, 1) := by decide +kernel
theorem dX6_find_53 : decode cX6_find 53 = .ok (.aload_n 0, 1) := by decide +kernel
theorem dX6_find_54 : decode cX6_find 54 = .ok (.getfield 26, 3) := by decide +kernel
theorem dX6_find_57 : decode cX6_find 57 = .ok (.iload 5, 2) := by decide +kernel
theorem dX6_find_59 : decode cX6_find 59 = .ok (.baload, 1) := by decide +kernel
theorem dX6_find_60 : decode cX6_find 60 = .ok (.invokestatic 155, 3) := by decide +kernel
theorem dX6_find_63 : decode cX6_find 63 = .ok (.lstore_n 2, 1) := by decide +kernel
theorem dX6_find_64 : decode cX6_find 64 = .ok (.iinc 5 1, 3) := by decide +kernel
theorem dX6_find_67 : decode cX6_find 67 = .ok (.goto (-45), 3) := by decide +kernel
theorem dX6_find_70 : decode cX6_find 70 = .ok (.iload 4, 2) := by decide +kernel
theorem dX6_find_72 : decode cX6_find 72 = .ok (.ifCond .ne 7, 3) := by decide +kernel
theorem dX6_find_75 : decode cX6_find 75 = .ok (.iconst (-1), 1) := by decide +kernel
theorem dX6_find_76 : decode cX6_find 76 = .ok (.goto 37, 3) := by decide +kernel
theorem dX6_find_79 : decode cX6_find 79 = .ok (.iload_n 1, 1) := by decide +kernel
theorem dX6_find_80 : decode cX6_find 80 = .ok (.ifCond .eq 19, 3) := by decide +kernel
theorem dX6_find_83 : decode cX6_find 83 = .ok (.lload_n 2, 1) := by decide +kernel
theorem dX6_find_84 : decode cX6_find 84 = .ok (.aload_n 0, 1) := by decide +kernel
theorem dX6_find_85 : decode cX6_find 85 = .ok (.getfield 13, 3) := by decide +kernel
theorem dX6_find_88 : decode cX6_find 88 = .ok (.aload_n 0, 1) := by decide +kernel
theorem dX6_find_89 : decode cX6_find 89 = .ok (.iconst 4, 1) := by decide +kernel
theorem dX6_find_90 : decode cX6_find 90 = .ok (.invokevirtual 69, 3) := by decide +kernel
theorem dX6_find_93 : decode cX6_find 93 = .ok (.invokestatic 183, 3) := by decide +kernel
theorem dX6_find_96 : decode cX6_find 96 = .ok (.goto 17, 3) := by decide +kernel
theorem dX6_find_99 : decode cX6_find 99 = .ok (.lload_n 2, 1) := by decide +kernel
theorem dX6_find_100 : decode cX6_find 100 = .ok (.aload_n 0, 1) := by decide +kernel
theorem dX6_find_101 : decode cX6_find 101 = .ok (.getfield 17, 3) := by decide +kernel
theorem dX6_find_104 : decode cX6_find 104 = .ok (.aload_n 0, 1) := by decide +kernel
theorem dX6_find_105 : decode cX6_find 105 = .ok (.bipush 37, 2) := by decide +kernel
theorem dX6_find_107 : decode cX6_find 107 = .ok (.invokevirtual 69, 3) := by decide +kernel
theorem dX6_find_110 : decode cX6_find 110 = .ok (.invokestatic 183, 3) := by decide +kernel
theorem dX6_find_113 : decode cX6_find 113 = .ok (.istore 5, 2) := by decide +kernel
theorem dX6_find_115 : decode cX6_find 115 = .ok (.iload 5, 2) := by decide +kernel
theorem dX6_find_117 : decode cX6_find 117 = .ok (.iconst (-1), 1) := by decide +kernel
theorem dX6_find_118 : decode cX6_find 118 = .ok (.if_icmp .ne 11, 3) := by decide +kernel
theorem dX6_find_121 : decode cX6_find 121 = .ok (.aload_n 0, 1) := by decide +kernel
theorem dX6_find_122 : decode cX6_find 122 = .ok (.iconst 1, 1) := by decide +kernel
theorem dX6_find_123 : decode cX6_find 123 = .ok (.invokevirtual 95, 3) := by decide +kernel
theorem dX6_find_126 : decode cX6_find 126 = .ok (.goto 5, 3) := by decide +kernel
theorem dX6_find_129 : decode cX6_find 129 = .ok (.iload 5, 2) := by decide +kernel
theorem dX6_find_131 : decode cX6_find 131 = .ok (.ireturn, 1) := by decide +kernel
theorem dX6_state_0 : decode cX6_state 0 = .ok (.aload_n 0, 1) := by decide +kernel
theorem dX6_state_1 : decode cX6_state 1 = .ok (.iconst 0, 1) := by decide +kernel
theorem dX6_state_2 : decode cX6_state 2 = .ok (.putfield 63, 3) := by decide +kernel
theorem dX6_state_5 : decode cX6_state 5 = .ok (.aload_n 0, 1) := by decide +kernel
theorem dX6_state_6 : decode cX6_state 6 = .ok (.iload_n 1, 1) := by decide +kernel
theorem dX6_state_7 : decode cX6_state 7 = .ok (.invokevirtual 260, 3) := by decide +kernel
theorem dX6_state_10 : decode cX6_state 10 = .ok (.ifCond .eq 13, 3) := by decide +kernel
theorem dX6_state_13 : decode cX6_state 13 = .ok (.aload_n 0, 1) := by decide +kernel
theorem dX6_state_14 : decode cX6_state 14 = .ok (.iload_n 1, 1) := by decide +kernel
theorem dX6_state_15 : decode cX6_state 15 = .ok (.bipush 8, 2) := by decide +kernel
theorem dX6_state_17 : decode cX6_state 17 = .ok (.invokevirtual 77, 3) := by decide +kernel
theorem dX6_state_20 : decode cX6_state 20 = .ok (.goto 8, 3) := by decide +kernel
theorem dX6_state_23 : decode cX6_state 23 = .ok (.aload_n 0, 1) := by decide +kernel
theorem dX6_state_24 : decode cX6_state 24 = .ok (.iconst 1, 1) := by decide +kernel
theorem dX6_state_25 : decode cX6_state 25 = .ok (.invokevirtual 95, 3) := by decide +kernel
theorem dX6_state_28 : decode cX6_state 28 = .ok (.ireturn, 1) := by decide +kernel
theorem dX6_waiting_0 : decode cX6_waiting 0 = .ok (.aload_n 0, 1) := by decide +kernel
theorem dX6_waiting_1 : decode cX6_waiting 1 = .ok (.iconst 0, 1) := by decide +kernel
theorem dX6_waiting_2 : decode cX6_waiting 2 = .ok (.putfield 63, 3) := by decide +kernel
theorem dX6_waiting_5 : decode cX6_waiting 5 = .ok (.iload_n 1, 1) := by decide +kernel
theorem dX6_waiting_6 : decode cX6_waiting 6 = .ok (.iconst 0, 1) := by decide +kernel
theorem dX6_waiting_7 : decode cX6_waiting 7 = .ok (.aload_n 0, 1) := by decide +kernel
theorem dX6_waiting_8 : decode cX6_waiting 8 = .ok (.sipush 191, 3) := by decide +kernel
theorem dX6_waiting_11 : decode cX6_waiting 11 = .ok (.invokevirtual 69, 3) := by decide +kernel
theorem dX6_waiting_14 : decode cX6_waiting 14 = .ok (.iconst 1, 1) := by decide +kernel
theorem dX6_waiting_15 : decode cX6_waiting 15 = .ok (.isub, 1) := by decide +kernel
theorem dX6_waiting_16 : decode cX6_waiting 16 = .ok (.invokestatic 81, 3) := by decide +kernel
theorem dX6_waiting_19 : decode cX6_waiting 19 = .ok (.ifCond .eq 15, 3) := by decide +kernel
theorem dX6_waiting_22 : decode cX6_waiting 22 = .ok (.aload_n 0, 1) := by decide +kernel
theorem dX6_waiting_23 : decode cX6_waiting 23 = .ok (.sipush 192, 3) := by decide +kernel
theorem dX6_waiting_26 : decode cX6_waiting 26 = .ok (.iload_n 1, 1) := by decide +kernel
theorem dX6_waiting_27 : decode cX6_waiting 27 = .ok (.iadd, 1) := by decide +kernel
theorem dX6_waiting_28 : decode cX6_waiting 28 = .ok (.invokevirtual 69, 3) := by decide +kernel
theorem dX6_waiting_31 : decode cX6_waiting 31 = .ok (.goto 8, 3) := by decide +kernel
theorem dX6_waiting_34 : decode cX6_waiting 34 = .ok (.aload_n 0, 1) := by decide +kernel
theorem dX6_waiting_35 : decode cX6_waiting 35 = .ok (.iconst 1, 1) := by decide +kernel
theorem dX6_waiting_36 : decode cX6_waiting 36 = .ok (.invokevirtual 95, 3) := by decide +kernel
theorem dX6_waiting_39 : decode cX6_waiting 39 = .ok (.ireturn, 1) := by decide +kernel
theorem dX6_spot_0 : decode cX6_spot 0 = .ok (.bipush 10, 2) := by decide +kernel
theorem dX6_spot_2 : decode cX6_spot 2 = .ok (.iload_n 0, 1) := by decide +kernel
theorem dX6_spot_3 : decode cX6_spot 3 = .ok (.imul, 1) := by decide +kernel
theorem dX6_spot_4 : decode cX6_spot 4 = .ok (.iload_n 1, 1) := by decide +kernel
theorem dX6_spot_5 : decode cX6_spot 5 = .ok (.iadd, 1) := by decide +kernel
theorem dX6_spot_6 : decode cX6_spot 6 = .ok (.bipush 30, 2) := by decide +kernel
theorem dX6_spot_8 : decode cX6_spot 8 = .ok (.imul, 1) := by decide +kernel
theorem dX6_spot_9 : decode cX6_spot 9 = .ok (.iload_n 2, 1) := by decide +kernel
theorem dX6_spot_10 : decode cX6_spot 10 = .ok (.iadd, 1) := by decide +kernel
theorem dX6_spot_11 : decode cX6_spot 11 = .ok (.ireturn, 1) := by decide +kernel
theorem dX6_isFreeFor_0 : decode cX6_isFreeFor 0 = .ok (.iconst 0, 1) := by decide +kernel
theorem dX6_isFreeFor_1 : decode cX6_isFreeFor 1 = .ok (.istore 4, 2) := by decide +kernel
theorem dX6_isFreeFor_3 : decode cX6_isFreeFor 3 = .ok (.iload 4, 2) := by decide +kernel
theorem dX6_isFreeFor_5 : decode cX6_isFreeFor 5 = .ok (.bipush 30, 2) := by decide +kernel
theorem dX6_isFreeFor_7 : decode cX6_isFreeFor 7 = .ok (.if_icmp .ge 37, 3) := by decide +kernel
theorem dX6_isFreeFor_10 : decode cX6_isFreeFor 10 = .ok (.aload_n 0, 1) := by decide +kernel
theorem dX6_isFreeFor_11 : decode cX6_isFreeFor 11 = .ok (.iload_n 1, 1) := by decide +kernel
theorem dX6_isFreeFor_12 : decode cX6_isFreeFor 12 = .ok (.iload 4, 2) := by decide +kernel
theorem dX6_isFreeFor_14 : decode cX6_isFreeFor 14 = .ok (.invokevirtual 235, 3) := by decide +kernel
theorem dX6_isFreeFor_17 : decode cX6_isFreeFor 17 = .ok (.ifCond .eq 21, 3) := by decide +kernel
theorem dX6_isFreeFor_20 : decode cX6_isFreeFor 20 = .ok (.aload_n 0, 1) := by decide +kernel
theorem dX6_isFreeFor_21 : decode cX6_isFreeFor 21 = .ok (.getfield 34, 3) := by decide +kernel
theorem dX6_isFreeFor_24 : decode cX6_isFreeFor 24 = .ok (.iload_n 2, 1) := by decide +kernel
theorem dX6_isFreeFor_25 : decode cX6_isFreeFor 25 = .ok (.iload_n 3, 1) := by decide +kernel
theorem dX6_isFreeFor_26 : decode cX6_isFreeFor 26 = .ok (.iload 4, 2) := by decide +kernel
theorem dX6_isFreeFor_28 : decode cX6_isFreeFor 28 = .ok (.invokestatic 263, 3) := by decide +kernel
theorem dX6_isFreeFor_31 : decode cX6_isFreeFor 31 = .ok (.iaload, 1) := by decide +kernel
theorem dX6_isFreeFor_32 : decode cX6_isFreeFor 32 = .ok (.iconst (-1), 1) := by decide +kernel
theorem dX6_isFreeFor_33 : decode cX6_isFreeFor 33 = .ok (.if_icmp .eq 5, 3) := by decide +kernel
theorem dX6_isFreeFor_36 : decode cX6_isFreeFor 36 = .ok (.iconst 0, 1) := by decide +kernel
theorem dX6_isFreeFor_37 : decode cX6_isFreeFor 37 = .ok (.ireturn, 1) := by decide +kernel
theorem dX6_isFreeFor_38 : decode cX6_isFreeFor 38 = .ok (.iinc 4 1, 3) := by decide +kernel
theorem dX6_isFreeFor_41 : decode cX6_isFreeFor 41 = .ok (.goto (-38), 3) := by decide +kernel
theorem dX6_isFreeFor_44 : decode cX6_isFreeFor 44 = .ok (.iconst 1, 1) := by decide +kernel
theorem dX6_isFreeFor_45 : decode cX6_isFreeFor 45 = .ok (.ireturn, 1) := by decide +kernel
theorem dX6_freeFor_0 : decode cX6_freeFor 0 = .ok (.iconst 0, 1) := by decide +kernel
theorem dX6_freeFor_1 : decode cX6_freeFor 1 = .ok (.istore_n 3, 1) := by decide +kernel
theorem dX6_freeFor_2 : decode cX6_freeFor 2 = .ok (.iconst 0, 1) := by decide +kernel
theorem dX6_freeFor_3 : decode cX6_freeFor 3 = .ok (.istore 4, 2) := by decide +kernel
theorem dX6_freeFor_5 : decode cX6_freeFor 5 = .ok (.iload 4, 2) := by decide +kernel
theorem dX6_freeFor_7 : decode cX6_freeFor 7 = .ok (.aload_n 0, 1) := by decide +kernel
theorem dX6_freeFor_8 : decode cX6_freeFor 8 = .ok (.iload_n 2, 1) := by decide +kernel
theorem dX6_freeFor_9 : decode cX6_freeFor 9 = .ok (.iconst 1, 1) := by decide +kernel
theorem dX6_freeFor_10 : decode cX6_freeFor 10 = .ok (.invokevirtual 89, 3) := by decide +kernel
theorem dX6_freeFor_13 : decode cX6_freeFor 13 = .ok (.if_icmp .ge 28, 3) := by decide +kernel
theorem dX6_freeFor_16 : decode cX6_freeFor 16 = .ok (.iload_n 3, 1) := by decide +kernel
theorem dX6_freeFor_17 : decode cX6_freeFor 17 = .ok (.aload_n 0, 1) := by decide +kernel
theorem dX6_freeFor_18 : decode cX6_freeFor 18 = .ok (.iload_n 1, 1) := by decide +kernel
theorem dX6_freeFor_19 : decode cX6_freeFor 19 = .ok (.iload_n 2, 1) := by decide +kernel
theorem dX6_freeFor_20 : decode cX6_freeFor 20 = .ok (.iload 4, 2) := by decide +kernel
theorem dX6_freeFor_22 : decode cX6_freeFor 22 = .ok (.invokevirtual 267, 3) := by decide +kernel
theorem dX6_freeFor_25 : decode cX6_freeFor 25 = .ok (.ifCond .eq 7, 3) := by decide +kernel
theorem dX6_freeFor_28 : decode cX6_freeFor 28 = .ok (.iconst 1, 1) := by decide +kernel
theorem dX6_freeFor_29 : decode cX6_freeFor 29 = .ok (.goto 4, 3) := by decide +kernel
theorem dX6_freeFor_32 : decode cX6_freeFor 32 = .ok (.iconst 0, 1) := by decide +kernel
theorem dX6_freeFor_33 : decode cX6_freeFor 33 = .ok (.iadd, 1) := by decide +kernel
theorem dX6_freeFor_34 : decode cX6_freeFor 34 = .ok (.istore_n 3, 1) := by decide +kernel
theorem dX6_freeFor_35 : decode cX6_freeFor 35 = .ok (.iinc 4 1, 3) := by decide +kernel
theorem dX6_freeFor_38 : decode cX6_freeFor 38 = .ok (.goto (-33), 3) := by decide +kernel
theorem dX6_freeFor_41 : decode cX6_freeFor 41 = .ok (.iload_n 3, 1) := by decide +kernel
theorem dX6_freeFor_42 : decode cX6_freeFor 42 = .ok (.ireturn, 1) := by decide +kernel
theorem dX6_canUse_0 : decode cX6_canUse 0 = .ok (.aload_n 0, 1) := by decide +kernel
theorem dX6_canUse_1 : decode cX6_canUse 1 = .ok (.iload_n 1, 1) := by decide +kernel
theorem dX6_canUse_2 : decode cX6_canUse 2 = .ok (.iconst 4, 1) := by decide +kernel
theorem dX6_canUse_3 : decode cX6_canUse 3 = .ok (.invokevirtual 77, 3) := by decide +kernel
theorem dX6_canUse_6 : decode cX6_canUse 6 = .ok (.aload_n 0, 1) := by decide +kernel
theorem dX6_canUse_7 : decode cX6_canUse 7 = .ok (.iload_n 2, 1) := by decide +kernel
theorem dX6_canUse_8 : decode cX6_canUse 8 = .ok (.iconst 2, 1) := by decide +kernel
theorem dX6_canUse_9 : decode cX6_canUse 9 = .ok (.invokevirtual 89, 3) := by decide +kernel
theorem dX6_canUse_12 : decode cX6_canUse 12 = .ok (.if_icmp .lt 7, 3) := by decide +kernel
theorem dX6_canUse_15 : decode cX6_canUse 15 = .ok (.iconst 1, 1) := by decide +kernel
theorem dX6_canUse_16 : decode cX6_canUse 16 = .ok (.goto 4, 3) := by decide +kernel
theorem dX6_canUse_19 : decode cX6_canUse 19 = .ok (.iconst 0, 1) := by decide +kernel
theorem dX6_canUse_20 : decode cX6_canUse 20 = .ok (.ireturn, 1) := by decide +kernel
theorem dX6_takesAll_0 : decode cX6_takesAll 0 = .ok (.aload_n 0, 1) := by decide +kernel
theorem dX6_takesAll_1 : decode cX6_takesAll 1 = .ok (.iload_n 2, 1) := by decide +kernel
theorem dX6_takesAll_2 : decode cX6_takesAll 2 = .ok (.iconst 0, 1) := by decide +kernel
theorem dX6_takesAll_3 : decode cX6_takesAll 3 = .ok (.invokevirtual 89, 3) := by decide +kernel
theorem dX6_takesAll_6 : decode cX6_takesAll 6 = .ok (.istore_n 3, 1) := by decide +kernel
theorem dX6_takesAll_7 : decode cX6_takesAll 7 = .ok (.iload_n 3, 1) := by decide +kernel
theorem dX6_takesAll_8 : decode cX6_takesAll 8 = .ok (.ifCond .eq 31, 3) := by decide +kernel
theorem dX6_takesAll_11 : decode cX6_takesAll 11 = .ok (.iload_n 3, 1) := by decide +kernel
theorem dX6_takesAll_12 : decode cX6_takesAll 12 = .ok (.iconst 1, 1) := by decide +kernel
theorem dX6_takesAll_13 : decode cX6_takesAll 13 = .ok (.if_icmp .ne 12, 3) := by decide +kernel
theorem dX6_takesAll_16 : decode cX6_takesAll 16 = .ok (.aload_n 0, 1) := by decide +kernel
theorem dX6_takesAll_17 : decode cX6_takesAll 17 = .ok (.iload_n 1, 1) := by decide +kernel
theorem dX6_takesAll_18 : decode cX6_takesAll 18 = .ok (.iconst 3, 1) := by decide +kernel
theorem dX6_takesAll_19 : decode cX6_takesAll 19 = .ok (.invokevirtual 77, 3) := by decide +kernel
theorem dX6_takesAll_22 : decode cX6_takesAll 22 = .ok (.ifCond .eq 17, 3) := by decide +kernel
theorem dX6_takesAll_25 : decode cX6_takesAll 25 = .ok (.iload_n 3, 1) := by decide +kernel
theorem dX6_takesAll_26 : decode cX6_takesAll 26 = .ok (.iconst 2, 1) := by decide +kernel
theorem dX6_takesAll_27 : decode cX6_takesAll 27 = .ok (.if_icmp .ne 16, 3) := by decide +kernel
theorem dX6_takesAll_30 : decode cX6_takesAll 30 = .ok (.aload_n 0, 1) := by decide +kernel
theorem dX6_takesAll_31 : decode cX6_takesAll 31 = .ok (.iload_n 1, 1) := by decide +kernel
theorem dX6_takesAll_32 : decode cX6_takesAll 32 = .ok (.iconst 2, 1) := by decide +kernel
theorem dX6_takesAll_33 : decode cX6_takesAll 33 = .ok (.invokevirtual 77, 3) := by decide +kernel
theorem dX6_takesAll_36 : decode cX6_takesAll 36 = .ok (.ifCond .ne 7, 3) := by decide +kernel
theorem dX6_takesAll_39 : decode cX6_takesAll 39 = .ok (.iconst 1, 1) := by decide +kernel
theorem dX6_takesAll_40 : decode cX6_takesAll 40 = .ok (.goto 4, 3) := by decide +kernel
theorem dX6_takesAll_43 : decode cX6_takesAll 43 = .ok (.iconst 0, 1) := by decide +kernel
theorem dX6_takesAll_44 : decode cX6_takesAll 44 = .ok (.ireturn, 1) := by decide +kernel
theorem dX6_oneRoomFor_0 : decode cX6_oneRoomFor 0 = .ok (.iconst (-1), 1) := by decide +kernel
theorem dX6_oneRoomFor_1 : decode cX6_oneRoomFor 1 = .ok (.istore_n 2, 1) := by decide +kernel
theorem dX6_oneRoomFor_2 : decode cX6_oneRoomFor 2 = .ok (.iconst 0, 1) := by decide +kernel
theorem dX6_oneRoomFor_3 : decode cX6_oneRoomFor 3 = .ok (.istore_n 3, 1) := by decide +kernel
theorem dX6_oneRoomFor_4 : decode cX6_oneRoomFor 4 = .ok (.iconst 0, 1) := by decide +kernel
theorem dX6_oneRoomFor_5 : decode cX6_oneRoomFor 5 = .ok (.istore 4, 2) := by decide +kernel
theorem dX6_oneRoomFor_7 : decode cX6_oneRoomFor 7 = .ok (.iload 4, 2) := by decide +kernel
theorem dX6_oneRoomFor_9 : decode cX6_oneRoomFor 9 = .ok (.aload_n 0, 1) := by decide +kernel
theorem dX6_oneRoomFor_10 : decode cX6_oneRoomFor 10 = .ok (.iconst 4, 1) := by decide +kernel
theorem dX6_oneRoomFor_11 : decode cX6_oneRoomFor 11 = .ok (.invokevirtual 69, 3) := by decide +kernel
theorem dX6_oneRoomFor_14 : decode cX6_oneRoomFor 14 = .ok (.if_icmp .ge 108, 3) := by decide +kernel
theorem dX6_oneRoomFor_17 : decode cX6_oneRoomFor 17 = .ok (.aload_n 0, 1) := by decide +kernel
theorem dX6_oneRoomFor_18 : decode cX6_oneRoomFor 18 = .ok (.iload_n 1, 1) := by decide +kernel
theorem dX6_oneRoomFor_19 : decode cX6_oneRoomFor 19 = .ok (.iload 4, 2) := by decide +kernel
theorem dX6_oneRoomFor_21 : decode cX6_oneRoomFor 21 = .ok (.invokevirtual 270, 3) := by decide +kernel
theorem dX6_oneRoomFor_24 : decode cX6_oneRoomFor 24 = .ok (.ifCond .eq 92, 3) := by decide +kernel
theorem dX6_oneRoomFor_27 : decode cX6_oneRoomFor 27 = .ok (.aload_n 0, 1) := by decide +kernel
theorem dX6_oneRoomFor_28 : decode cX6_oneRoomFor 28 = .ok (.iload_n 1, 1) := by decide +kernel
theorem dX6_oneRoomFor_29 : decode cX6_oneRoomFor 29 = .ok (.iload 4, 2) := by decide +kernel
theorem dX6_oneRoomFor_31 : decode cX6_oneRoomFor 31 = .ok (.invokevirtual 273, 3) := by decide +kernel
theorem dX6_oneRoomFor_34 : decode cX6_oneRoomFor 34 = .ok (.ifCond .ne 6, 3) := by decide +kernel
theorem dX6_oneRoomFor_37 : decode cX6_oneRoomFor 37 = .ok (.goto 79, 3) := by decide +kernel
theorem dX6_oneRoomFor_40 : decode cX6_oneRoomFor 40 = .ok (.aload_n 0, 1) := by decide +kernel
theorem dX6_oneRoomFor_41 : decode cX6_oneRoomFor 41 = .ok (.iload_n 1, 1) := by decide +kernel
theorem dX6_oneRoomFor_42 : decode cX6_oneRoomFor 42 = .ok (.iload 4, 2) := by decide +kernel
theorem dX6_oneRoomFor_44 : decode cX6_oneRoomFor 44 = .ok (.invokevirtual 276, 3) := by decide +kernel
theorem dX6_oneRoomFor_47 : decode cX6_oneRoomFor 47 = .ok (.istore 5, 2) := by decide +kernel
theorem dX6_oneRoomFor_49 : decode cX6_oneRoomFor 49 = .ok (.iload 5, 2) := by decide +kernel
theorem dX6_oneRoomFor_51 : decode cX6_oneRoomFor 51 = .ok (.aload_n 0, 1) := by decide +kernel
theorem dX6_oneRoomFor_52 : decode cX6_oneRoomFor 52 = .ok (.iload_n 1, 1) := by decide +kernel
theorem dX6_oneRoomFor_53 : decode cX6_oneRoomFor 53 = .ok (.invokevirtual 239, 3) := by decide +kernel
theorem dX6_oneRoomFor_56 : decode cX6_oneRoomFor 56 = .ok (.if_icmp .ge 6, 3) := by decide +kernel
theorem dX6_oneRoomFor_59 : decode cX6_oneRoomFor 59 = .ok (.goto 57, 3) := by decide +kernel
theorem dX6_oneRoomFor_62 : decode cX6_oneRoomFor 62 = .ok (.iload_n 2, 1) := by decide +kernel
theorem dX6_oneRoomFor_63 : decode cX6_oneRoomFor 63 = .ok (.iconst (-1), 1) := by decide +kernel
theorem dX6_oneRoomFor_64 : decode cX6_oneRoomFor 64 = .ok (.if_icmp .eq 31, 3) := by decide +kernel
theorem dX6_oneRoomFor_67 : decode cX6_oneRoomFor 67 = .ok (.iload 5, 2) := by decide +kernel
theorem dX6_oneRoomFor_69 : decode cX6_oneRoomFor 69 = .ok (.iload_n 3, 1) := by decide +kernel
theorem dX6_oneRoomFor_70 : decode cX6_oneRoomFor 70 = .ok (.if_icmp .lt 25, 3) := by decide +kernel
theorem dX6_oneRoomFor_73 : decode cX6_oneRoomFor 73 = .ok (.iload 5, 2) := by decide +kernel
theorem dX6_oneRoomFor_75 : decode cX6_oneRoomFor 75 = .ok (.iload_n 3, 1) := by decide +kernel
theorem dX6_oneRoomFor_76 : decode cX6_oneRoomFor 76 = .ok (.if_icmp .ne 23, 3) := by decide +kernel
theorem dX6_oneRoomFor_79 : decode cX6_oneRoomFor 79 = .ok (.aload_n 0, 1) := by decide +kernel
theorem dX6_oneRoomFor_80 : decode cX6_oneRoomFor 80 = .ok (.iload 4, 2) := by decide +kernel
theorem dX6_oneRoomFor_82 : decode cX6_oneRoomFor 82 = .ok (.iconst 3, 1) := by decide +kernel
theorem dX6_oneRoomFor_83 : decode cX6_oneRoomFor 83 = .ok (.invokevirtual 89, 3) := by decide +kernel
theorem dX6_oneRoomFor_86 : decode cX6_oneRoomFor 86 = .ok (.aload_n 0, 1) := by decide +kernel
theorem dX6_oneRoomFor_87 : decode cX6_oneRoomFor 87 = .ok (.iload_n 2, 1) := by decide +kernel
theorem dX6_oneRoomFor_88 : decode cX6_oneRoomFor 88 = .ok (.iconst 3, 1) := by decide +kernel
theorem dX6_oneRoomFor_89 : decode cX6_oneRoomFor 89 = .ok (.invokevirtual 89, 3) := by decide +kernel
theorem dX6_oneRoomFor_92 : decode cX6_oneRoomFor 92 = .ok (.if_icmp .ge 7, 3) := by decide +kernel
theorem dX6_oneRoomFor_95 : decode cX6_oneRoomFor 95 = .ok (.iconst 1, 1) := by decide +kernel
theorem dX6_oneRoomFor_96 : decode cX6_oneRoomFor 96 = .ok (.goto 4, 3) := by decide +kernel
theorem dX6_oneRoomFor_99 : decode cX6_oneRoomFor 99 = .ok (.iconst 0, 1) := by decide +kernel
theorem dX6_oneRoomFor_100 : decode cX6_oneRoomFor 100 = .ok (.istore 6, 2) := by decide +kernel
theorem dX6_oneRoomFor_102 : decode cX6_oneRoomFor 102 = .ok (.iload 6, 2) := by decide +kernel
theorem dX6_oneRoomFor_104 : decode cX6_oneRoomFor 104 = .ok (.ifCond .ne 6, 3) := by decide +kernel
theorem dX6_oneRoomFor_107 : decode cX6_oneRoomFor 107 = .ok (.goto 9, 3) := by decide +kernel
theorem dX6_oneRoomFor_110 : decode cX6_oneRoomFor 110 = .ok (.iload 4, 2) := by decide +kernel
theorem dX6_oneRoomFor_112 : decode cX6_oneRoomFor 112 = .ok (.istore_n 2, 1) := by decide +kernel
theorem dX6_oneRoomFor_113 : decode cX6_oneRoomFor 113 = .ok (.iload 5, 2) := by decide +kernel
theorem dX6_oneRoomFor_115 : decode cX6_oneRoomFor 115 = .ok (.istore_n 3, 1) := by decide +kernel
theorem dX6_oneRoomFor_116 : decode cX6_oneRoomFor 116 = .ok (.iinc 4 1, 3) := by decide +kernel
theorem dX6_oneRoomFor_119 : decode cX6_oneRoomFor 119 = .ok (.goto (-112), 3) := by decide +kernel
theorem dX6_oneRoomFor_122 : decode cX6_oneRoomFor 122 = .ok (.iload_n 2, 1) := by decide +kernel
theorem dX6_oneRoomFor_123 : decode cX6_oneRoomFor 123 = .ok (.ireturn, 1) := by decide +kernel
theorem dX6_isEnough_0 : decode cX6_isEnough 0 = .ok (.aload_n 0, 1) := by decide +kernel
theorem dX6_isEnough_1 : decode cX6_isEnough 1 = .ok (.iload_n 1, 1) := by decide +kernel
theorem dX6_isEnough_2 : decode cX6_isEnough 2 = .ok (.iconst 2, 1) := by decide +kernel
theorem dX6_isEnough_3 : decode cX6_isEnough 3 = .ok (.invokevirtual 77, 3) := by decide +kernel
theorem dX6_isEnough_6 : decode cX6_isEnough 6 = .ok (.istore_n 3, 1) := by decide +kernel
theorem dX6_isEnough_7 : decode cX6_isEnough 7 = .ok (.aload_n 0, 1) := by decide +kernel
theorem dX6_isEnough_8 : decode cX6_isEnough 8 = .ok (.iload_n 1, 1) := by decide +kernel
theorem dX6_isEnough_9 : decode cX6_isEnough 9 = .ok (.iconst 3, 1) := by decide +kernel
theorem dX6_isEnough_10 : decode cX6_isEnough 10 = .ok (.invokevirtual 77, 3) := by decide +kernel
theorem dX6_isEnough_13 : decode cX6_isEnough 13 = .ok (.istore 4, 2) := by decide +kernel
theorem dX6_isEnough_15 : decode cX6_isEnough 15 = .ok (.iconst 0, 1) := by decide +kernel
theorem dX6_isEnough_16 : decode cX6_isEnough 16 = .ok (.istore 5, 2) := by decide +kernel
theorem dX6_isEnough_18 : decode cX6_isEnough 18 = .ok (.iconst 0, 1) := by decide +kernel
theorem dX6_isEnough_19 : decode cX6_isEnough 19 = .ok (.istore 6, 2) := by decide +kernel
theorem dX6_isEnough_21 : decode cX6_isEnough 21 = .ok (.iload 6, 2) := by decide +kernel
theorem dX6_isEnough_23 : decode cX6_isEnough 23 = .ok (.aload_n 0, 1) := by decide +kernel
theorem dX6_isEnough_24 : decode cX6_isEnough 24 = .ok (.iconst 4, 1) := by decide +kernel
theorem dX6_isEnough_25 : decode cX6_isEnough 25 = .ok (.invokevirtual 69, 3) := by decide +kernel
theorem dX6_isEnough_28 : decode cX6_isEnough 28 = .ok (.if_icmp .ge 83, 3) := by decide +kernel
theorem dX6_isEnough_31 : decode cX6_isEnough 31 = .ok (.iload_n 2, 1) := by decide +kernel
theorem dX6_isEnough_32 : decode cX6_isEnough 32 = .ok (.iload 6, 2) := by decide +kernel
theorem dX6_isEnough_34 : decode cX6_isEnough 34 = .ok (.ishr, 1) := by decide +kernel
theorem dX6_isEnough_35 : decode cX6_isEnough 35 = .ok (.iconst 1, 1) := by decide +kernel
theorem dX6_isEnough_36 : decode cX6_isEnough 36 = .ok (.iand, 1) := by decide +kernel
theorem dX6_isEnough_37 : decode cX6_isEnough 37 = .ok (.ifCond .ne 6, 3) := by decide +kernel
theorem dX6_isEnough_40 : decode cX6_isEnough 40 = .ok (.goto 65, 3) := by decide +kernel
theorem dX6_isEnough_43 : decode cX6_isEnough 43 = .ok (.aload_n 0, 1) := by decide +kernel
theorem dX6_isEnough_44 : decode cX6_isEnough 44 = .ok (.iload 6, 2) := by decide +kernel
theorem dX6_isEnough_46 : decode cX6_isEnough 46 = .ok (.iconst 0, 1) := by decide +kernel
theorem dX6_isEnough_47 : decode cX6_isEnough 47 = .ok (.invokevirtual 89, 3) := by decide +kernel
theorem dX6_isEnough_50 : decode cX6_isEnough 50 = .ok (.iconst 1, 1) := by decide +kernel
theorem dX6_isEnough_51 : decode cX6_isEnough 51 = .ok (.if_icmp .ne 16, 3) := by decide +kernel
theorem dX6_isEnough_54 : decode cX6_isEnough 54 = .ok (.iload_n 3, 1) := by decide +kernel
theorem dX6_isEnough_55 : decode cX6_isEnough 55 = .ok (.aload_n 0, 1) := by decide +kernel
theorem dX6_isEnough_56 : decode cX6_isEnough 56 = .ok (.getfield 46, 3) := by decide +kernel
theorem dX6_isEnough_59 : decode cX6_isEnough 59 = .ok (.iload 6, 2) := by decide +kernel
theorem dX6_isEnough_61 : decode cX6_isEnough 61 = .ok (.iaload, 1) := by decide +kernel
theorem dX6_isEnough_62 : decode cX6_isEnough 62 = .ok (.isub, 1) := by decide +kernel
theorem dX6_isEnough_63 : decode cX6_isEnough 63 = .ok (.istore_n 3, 1) := by decide +kernel
theorem dX6_isEnough_64 : decode cX6_isEnough 64 = .ok (.goto 41, 3) := by decide +kernel
theorem dX6_isEnough_67 : decode cX6_isEnough 67 = .ok (.aload_n 0, 1) := by decide +kernel
theorem dX6_isEnough_68 : decode cX6_isEnough 68 = .ok (.iload 6, 2) := by decide +kernel
theorem dX6_isEnough_70 : decode cX6_isEnough 70 = .ok (.iconst 0, 1) := by decide +kernel
theorem dX6_isEnough_71 : decode cX6_isEnough 71 = .ok (.invokevirtual 89, 3) := by decide +kernel
theorem dX6_isEnough_74 : decode cX6_isEnough 74 = .ok (.iconst 2, 1) := by decide +kernel
theorem dX6_isEnough_75 : decode cX6_isEnough 75 = .ok (.if_icmp .ne 18, 3) := by decide +kernel
theorem dX6_isEnough_78 : decode cX6_isEnough 78 = .ok (.iload 4, 2) := by decide +kernel
theorem dX6_isEnough_80 : decode cX6_isEnough 80 = .ok (.aload_n 0, 1) := by decide +kernel
theorem dX6_isEnough_81 : decode cX6_isEnough 81 = .ok (.getfield 46, 3) := by decide +kernel
theorem dX6_isEnough_84 : decode cX6_isEnough 84 = .ok (.iload 6, 2) := by decide +kernel
theorem dX6_isEnough_86 : decode cX6_isEnough 86 = .ok (.iaload, 1) := by decide +kernel
theorem dX6_isEnough_87 : decode cX6_isEnough 87 = .ok (.isub, 1) := by decide +kernel
theorem dX6_isEnough_88 : decode cX6_isEnough 88 = .ok (.istore 4, 2) := by decide +kernel
theorem dX6_isEnough_90 : decode cX6_isEnough 90 = .ok (.goto 15, 3) := by decide +kernel
theorem dX6_isEnough_93 : decode cX6_isEnough 93 = .ok (.iload 5, 2) := by decide +kernel
theorem dX6_isEnough_95 : decode cX6_isEnough 95 = .ok (.aload_n 0, 1) := by decide +kernel
theorem dX6_isEnough_96 : decode cX6_isEnough 96 = .ok (.getfield 46, 3) := by decide +kernel
theorem dX6_isEnough_99 : decode cX6_isEnough 99 = .ok (.iload 6, 2) := by decide +kernel
theorem dX6_isEnough_101 : decode cX6_isEnough 101 = .ok (.iaload, 1) := by decide +kernel
theorem dX6_isEnough_102 : decode cX6_isEnough 102 = .ok (.iadd, 1) := by decide +kernel
theorem dX6_isEnough_103 : decode cX6_isEnough 103 = .ok (.istore 5, 2) := by decide +kernel
theorem dX6_isEnough_105 : decode cX6_isEnough 105 = .ok (.iinc 6 1, 3) := by decide +kernel
theorem dX6_isEnough_108 : decode cX6_isEnough 108 = .ok (.goto (-87), 3) := by decide +kernel
theorem dX6_isEnough_111 : decode cX6_isEnough 111 = .ok (.iload_n 3, 1) := by decide +kernel
theorem dX6_isEnough_112 : decode cX6_isEnough 112 = .ok (.ifCond .le 7, 3) := by decide +kernel
theorem dX6_isEnough_115 : decode cX6_isEnough 115 = .ok (.iload_n 3, 1) := by decide +kernel
theorem dX6_isEnough_116 : decode cX6_isEnough 116 = .ok (.goto 4, 3) := by decide +kernel
theorem dX6_isEnough_119 : decode cX6_isEnough 119 = .ok (.iconst 0, 1) := by decide +kernel
theorem dX6_isEnough_120 : decode cX6_isEnough 120 = .ok (.iload 4, 2) := by decide +kernel
theorem dX6_isEnough_122 : decode cX6_isEnough 122 = .ok (.ifCond .le 8, 3) := by decide +kernel
theorem dX6_isEnough_125 : decode cX6_isEnough 125 = .ok (.iload 4, 2) := by decide +kernel
theorem dX6_isEnough_127 : decode cX6_isEnough 127 = .ok (.goto 4, 3) := by decide +kernel
theorem dX6_isEnough_130 : decode cX6_isEnough 130 = .ok (.iconst 0, 1) := by decide +kernel
theorem dX6_isEnough_131 : decode cX6_isEnough 131 = .ok (.iadd, 1) := by decide +kernel
theorem dX6_isEnough_132 : decode cX6_isEnough 132 = .ok (.iload 5, 2) := by decide +kernel
theorem dX6_isEnough_134 : decode cX6_isEnough 134 = .ok (.if_icmp .gt 7, 3) := by decide +kernel
theorem dX6_isEnough_137 : decode cX6_isEnough 137 = .ok (.iconst 1, 1) := by decide +kernel
theorem dX6_isEnough_138 : decode cX6_isEnough 138 = .ok (.goto 4, 3) := by decide +kernel
theorem dX6_isEnough_141 : decode cX6_isEnough 141 = .ok (.iconst 0, 1) := by decide +kernel
theorem dX6_isEnough_142 : decode cX6_isEnough 142 = .ok (.ireturn, 1) := by decide +kernel
theorem dX6_many_0 : decode cX6_many 0 = .ok (.iconst 0, 1) := by decide +kernel
theorem dX6_many_1 : decode cX6_many 1 = .ok (.istore_n 1, 1) := by decide +kernel
theorem dX6_many_2 : decode cX6_many 2 = .ok (.iconst 0, 1) := by decide +kernel
theorem dX6_many_3 : decode cX6_many 3 = .ok (.istore_n 2, 1) := by decide +kernel
theorem dX6_many_4 : decode cX6_many 4 = .ok (.iload_n 2, 1) := by decide +kernel
theorem dX6_many_5 : decode cX6_many 5 = .ok (.bipush 8, 2) := by decide +kernel
theorem dX6_many_7 : decode cX6_many 7 = .ok (.if_icmp .ge 17, 3) := by decide +kernel
theorem dX6_many_10 : decode cX6_many 10 = .ok (.iload_n 1, 1) := by decide +kernel
theorem dX6_many_11 : decode cX6_many 11 = .ok (.iload_n 0, 1) := by decide +kernel
theorem dX6_many_12 : decode cX6_many 12 = .ok (.iload_n 2, 1) := by decide +kernel
theorem dX6_many_13 : decode cX6_many 13 = .ok (.ishr, 1) := by decide +kernel
theorem dX6_many_14 : decode cX6_many 14 = .ok (.iconst 1, 1) := by decide +kernel
theorem dX6_many_15 : decode cX6_many 15 = .ok (.iand, 1) := by decide +kernel
theorem dX6_many_16 : decode cX6_many 16 = .ok (.iadd, 1) := by decide +kernel
theorem dX6_many_17 : decode cX6_many 17 = .ok (.istore_n 1, 1) := by decide +kernel
theorem dX6_many_18 : decode cX6_many 18 = .ok (.iinc 2 1, 3) := by decide +kernel
theorem dX6_many_21 : decode cX6_many 21 = .ok (.goto (-17), 3) := by decide +kernel
theorem dX6_many_24 : decode cX6_many 24 = .ok (.iload_n 1, 1) := by decide +kernel
theorem dX6_many_25 : decode cX6_many 25 = .ok (.ireturn, 1) := by decide +kernel
theorem dX6_setFor_0 : decode cX6_setFor 0 = .ok (.iconst 0, 1) := by decide +kernel
theorem dX6_setFor_1 : decode cX6_setFor 1 = .ok (.istore_n 2, 1) := by decide +kernel
theorem dX6_setFor_2 : decode cX6_setFor 2 = .ok (.iconst 0, 1) := by decide +kernel
theorem dX6_setFor_3 : decode cX6_setFor 3 = .ok (.istore_n 3, 1) := by decide +kernel
theorem dX6_setFor_4 : decode cX6_setFor 4 = .ok (.iload_n 3, 1) := by decide +kernel
theorem dX6_setFor_5 : decode cX6_setFor 5 = .ok (.aload_n 0, 1) := by decide +kernel
theorem dX6_setFor_6 : decode cX6_setFor 6 = .ok (.iconst 4, 1) := by decide +kernel
theorem dX6_setFor_7 : decode cX6_setFor 7 = .ok (.invokevirtual 69, 3) := by decide +kernel
theorem dX6_setFor_10 : decode cX6_setFor 10 = .ok (.if_icmp .ge 40, 3) := by decide +kernel
theorem dX6_setFor_13 : decode cX6_setFor 13 = .ok (.aload_n 0, 1) := by decide +kernel
theorem dX6_setFor_14 : decode cX6_setFor 14 = .ok (.getfield 46, 3) := by decide +kernel
theorem dX6_setFor_17 : decode cX6_setFor 17 = .ok (.iload_n 3, 1) := by decide +kernel
theorem dX6_setFor_18 : decode cX6_setFor 18 = .ok (.aload_n 0, 1) := by decide +kernel
theorem dX6_setFor_19 : decode cX6_setFor 19 = .ok (.iload_n 1, 1) := by decide +kernel
theorem dX6_setFor_20 : decode cX6_setFor 20 = .ok (.iload_n 3, 1) := by decide +kernel
theorem dX6_setFor_21 : decode cX6_setFor 21 = .ok (.invokevirtual 276, 3) := by decide +kernel
theorem dX6_setFor_24 : decode cX6_setFor 24 = .ok (.iastore, 1) := by decide +kernel
theorem dX6_setFor_25 : decode cX6_setFor 25 = .ok (.iload_n 2, 1) := by decide +kernel
theorem dX6_setFor_26 : decode cX6_setFor 26 = .ok (.aload_n 0, 1) := by decide +kernel
theorem dX6_setFor_27 : decode cX6_setFor 27 = .ok (.iload_n 1, 1) := by decide +kernel
theorem dX6_setFor_28 : decode cX6_setFor 28 = .ok (.iload_n 3, 1) := by decide +kernel
theorem dX6_setFor_29 : decode cX6_setFor 29 = .ok (.invokevirtual 270, 3) := by decide +kernel
theorem dX6_setFor_32 : decode cX6_setFor 32 = .ok (.ifCond .eq 9, 3) := by decide +kernel
theorem dX6_setFor_35 : decode cX6_setFor 35 = .ok (.iconst 1, 1) := by decide +kernel
theorem dX6_setFor_36 : decode cX6_setFor 36 = .ok (.iload_n 3, 1) := by decide +kernel
theorem dX6_setFor_37 : decode cX6_setFor 37 = .ok (.ishl, 1) := by decide +kernel
theorem dX6_setFor_38 : decode cX6_setFor 38 = .ok (.goto 4, 3) := by decide +kernel
theorem dX6_setFor_41 : decode cX6_setFor 41 = .ok (.iconst 0, 1) := by decide +kernel
theorem dX6_setFor_42 : decode cX6_setFor 42 = .ok (.ior, 1) := by decide +kernel
theorem dX6_setFor_43 : decode cX6_setFor 43 = .ok (.istore_n 2, 1) := by decide +kernel
theorem dX6_setFor_44 : decode cX6_setFor 44 = .ok (.iinc 3 1, 3) := by decide +kernel
theorem dX6_setFor_47 : decode cX6_setFor 47 = .ok (.goto (-43), 3) := by decide +kernel
theorem dX6_setFor_50 : decode cX6_setFor 50 = .ok (.iconst 0, 1) := by decide +kernel
theorem dX6_setFor_51 : decode cX6_setFor 51 = .ok (.istore_n 3, 1) := by decide +kernel
theorem dX6_setFor_52 : decode cX6_setFor 52 = .ok (.iconst 1, 1) := by decide +kernel
theorem dX6_setFor_53 : decode cX6_setFor 53 = .ok (.istore 4, 2) := by decide +kernel
theorem dX6_setFor_55 : decode cX6_setFor 55 = .ok (.iload 4, 2) := by decide +kernel
theorem dX6_setFor_57 : decode cX6_setFor 57 = .ok (.iconst 1, 1) := by decide +kernel
theorem dX6_setFor_58 : decode cX6_setFor 58 = .ok (.aload_n 0, 1) := by decide +kernel
theorem dX6_setFor_59 : decode cX6_setFor 59 = .ok (.iconst 4, 1) := by decide +kernel
theorem dX6_setFor_60 : decode cX6_setFor 60 = .ok (.invokevirtual 69, 3) := by decide +kernel
theorem dX6_setFor_63 : decode cX6_setFor 63 = .ok (.ishl, 1) := by decide +kernel
theorem dX6_setFor_64 : decode cX6_setFor 64 = .ok (.if_icmp .ge 54, 3) := by decide +kernel
theorem dX6_setFor_67 : decode cX6_setFor 67 = .ok (.iload 4, 2) := by decide +kernel
theorem dX6_setFor_69 : decode cX6_setFor 69 = .ok (.iload_n 2, 1) := by decide +kernel
theorem dX6_setFor_70 : decode cX6_setFor 70 = .ok (.iconst (-1), 1) := by decide +kernel
theorem dX6_setFor_71 : decode cX6_setFor 71 = .ok (.ixor, 1) := by decide +kernel
theorem dX6_setFor_72 : decode cX6_setFor 72 = .ok (.iand, 1) := by decide +kernel
theorem dX6_setFor_73 : decode cX6_setFor 73 = .ok (.ifCond .ne 39, 3) := by decide +kernel
theorem dX6_setFor_76 : decode cX6_setFor 76 = .ok (.iload_n 3, 1) := by decide +kernel
theorem dX6_setFor_77 : decode cX6_setFor 77 = .ok (.ifCond .eq 18, 3) := by decide +kernel
theorem dX6_setFor_80 : decode cX6_setFor 80 = .ok (.iload 4, 2) := by decide +kernel
theorem dX6_setFor_82 : decode cX6_setFor 82 = .ok (.invokestatic 279, 3) := by decide +kernel
theorem dX6_setFor_85 : decode cX6_setFor 85 = .ok (.iload_n 3, 1) := by decide +kernel
theorem dX6_setFor_86 : decode cX6_setFor 86 = .ok (.invokestatic 279, 3) := by decide +kernel
theorem dX6_setFor_89 : decode cX6_setFor 89 = .ok (.if_icmp .lt 6, 3) := by decide +kernel
theorem dX6_setFor_92 : decode cX6_setFor 92 = .ok (.goto 20, 3) := by decide +kernel
theorem dX6_setFor_95 : decode cX6_setFor 95 = .ok (.aload_n 0, 1) := by decide +kernel
theorem dX6_setFor_96 : decode cX6_setFor 96 = .ok (.iload_n 1, 1) := by decide +kernel
theorem dX6_setFor_97 : decode cX6_setFor 97 = .ok (.iload 4, 2) := by decide +kernel
theorem dX6_setFor_99 : decode cX6_setFor 99 = .ok (.invokevirtual 282, 3) := by decide +kernel
theorem dX6_setFor_102 : decode cX6_setFor 102 = .ok (.ifCond .eq 8, 3) := by decide +kernel
theorem dX6_setFor_105 : decode cX6_setFor 105 = .ok (.iload 4, 2) := by decide +kernel
theorem dX6_setFor_107 : decode cX6_setFor 107 = .ok (.goto 4, 3) := by decide +kernel
theorem dX6_setFor_110 : decode cX6_setFor 110 = .ok (.iload_n 3, 1) := by decide +kernel
theorem dX6_setFor_111 : decode cX6_setFor 111 = .ok (.istore_n 3, 1) := by decide +kernel
theorem dX6_setFor_112 : decode cX6_setFor 112 = .ok (.iinc 4 1, 3) := by decide +kernel
theorem dX6_setFor_115 : decode cX6_setFor 115 = .ok (.goto (-60), 3) := by decide +kernel
theorem dX6_setFor_118 : decode cX6_setFor 118 = .ok (.iload_n 3, 1) := by decide +kernel
theorem dX6_setFor_119 : decode cX6_setFor 119 = .ok (.ifCond .ne 7, 3) := by decide +kernel
theorem dX6_setFor_122 : decode cX6_setFor 122 = .ok (.iconst (-1), 1) := by decide +kernel
theorem dX6_setFor_123 : decode cX6_setFor 123 = .ok (.goto 4, 3) := by decide +kernel
theorem dX6_setFor_126 : decode cX6_setFor 126 = .ok (.iload_n 3, 1) := by decide +kernel
theorem dX6_setFor_127 : decode cX6_setFor 127 = .ok (.ireturn, 1) := by decide +kernel
theorem dX6_sleeps_0 : decode cX6_sleeps 0 = .ok (.iconst 0, 1) := by decide +kernel
theorem dX6_sleeps_1 : decode cX6_sleeps 1 = .ok (.istore 5, 2) := by decide +kernel
theorem dX6_sleeps_3 : decode cX6_sleeps 3 = .ok (.iload 5, 2) := by decide +kernel
theorem dX6_sleeps_5 : decode cX6_sleeps 5 = .ok (.aload_n 0, 1) := by decide +kernel
theorem dX6_sleeps_6 : decode cX6_sleeps 6 = .ok (.iconst 4, 1) := by decide +kernel
theorem dX6_sleeps_7 : decode cX6_sleeps 7 = .ok (.invokevirtual 69, 3) := by decide +kernel
theorem dX6_sleeps_10 : decode cX6_sleeps 10 = .ok (.if_icmp .ge 81, 3) := by decide +kernel
theorem dX6_sleeps_13 : decode cX6_sleeps 13 = .ok (.iload 4, 2) := by decide +kernel
theorem dX6_sleeps_15 : decode cX6_sleeps 15 = .ok (.iload 5, 2) := by decide +kernel
theorem dX6_sleeps_17 : decode cX6_sleeps 17 = .ok (.ishr, 1) := by decide +kernel
theorem dX6_sleeps_18 : decode cX6_sleeps 18 = .ok (.iconst 1, 1) := by decide +kernel
theorem dX6_sleeps_19 : decode cX6_sleeps 19 = .ok (.iand, 1) := by decide +kernel
theorem dX6_sleeps_20 : decode cX6_sleeps 20 = .ok (.ifCond .eq 65, 3) := by decide +kernel
theorem dX6_sleeps_23 : decode cX6_sleeps 23 = .ok (.aload_n 0, 1) := by decide +kernel
theorem dX6_sleeps_24 : decode cX6_sleeps 24 = .ok (.iload 5, 2) := by decide +kernel
theorem dX6_sleeps_26 : decode cX6_sleeps 26 = .ok (.iconst 0, 1) := by decide +kernel
theorem dX6_sleeps_27 : decode cX6_sleeps 27 = .ok (.invokevirtual 89, 3) := by decide +kernel
theorem dX6_sleeps_30 : decode cX6_sleeps 30 = .ok (.iload_n 3, 1) := by decide +kernel
theorem dX6_sleeps_31 : decode cX6_sleeps 31 = .ok (.if_icmp .eq 6, 3) := by decide +kernel
theorem dX6_sleeps_34 : decode cX6_sleeps 34 = .ok (.goto 51, 3) := by decide +kernel
theorem dX6_sleeps_37 : decode cX6_sleeps 37 = .ok (.iconst 0, 1) := by decide +kernel
theorem dX6_sleeps_38 : decode cX6_sleeps 38 = .ok (.istore 6, 2) := by decide +kernel
theorem dX6_sleeps_40 : decode cX6_sleeps 40 = .ok (.iload 6, 2) := by decide +kernel
theorem dX6_sleeps_42 : decode cX6_sleeps 42 = .ok (.aload_n 0, 1) := by decide +kernel
theorem dX6_sleeps_43 : decode cX6_sleeps 43 = .ok (.iload 5, 2) := by decide +kernel
theorem dX6_sleeps_45 : decode cX6_sleeps 45 = .ok (.iconst 1, 1) := by decide +kernel
theorem dX6_sleeps_46 : decode cX6_sleeps 46 = .ok (.invokevirtual 89, 3) := by decide +kernel
theorem dX6_sleeps_49 : decode cX6_sleeps 49 = .ok (.if_icmp .ge 36, 3) := by decide +kernel
theorem dX6_sleeps_52 : decode cX6_sleeps 52 = .ok (.aload_n 0, 1) := by decide +kernel
theorem dX6_sleeps_53 : decode cX6_sleeps 53 = .ok (.iload_n 1, 1) := by decide +kernel
theorem dX6_sleeps_54 : decode cX6_sleeps 54 = .ok (.iload 5, 2) := by decide +kernel
theorem dX6_sleeps_56 : decode cX6_sleeps 56 = .ok (.iload 6, 2) := by decide +kernel
theorem dX6_sleeps_58 : decode cX6_sleeps 58 = .ok (.invokevirtual 267, 3) := by decide +kernel
theorem dX6_sleeps_61 : decode cX6_sleeps 61 = .ok (.ifCond .ne 6, 3) := by decide +kernel
theorem dX6_sleeps_64 : decode cX6_sleeps 64 = .ok (.goto 15, 3) := by decide +kernel
theorem dX6_sleeps_67 : decode cX6_sleeps 67 = .ok (.aload_n 0, 1) := by decide +kernel
theorem dX6_sleeps_68 : decode cX6_sleeps 68 = .ok (.iload_n 1, 1) := by decide +kernel
theorem dX6_sleeps_69 : decode cX6_sleeps 69 = .ok (.iload_n 2, 1) := by decide +kernel
theorem dX6_sleeps_70 : decode cX6_sleeps 70 = .ok (.iload 5, 2) := by decide +kernel
theorem dX6_sleeps_72 : decode cX6_sleeps 72 = .ok (.iload 6, 2) := by decide +kernel
theorem dX6_sleeps_74 : decode cX6_sleeps 74 = .ok (.invokevirtual 285, 3) := by decide +kernel
theorem dX6_sleeps_77 : decode cX6_sleeps 77 = .ok (.iconst 1, 1) := by decide +kernel
theorem dX6_sleeps_78 : decode cX6_sleeps 78 = .ok (.ireturn, 1) := by decide +kernel
theorem dX6_sleeps_79 : decode cX6_sleeps 79 = .ok (.iinc 6 1, 3) := by decide +kernel
theorem dX6_sleeps_82 : decode cX6_sleeps 82 = .ok (.goto (-42), 3) := by decide +kernel
theorem dX6_sleeps_85 : decode cX6_sleeps 85 = .ok (.iinc 5 1, 3) := by decide +kernel
theorem dX6_sleeps_88 : decode cX6_sleeps 88 = .ok (.goto (-85), 3) := by decide +kernel
theorem dX6_sleeps_91 : decode cX6_sleeps 91 = .ok (.iconst 0, 1) := by decide +kernel
theorem dX6_sleeps_92 : decode cX6_sleeps 92 = .ok (.ireturn, 1) := by decide +kernel
theorem dX6_takes_0 : decode cX6_takes 0 = .ok (.aload_n 0, 1) := by decide +kernel
theorem dX6_takes_1 : decode cX6_takes 1 = .ok (.getfield 40, 3) := by decide +kernel
theorem dX6_takes_4 : decode cX6_takes 4 = .ok (.bipush 12, 2) := by decide +kernel
theorem dX6_takes_6 : decode cX6_takes 6 = .ok (.iload_n 1, 1) := by decide +kernel
theorem dX6_takes_7 : decode cX6_takes 7 = .ok (.imul, 1) := by decide +kernel
theorem dX6_takes_8 : decode cX6_takes 8 = .ok (.iload_n 2, 1) := by decide +kernel
theorem dX6_takes_9 : decode cX6_takes 9 = .ok (.iadd, 1) := by decide +kernel
theorem dX6_takes_10 : decode cX6_takes 10 = .ok (.iload_n 3, 1) := by decide +kernel
theorem dX6_takes_11 : decode cX6_takes 11 = .ok (.iastore, 1) := by decide +kernel
theorem dX6_takes_12 : decode cX6_takes 12 = .ok (.aload_n 0, 1) := by decide +kernel
theorem dX6_takes_13 : decode cX6_takes 13 = .ok (.getfield 43, 3) := by decide +kernel
theorem dX6_takes_16 : decode cX6_takes 16 = .ok (.bipush 12, 2) := by decide +kernel
theorem dX6_takes_18 : decode cX6_takes 18 = .ok (.iload_n 1, 1) := by decide +kernel
theorem dX6_takes_19 : decode cX6_takes 19 = .ok (.imul, 1) := by decide +kernel
theorem dX6_takes_20 : decode cX6_takes 20 = .ok (.iload_n 2, 1) := by decide +kernel
theorem dX6_takes_21 : decode cX6_takes 21 = .ok (.iadd, 1) := by decide +kernel
theorem dX6_takes_22 : decode cX6_takes 22 = .ok (.iload 4, 2) := by decide +kernel
theorem dX6_takes_24 : decode cX6_takes 24 = .ok (.iastore, 1) := by decide +kernel
theorem dX6_takes_25 : decode cX6_takes 25 = .ok (.iconst 0, 1) := by decide +kernel
theorem dX6_takes_26 : decode cX6_takes 26 = .ok (.istore 5, 2) := by decide +kernel
theorem dX6_takes_28 : decode cX6_takes 28 = .ok (.iload 5, 2) := by decide +kernel
theorem dX6_takes_30 : decode cX6_takes 30 = .ok (.bipush 30, 2) := by decide +kernel
theorem dX6_takes_32 : decode cX6_takes 32 = .ok (.if_icmp .ge 33, 3) := by decide +kernel
theorem dX6_takes_35 : decode cX6_takes 35 = .ok (.aload_n 0, 1) := by decide +kernel
theorem dX6_takes_36 : decode cX6_takes 36 = .ok (.iload_n 1, 1) := by decide +kernel
theorem dX6_takes_37 : decode cX6_takes 37 = .ok (.iload 5, 2) := by decide +kernel
theorem dX6_takes_39 : decode cX6_takes 39 = .ok (.invokevirtual 235, 3) := by decide +kernel
theorem dX6_takes_42 : decode cX6_takes 42 = .ok (.ifCond .eq 17, 3) := by decide +kernel
theorem dX6_takes_45 : decode cX6_takes 45 = .ok (.aload_n 0, 1) := by decide +kernel
theorem dX6_takes_46 : decode cX6_takes 46 = .ok (.getfield 34, 3) := by decide +kernel
theorem dX6_takes_49 : decode cX6_takes 49 = .ok (.iload_n 3, 1) := by decide +kernel
theorem dX6_takes_50 : decode cX6_takes 50 = .ok (.iload 4, 2) := by decide +kernel
theorem dX6_takes_52 : decode cX6_takes 52 = .ok (.iload 5, 2) := by decide +kernel
theorem dX6_takes_54 : decode cX6_takes 54 = .ok (.invokestatic 263, 3) := by decide +kernel
theorem dX6_takes_57 : decode cX6_takes 57 = .ok (.iload_n 1, 1) := by decide +kernel
theorem dX6_takes_58 : decode cX6_takes 58 = .ok (.iastore, 1) := by decide +kernel
theorem dX6_takes_59 : decode cX6_takes 59 = .ok (.iinc 5 1, 3) := by decide +kernel
theorem dX6_takes_62 : decode cX6_takes 62 = .ok (.goto (-34), 3) := by decide +kernel
theorem dX6_takes_65 : decode cX6_takes 65 = .ok (.return_, 1) := by decide +kernel
theorem dX6_givesBeds_0 : decode cX6_givesBeds 0 = .ok (.iconst 0, 1) := by decide +kernel
theorem dX6_givesBeds_1 : decode cX6_givesBeds 1 = .ok (.istore_n 3, 1) := by decide +kernel
theorem dX6_givesBeds_2 : decode cX6_givesBeds 2 = .ok (.iload_n 3, 1) := by decide +kernel
theorem dX6_givesBeds_3 : decode cX6_givesBeds 3 = .ok (.aload_n 0, 1) := by decide +kernel
theorem dX6_givesBeds_4 : decode cX6_givesBeds 4 = .ok (.iload_n 1, 1) := by decide +kernel
theorem dX6_givesBeds_5 : decode cX6_givesBeds 5 = .ok (.invokevirtual 239, 3) := by decide +kernel
theorem dX6_givesBeds_8 : decode cX6_givesBeds 8 = .ok (.if_icmp .ge 48, 3) := by decide +kernel
theorem dX6_givesBeds_11 : decode cX6_givesBeds 11 = .ok (.aload_n 0, 1) := by decide +kernel
theorem dX6_givesBeds_12 : decode cX6_givesBeds 12 = .ok (.iload_n 1, 1) := by decide +kernel
theorem dX6_givesBeds_13 : decode cX6_givesBeds 13 = .ok (.iload_n 3, 1) := by decide +kernel
theorem dX6_givesBeds_14 : decode cX6_givesBeds 14 = .ok (.iload_n 3, 1) := by decide +kernel
theorem dX6_givesBeds_15 : decode cX6_givesBeds 15 = .ok (.aload_n 0, 1) := by decide +kernel
theorem dX6_givesBeds_16 : decode cX6_givesBeds 16 = .ok (.iload_n 1, 1) := by decide +kernel
theorem dX6_givesBeds_17 : decode cX6_givesBeds 17 = .ok (.iconst 2, 1) := by decide +kernel
theorem dX6_givesBeds_18 : decode cX6_givesBeds 18 = .ok (.invokevirtual 77, 3) := by decide +kernel
theorem dX6_givesBeds_21 : decode cX6_givesBeds 21 = .ok (.if_icmp .ge 7, 3) := by decide +kernel
theorem dX6_givesBeds_24 : decode cX6_givesBeds 24 = .ok (.iconst 1, 1) := by decide +kernel
theorem dX6_givesBeds_25 : decode cX6_givesBeds 25 = .ok (.goto 4, 3) := by decide +kernel
theorem dX6_givesBeds_28 : decode cX6_givesBeds 28 = .ok (.iconst 2, 1) := by decide +kernel
theorem dX6_givesBeds_29 : decode cX6_givesBeds 29 = .ok (.iload_n 2, 1) := by decide +kernel
theorem dX6_givesBeds_30 : decode cX6_givesBeds 30 = .ok (.invokevirtual 289, 3) := by decide +kernel
theorem dX6_givesBeds_33 : decode cX6_givesBeds 33 = .ok (.istore 4, 2) := by decide +kernel
theorem dX6_givesBeds_35 : decode cX6_givesBeds 35 = .ok (.iload 4, 2) := by decide +kernel
theorem dX6_givesBeds_37 : decode cX6_givesBeds 37 = .ok (.ifCond .ne 13, 3) := by decide +kernel
theorem dX6_givesBeds_40 : decode cX6_givesBeds 40 = .ok (.aload_n 0, 1) := by decide +kernel
theorem dX6_givesBeds_41 : decode cX6_givesBeds 41 = .ok (.iload_n 1, 1) := by decide +kernel
theorem dX6_givesBeds_42 : decode cX6_givesBeds 42 = .ok (.iload_n 3, 1) := by decide +kernel
theorem dX6_givesBeds_43 : decode cX6_givesBeds 43 = .ok (.iconst 0, 1) := by decide +kernel
theorem dX6_givesBeds_44 : decode cX6_givesBeds 44 = .ok (.iload_n 2, 1) := by decide +kernel
theorem dX6_givesBeds_45 : decode cX6_givesBeds 45 = .ok (.invokevirtual 289, 3) := by decide +kernel
theorem dX6_givesBeds_48 : decode cX6_givesBeds 48 = .ok (.istore 4, 2) := by decide +kernel
theorem dX6_givesBeds_50 : decode cX6_givesBeds 50 = .ok (.iinc 3 1, 3) := by decide +kernel
theorem dX6_givesBeds_53 : decode cX6_givesBeds 53 = .ok (.goto (-51), 3) := by decide +kernel
theorem dX6_givesBeds_56 : decode cX6_givesBeds 56 = .ok (.return_, 1) := by decide +kernel
theorem dX6_places_0 : decode cX6_places 0 = .ok (.aload_n 0, 1) := by decide +kernel
theorem dX6_places_1 : decode cX6_places 1 = .ok (.iload_n 1, 1) := by decide +kernel
theorem dX6_places_2 : decode cX6_places 2 = .ok (.invokevirtual 293, 3) := by decide +kernel
theorem dX6_places_5 : decode cX6_places 5 = .ok (.istore_n 2, 1) := by decide +kernel
theorem dX6_places_6 : decode cX6_places 6 = .ok (.iload_n 2, 1) := by decide +kernel
theorem dX6_places_7 : decode cX6_places 7 = .ok (.iconst (-1), 1) := by decide +kernel
theorem dX6_places_8 : decode cX6_places 8 = .ok (.if_icmp .eq 19, 3) := by decide +kernel
theorem dX6_places_11 : decode cX6_places 11 = .ok (.aload_n 0, 1) := by decide +kernel
theorem dX6_places_12 : decode cX6_places 12 = .ok (.getfield 37, 3) := by decide +kernel
theorem dX6_places_15 : decode cX6_places 15 = .ok (.iload_n 1, 1) := by decide +kernel
theorem dX6_places_16 : decode cX6_places 16 = .ok (.iconst 1, 1) := by decide +kernel
theorem dX6_places_17 : decode cX6_places 17 = .ok (.iastore, 1) := by decide +kernel
theorem dX6_places_18 : decode cX6_places 18 = .ok (.aload_n 0, 1) := by decide +kernel
theorem dX6_places_19 : decode cX6_places 19 = .ok (.iload_n 1, 1) := by decide +kernel
theorem dX6_places_20 : decode cX6_places 20 = .ok (.iconst 1, 1) := by decide +kernel
theorem dX6_places_21 : decode cX6_places 21 = .ok (.iload_n 2, 1) := by decide +kernel
theorem dX6_places_22 : decode cX6_places 22 = .ok (.ishl, 1) := by decide +kernel
theorem dX6_places_23 : decode cX6_places 23 = .ok (.invokevirtual 296, 3) := by decide +kernel
theorem dX6_places_26 : decode cX6_places 26 = .ok (.return_, 1) := by decide +kernel
theorem dX6_places_27 : decode cX6_places 27 = .ok (.aload_n 0, 1) := by decide +kernel
theorem dX6_places_28 : decode cX6_places 28 = .ok (.iload_n 1, 1) := by decide +kernel
theorem dX6_places_29 : decode cX6_places 29 = .ok (.bipush 6, 2) := by decide +kernel
theorem dX6_places_31 : decode cX6_places 31 = .ok (.invokevirtual 77, 3) := by decide +kernel
theorem dX6_places_34 : decode cX6_places 34 = .ok (.iconst 1, 1) := by decide +kernel
theorem dX6_places_35 : decode cX6_places 35 = .ok (.if_icmp .ne 7, 3) := by decide +kernel
theorem dX6_places_38 : decode cX6_places 38 = .ok (.iconst (-1), 1) := by decide +kernel
theorem dX6_places_39 : decode cX6_places 39 = .ok (.goto 8, 3) := by decide +kernel
theorem dX6_places_42 : decode cX6_places 42 = .ok (.aload_n 0, 1) := by decide +kernel
theorem dX6_places_43 : decode cX6_places 43 = .ok (.iload_n 1, 1) := by decide +kernel
theorem dX6_places_44 : decode cX6_places 44 = .ok (.invokevirtual 299, 3) := by decide +kernel
theorem dX6_places_47 : decode cX6_places 47 = .ok (.istore_n 3, 1) := by decide +kernel
theorem dX6_places_48 : decode cX6_places 48 = .ok (.aload_n 0, 1) := by decide +kernel
theorem dX6_places_49 : decode cX6_places 49 = .ok (.getfield 37, 3) := by decide +kernel
theorem dX6_places_52 : decode cX6_places 52 = .ok (.iload_n 1, 1) := by decide +kernel
theorem dX6_places_53 : decode cX6_places 53 = .ok (.iload_n 3, 1) := by decide +kernel
theorem dX6_places_54 : decode cX6_places 54 = .ok (.iconst (-1), 1) := by decide +kernel
theorem dX6_places_55 : decode cX6_places 55 = .ok (.if_icmp .ne 7, 3) := by decide +kernel
theorem dX6_places_58 : decode cX6_places 58 = .ok (.iconst 3, 1) := by decide +kernel
theorem dX6_places_59 : decode cX6_places 59 = .ok (.goto 4, 3) := by decide +kernel
theorem dX6_places_62 : decode cX6_places 62 = .ok (.iconst 2, 1) := by decide +kernel
theorem dX6_places_63 : decode cX6_places 63 = .ok (.iastore, 1) := by decide +kernel
theorem dX6_places_64 : decode cX6_places 64 = .ok (.iload_n 3, 1) := by decide +kernel
theorem dX6_places_65 : decode cX6_places 65 = .ok (.iconst (-1), 1) := by decide +kernel
theorem dX6_places_66 : decode cX6_places 66 = .ok (.if_icmp .eq 9, 3) := by decide +kernel
theorem dX6_places_69 : decode cX6_places 69 = .ok (.aload_n 0, 1) := by decide +kernel
theorem dX6_places_70 : decode cX6_places 70 = .ok (.iload_n 1, 1) := by decide +kernel
theorem dX6_places_71 : decode cX6_places 71 = .ok (.iload_n 3, 1) := by decide +kernel
theorem dX6_places_72 : decode cX6_places 72 = .ok (.invokevirtual 296, 3) := by decide +kernel
theorem dX6_places_75 : decode cX6_places 75 = .ok (.return_, 1) := by decide +kernel
theorem dX6_isPlacedAt_0 : decode cX6_isPlacedAt 0 = .ok (.aload_n 0, 1) := by decide +kernel
theorem dX6_isPlacedAt_1 : decode cX6_isPlacedAt 1 = .ok (.iload_n 1, 1) := by decide +kernel
theorem dX6_isPlacedAt_2 : decode cX6_isPlacedAt 2 = .ok (.bipush 8, 2) := by decide +kernel
theorem dX6_isPlacedAt_4 : decode cX6_isPlacedAt 4 = .ok (.invokevirtual 77, 3) := by decide +kernel
theorem dX6_isPlacedAt_7 : decode cX6_isPlacedAt 7 = .ok (.iconst 1, 1) := by decide +kernel
theorem dX6_isPlacedAt_8 : decode cX6_isPlacedAt 8 = .ok (.if_icmp .ne 27, 3) := by decide +kernel
theorem dX6_isPlacedAt_11 : decode cX6_isPlacedAt 11 = .ok (.aload_n 0, 1) := by decide +kernel
theorem dX6_isPlacedAt_12 : decode cX6_isPlacedAt 12 = .ok (.iload_n 1, 1) := by decide +kernel
theorem dX6_isPlacedAt_13 : decode cX6_isPlacedAt 13 = .ok (.bipush 7, 2) := by decide +kernel
theorem dX6_isPlacedAt_15 : decode cX6_isPlacedAt 15 = .ok (.invokevirtual 77, 3) := by decide +kernel
theorem dX6_isPlacedAt_18 : decode cX6_isPlacedAt 18 = .ok (.ifCond .ne 17, 3) := by decide +kernel
theorem dX6_isPlacedAt_21 : decode cX6_isPlacedAt 21 = .ok (.aload_n 0, 1) := by decide +kernel
theorem dX6_isPlacedAt_22 : decode cX6_isPlacedAt 22 = .ok (.iload_n 1, 1) := by decide +kernel
theorem dX6_isPlacedAt_23 : decode cX6_isPlacedAt 23 = .ok (.iconst 0, 1) := by decide +kernel
theorem dX6_isPlacedAt_24 : decode cX6_isPlacedAt 24 = .ok (.invokevirtual 77, 3) := by decide +kernel
theorem dX6_isPlacedAt_27 : decode cX6_isPlacedAt 27 = .ok (.iload_n 2, 1) := by decide +kernel
theorem dX6_isPlacedAt_28 : decode cX6_isPlacedAt 28 = .ok (.if_icmp .ne 7, 3) := by decide +kernel
theorem dX6_isPlacedAt_31 : decode cX6_isPlacedAt 31 = .ok (.iconst 1, 1) := by decide +kernel
theorem dX6_isPlacedAt_32 : decode cX6_isPlacedAt 32 = .ok (.goto 4, 3) := by decide +kernel
theorem dX6_isPlacedAt_35 : decode cX6_isPlacedAt 35 = .ok (.iconst 0, 1) := by decide +kernel
theorem dX6_isPlacedAt_36 : decode cX6_isPlacedAt 36 = .ok (.ireturn, 1) := by decide +kernel
theorem dX6_placesAll_0 : decode cX6_placesAll 0 = .ok (.iconst 0, 1) := by decide +kernel
theorem dX6_placesAll_1 : decode cX6_placesAll 1 = .ok (.istore_n 1, 1) := by decide +kernel
theorem dX6_placesAll_2 : decode cX6_placesAll 2 = .ok (.iload_n 1, 1) := by decide +kernel
theorem dX6_placesAll_3 : decode cX6_placesAll 3 = .ok (.aload_n 0, 1) := by decide +kernel
theorem dX6_placesAll_4 : decode cX6_placesAll 4 = .ok (.getfield 34, 3) := by decide +kernel
theorem dX6_placesAll_7 : decode cX6_placesAll 7 = .ok (.arraylength, 1) := by decide +kernel
theorem dX6_placesAll_8 : decode cX6_placesAll 8 = .ok (.if_icmp .ge 16, 3) := by decide +kernel
theorem dX6_placesAll_11 : decode cX6_placesAll 11 = .ok (.aload_n 0, 1) := by decide +kernel
theorem dX6_placesAll_12 : decode cX6_placesAll 12 = .ok (.getfield 34, 3) := by decide +kernel
theorem dX6_placesAll_15 : decode cX6_placesAll 15 = .ok (.iload_n 1, 1) := by decide +kernel
theorem dX6_placesAll_16 : decode cX6_placesAll 16 = .ok (.iconst (-1), 1) := by decide +kernel
theorem dX6_placesAll_17 : decode cX6_placesAll 17 = .ok (.iastore, 1) := by decide +kernel
theorem dX6_placesAll_18 : decode cX6_placesAll 18 = .ok (.iinc 1 1, 3) := by decide +kernel
theorem dX6_placesAll_21 : decode cX6_placesAll 21 = .ok (.goto (-19), 3) := by decide +kernel
theorem dX6_placesAll_24 : decode cX6_placesAll 24 = .ok (.iconst 0, 1) := by decide +kernel
theorem dX6_placesAll_25 : decode cX6_placesAll 25 = .ok (.istore_n 1, 1) := by decide +kernel
theorem dX6_placesAll_26 : decode cX6_placesAll 26 = .ok (.iload_n 1, 1) := by decide +kernel
theorem dX6_placesAll_27 : decode cX6_placesAll 27 = .ok (.aload_n 0, 1) := by decide +kernel
theorem dX6_placesAll_28 : decode cX6_placesAll 28 = .ok (.getfield 37, 3) := by decide +kernel
theorem dX6_placesAll_31 : decode cX6_placesAll 31 = .ok (.arraylength, 1) := by decide +kernel
theorem dX6_placesAll_32 : decode cX6_placesAll 32 = .ok (.if_icmp .ge 16, 3) := by decide +kernel
theorem dX6_placesAll_35 : decode cX6_placesAll 35 = .ok (.aload_n 0, 1) := by decide +kernel
theorem dX6_placesAll_36 : decode cX6_placesAll 36 = .ok (.getfield 37, 3) := by decide +kernel
theorem dX6_placesAll_39 : decode cX6_placesAll 39 = .ok (.iload_n 1, 1) := by decide +kernel
theorem dX6_placesAll_40 : decode cX6_placesAll 40 = .ok (.iconst 0, 1) := by decide +kernel
theorem dX6_placesAll_41 : decode cX6_placesAll 41 = .ok (.iastore, 1) := by decide +kernel
theorem dX6_placesAll_42 : decode cX6_placesAll 42 = .ok (.iinc 1 1, 3) := by decide +kernel
theorem dX6_placesAll_45 : decode cX6_placesAll 45 = .ok (.goto (-19), 3) := by decide +kernel
theorem dX6_placesAll_48 : decode cX6_placesAll 48 = .ok (.iconst 0, 1) := by decide +kernel
theorem dX6_placesAll_49 : decode cX6_placesAll 49 = .ok (.istore_n 1, 1) := by decide +kernel
theorem dX6_placesAll_50 : decode cX6_placesAll 50 = .ok (.iload_n 1, 1) := by decide +kernel
theorem dX6_placesAll_51 : decode cX6_placesAll 51 = .ok (.bipush 30, 2) := by decide +kernel
theorem dX6_placesAll_53 : decode cX6_placesAll 53 = .ok (.if_icmp .ge 41, 3) := by decide +kernel
theorem dX6_placesAll_56 : decode cX6_placesAll 56 = .ok (.iconst 0, 1) := by decide +kernel
theorem dX6_placesAll_57 : decode cX6_placesAll 57 = .ok (.istore_n 2, 1) := by decide +kernel
theorem dX6_placesAll_58 : decode cX6_placesAll 58 = .ok (.iload_n 2, 1) := by decide +kernel
theorem dX6_placesAll_59 : decode cX6_placesAll 59 = .ok (.aload_n 0, 1) := by decide +kernel
theorem dX6_placesAll_60 : decode cX6_placesAll 60 = .ok (.bipush 37, 2) := by decide +kernel
theorem dX6_placesAll_62 : decode cX6_placesAll 62 = .ok (.invokevirtual 69, 3) := by decide +kernel
theorem dX6_placesAll_65 : decode cX6_placesAll 65 = .ok (.if_icmp .ge 23, 3) := by decide +kernel
theorem dX6_placesAll_68 : decode cX6_placesAll 68 = .ok (.aload_n 0, 1) := by decide +kernel
theorem dX6_placesAll_69 : decode cX6_placesAll 69 = .ok (.iload_n 2, 1) := by decide +kernel
theorem dX6_placesAll_70 : decode cX6_placesAll 70 = .ok (.iload_n 1, 1) := by decide +kernel
theorem dX6_placesAll_71 : decode cX6_placesAll 71 = .ok (.invokevirtual 302, 3) := by decide +kernel
theorem dX6_placesAll_74 : decode cX6_placesAll 74 = .ok (.ifCond .eq 8, 3) := by decide +kernel
theorem dX6_placesAll_77 : decode cX6_placesAll 77 = .ok (.aload_n 0, 1) := by decide +kernel
theorem dX6_placesAll_78 : decode cX6_placesAll 78 = .ok (.iload_n 2, 1) := by decide +kernel
theorem dX6_placesAll_79 : decode cX6_placesAll 79 = .ok (.invokevirtual 305, 3) := by decide +kernel
theorem dX6_placesAll_82 : decode cX6_placesAll 82 = .ok (.iinc 2 1, 3) := by decide +kernel
theorem dX6_placesAll_85 : decode cX6_placesAll 85 = .ok (.goto (-27), 3) := by decide +kernel
theorem dX6_placesAll_88 : decode cX6_placesAll 88 = .ok (.iinc 1 1, 3) := by decide +kernel
theorem dX6_placesAll_91 : decode cX6_placesAll 91 = .ok (.goto (-41), 3) := by decide +kernel
theorem dX6_placesAll_94 : decode cX6_placesAll 94 = .ok (.return_, 1) := by decide +kernel
theorem dX6_hasBeds_0 : decode cX6_hasBeds 0 = .ok (.aload_n 0, 1) := by decide +kernel
theorem dX6_hasBeds_1 : decode cX6_hasBeds 1 = .ok (.getfield 37, 3) := by decide +kernel
theorem dX6_hasBeds_4 : decode cX6_hasBeds 4 = .ok (.iload_n 1, 1) := by decide +kernel
theorem dX6_hasBeds_5 : decode cX6_hasBeds 5 = .ok (.iaload, 1) := by decide +kernel
theorem dX6_hasBeds_6 : decode cX6_hasBeds 6 = .ok (.iconst 1, 1) := by decide +kernel
theorem dX6_hasBeds_7 : decode cX6_hasBeds 7 = .ok (.if_icmp .eq 13, 3) := by decide +kernel
theorem dX6_hasBeds_10 : decode cX6_hasBeds 10 = .ok (.aload_n 0, 1) := by decide +kernel
theorem dX6_hasBeds_11 : decode cX6_hasBeds 11 = .ok (.getfield 37, 3) := by decide +kernel
theorem dX6_hasBeds_14 : decode cX6_hasBeds 14 = .ok (.iload_n 1, 1) := by decide +kernel
theorem dX6_hasBeds_15 : decode cX6_hasBeds 15 = .ok (.iaload, 1) := by decide +kernel
theorem dX6_hasBeds_16 : decode cX6_hasBeds 16 = .ok (.iconst 2, 1) := by decide +kernel
theorem dX6_hasBeds_17 : decode cX6_hasBeds 17 = .ok (.if_icmp .ne 7, 3) := by decide +kernel
theorem dX6_hasBeds_20 : decode cX6_hasBeds 20 = .ok (.iconst 1, 1) := by decide +kernel
theorem dX6_hasBeds_21 : decode cX6_hasBeds 21 = .ok (.goto 4, 3) := by decide +kernel
theorem dX6_hasBeds_24 : decode cX6_hasBeds 24 = .ok (.iconst 0, 1) := by decide +kernel
theorem dX6_hasBeds_25 : decode cX6_hasBeds 25 = .ok (.ireturn, 1) := by decide +kernel
theorem dX6_placed_0 : decode cX6_placed 0 = .ok (.aload_n 0, 1) := by decide +kernel
theorem dX6_placed_1 : decode cX6_placed 1 = .ok (.iconst 0, 1) := by decide +kernel
theorem dX6_placed_2 : decode cX6_placed 2 = .ok (.putfield 63, 3) := by decide +kernel
theorem dX6_placed_5 : decode cX6_placed 5 = .ok (.aload_n 0, 1) := by decide +kernel
theorem dX6_placed_6 : decode cX6_placed 6 = .ok (.iload_n 1, 1) := by decide +kernel
theorem dX6_placed_7 : decode cX6_placed 7 = .ok (.invokevirtual 260, 3) := by decide +kernel
theorem dX6_placed_10 : decode cX6_placed 10 = .ok (.ifCond .ne 9, 3) := by decide +kernel
theorem dX6_placed_13 : decode cX6_placed 13 = .ok (.aload_n 0, 1) := by decide +kernel
theorem dX6_placed_14 : decode cX6_placed 14 = .ok (.iconst 1, 1) := by decide +kernel
theorem dX6_placed_15 : decode cX6_placed 15 = .ok (.invokevirtual 95, 3) := by decide +kernel
theorem dX6_placed_18 : decode cX6_placed 18 = .ok (.ireturn, 1) := by decide +kernel
theorem dX6_placed_19 : decode cX6_placed 19 = .ok (.aload_n 0, 1) := by decide +kernel
theorem dX6_placed_20 : decode cX6_placed 20 = .ok (.invokevirtual 308, 3) := by decide +kernel
theorem dX6_placed_23 : decode cX6_placed 23 = .ok (.aload_n 0, 1) := by decide +kernel
theorem dX6_placed_24 : decode cX6_placed 24 = .ok (.getfield 37, 3) := by decide +kernel
theorem dX6_placed_27 : decode cX6_placed 27 = .ok (.iload_n 1, 1) := by decide +kernel
theorem dX6_placed_28 : decode cX6_placed 28 = .ok (.iaload, 1) := by decide +kernel
theorem dX6_placed_29 : decode cX6_placed 29 = .ok (.ireturn, 1) := by decide +kernel
theorem dX6_roomsOf_0 : decode cX6_roomsOf 0 = .ok (.aload_n 0, 1) := by decide +kernel
theorem dX6_roomsOf_1 : decode cX6_roomsOf 1 = .ok (.iconst 0, 1) := by decide +kernel
theorem dX6_roomsOf_2 : decode cX6_roomsOf 2 = .ok (.putfield 63, 3) := by decide +kernel
theorem dX6_roomsOf_5 : decode cX6_roomsOf 5 = .ok (.aload_n 0, 1) := by decide +kernel
theorem dX6_roomsOf_6 : decode cX6_roomsOf 6 = .ok (.iload_n 1, 1) := by decide +kernel
theorem dX6_roomsOf_7 : decode cX6_roomsOf 7 = .ok (.invokevirtual 260, 3) := by decide +kernel
theorem dX6_roomsOf_10 : decode cX6_roomsOf 10 = .ok (.ifCond .ne 9, 3) := by decide +kernel
theorem dX6_roomsOf_13 : decode cX6_roomsOf 13 = .ok (.aload_n 0, 1) := by decide +kernel
theorem dX6_roomsOf_14 : decode cX6_roomsOf 14 = .ok (.iconst 1, 1) := by decide +kernel
theorem dX6_roomsOf_15 : decode cX6_roomsOf 15 = .ok (.invokevirtual 95, 3) := by decide +kernel
theorem dX6_roomsOf_18 : decode cX6_roomsOf 18 = .ok (.ireturn, 1) := by decide +kernel
theorem dX6_roomsOf_19 : decode cX6_roomsOf 19 = .ok (.aload_n 0, 1) := by decide +kernel
theorem dX6_roomsOf_20 : decode cX6_roomsOf 20 = .ok (.invokevirtual 308, 3) := by decide +kernel
theorem dX6_roomsOf_23 : decode cX6_roomsOf 23 = .ok (.iconst 0, 1) := by decide +kernel
theorem dX6_roomsOf_24 : decode cX6_roomsOf 24 = .ok (.istore_n 2, 1) := by decide +kernel
theorem dX6_roomsOf_25 : decode cX6_roomsOf 25 = .ok (.iconst 0, 1) := by decide +kernel
theorem dX6_roomsOf_26 : decode cX6_roomsOf 26 = .ok (.istore_n 3, 1) := by decide +kernel
theorem dX6_roomsOf_27 : decode cX6_roomsOf 27 = .ok (.iload_n 3, 1) := by decide +kernel
theorem dX6_roomsOf_28 : decode cX6_roomsOf 28 = .ok (.aload_n 0, 1) := by decide +kernel
theorem dX6_roomsOf_29 : decode cX6_roomsOf 29 = .ok (.iload_n 1, 1) := by decide +kernel
theorem dX6_roomsOf_30 : decode cX6_roomsOf 30 = .ok (.invokevirtual 239, 3) := by decide +kernel
theorem dX6_roomsOf_33 : decode cX6_roomsOf 33 = .ok (.if_icmp .ge 33, 3) := by decide +kernel
theorem dX6_roomsOf_36 : decode cX6_roomsOf 36 = .ok (.aload_n 0, 1) := by decide +kernel
theorem dX6_roomsOf_37 : decode cX6_roomsOf 37 = .ok (.iload_n 1, 1) := by decide +kernel
theorem dX6_roomsOf_38 : decode cX6_roomsOf 38 = .ok (.invokevirtual 311, 3) := by decide +kernel
theorem dX6_roomsOf_41 : decode cX6_roomsOf 41 = .ok (.ifCond .eq 25, 3) := by decide +kernel
theorem dX6_roomsOf_44 : decode cX6_roomsOf 44 = .ok (.iload_n 2, 1) := by decide +kernel
theorem dX6_roomsOf_45 : decode cX6_roomsOf 45 = .ok (.iconst 1, 1) := by decide +kernel
theorem dX6_roomsOf_46 : decode cX6_roomsOf 46 = .ok (.aload_n 0, 1) := by decide +kernel
theorem dX6_roomsOf_47 : decode cX6_roomsOf 47 = .ok (.getfield 40, 3) := by decide +kernel
theorem dX6_roomsOf_50 : decode cX6_roomsOf 50 = .ok (.bipush 12, 2) := by decide +kernel
theorem dX6_roomsOf_52 : decode cX6_roomsOf 52 = .ok (.iload_n 1, 1) := by decide +kernel
theorem dX6_roomsOf_53 : decode cX6_roomsOf 53 = .ok (.imul, 1) := by decide +kernel
theorem dX6_roomsOf_54 : decode cX6_roomsOf 54 = .ok (.iload_n 3, 1) := by decide +kernel
theorem dX6_roomsOf_55 : decode cX6_roomsOf 55 = .ok (.iadd, 1) := by decide +kernel
theorem dX6_roomsOf_56 : decode cX6_roomsOf 56 = .ok (.iaload, 1) := by decide +kernel
theorem dX6_roomsOf_57 : decode cX6_roomsOf 57 = .ok (.ishl, 1) := by decide +kernel
theorem dX6_roomsOf_58 : decode cX6_roomsOf 58 = .ok (.ior, 1) := by decide +kernel
theorem dX6_roomsOf_59 : decode cX6_roomsOf 59 = .ok (.istore_n 2, 1) := by decide +kernel
theorem dX6_roomsOf_60 : decode cX6_roomsOf 60 = .ok (.iinc 3 1, 3) := by decide +kernel
theorem dX6_roomsOf_63 : decode cX6_roomsOf 63 = .ok (.goto (-36), 3) := by decide +kernel
theorem dX6_roomsOf_66 : decode cX6_roomsOf 66 = .ok (.iload_n 2, 1) := by decide +kernel
theorem dX6_roomsOf_67 : decode cX6_roomsOf 67 = .ok (.ireturn, 1) := by decide +kernel
theorem dX6_whyNoBed_0 : decode cX6_whyNoBed 0 = .ok (.aload_n 0, 1) := by decide +kernel
theorem dX6_whyNoBed_1 : decode cX6_whyNoBed 1 = .ok (.iload_n 1, 1) := by decide +kernel
theorem dX6_whyNoBed_2 : decode cX6_whyNoBed 2 = .ok (.invokevirtual 260, 3) := by decide +kernel
theorem dX6_whyNoBed_5 : decode cX6_whyNoBed 5 = .ok (.ifCond .eq 18, 3) := by decide +kernel
theorem dX6_whyNoBed_8 : decode cX6_whyNoBed 8 = .ok (.iload_n 2, 1) := by decide +kernel
theorem dX6_whyNoBed_9 : decode cX6_whyNoBed 9 = .ok (.iconst 0, 1) := by decide +kernel
theorem dX6_whyNoBed_10 : decode cX6_whyNoBed 10 = .ok (.aload_n 0, 1) := by decide +kernel
theorem dX6_whyNoBed_11 : decode cX6_whyNoBed 11 = .ok (.iload_n 1, 1) := by decide +kernel
theorem dX6_whyNoBed_12 : decode cX6_whyNoBed 12 = .ok (.invokevirtual 239, 3) := by decide +kernel
theorem dX6_whyNoBed_15 : decode cX6_whyNoBed 15 = .ok (.iconst 1, 1) := by decide +kernel
theorem dX6_whyNoBed_16 : decode cX6_whyNoBed 16 = .ok (.isub, 1) := by decide +kernel
theorem dX6_whyNoBed_17 : decode cX6_whyNoBed 17 = .ok (.invokestatic 81, 3) := by decide +kernel
theorem dX6_whyNoBed_20 : decode cX6_whyNoBed 20 = .ok (.ifCond .ne 5, 3) := by decide +kernel
theorem dX6_whyNoBed_23 : decode cX6_whyNoBed 23 = .ok (.iconst 1, 1) := by decide +kernel
theorem dX6_whyNoBed_24 : decode cX6_whyNoBed 24 = .ok (.ireturn, 1) := by decide +kernel
theorem dX6_whyNoBed_25 : decode cX6_whyNoBed 25 = .ok (.aload_n 0, 1) := by decide +kernel
theorem dX6_whyNoBed_26 : decode cX6_whyNoBed 26 = .ok (.invokevirtual 308, 3) := by decide +kernel
theorem dX6_whyNoBed_29 : decode cX6_whyNoBed 29 = .ok (.aload_n 0, 1) := by decide +kernel
theorem dX6_whyNoBed_30 : decode cX6_whyNoBed 30 = .ok (.iload_n 1, 1) := by decide +kernel
theorem dX6_whyNoBed_31 : decode cX6_whyNoBed 31 = .ok (.invokevirtual 311, 3) := by decide +kernel
theorem dX6_whyNoBed_34 : decode cX6_whyNoBed 34 = .ok (.ifCond .eq 7, 3) := by decide +kernel
theorem dX6_whyNoBed_37 : decode cX6_whyNoBed 37 = .ok (.iconst 0, 1) := by decide +kernel
theorem dX6_whyNoBed_38 : decode cX6_whyNoBed 38 = .ok (.goto 4, 3) := by decide +kernel
theorem dX6_whyNoBed_41 : decode cX6_whyNoBed 41 = .ok (.iconst 2, 1) := by decide +kernel
theorem dX6_whyNoBed_42 : decode cX6_whyNoBed 42 = .ok (.ireturn, 1) := by decide +kernel
theorem dX6_roomOf_0 : decode cX6_roomOf 0 = .ok (.aload_n 0, 1) := by decide +kernel
theorem dX6_roomOf_1 : decode cX6_roomOf 1 = .ok (.aload_n 0, 1) := by decide +kernel
theorem dX6_roomOf_2 : decode cX6_roomOf 2 = .ok (.iload_n 1, 1) := by decide +kernel
theorem dX6_roomOf_3 : decode cX6_roomOf 3 = .ok (.iload_n 2, 1) := by decide +kernel
theorem dX6_roomOf_4 : decode cX6_roomOf 4 = .ok (.invokevirtual 314, 3) := by decide +kernel
theorem dX6_roomOf_7 : decode cX6_roomOf 7 = .ok (.putfield 63, 3) := by decide +kernel
theorem dX6_roomOf_10 : decode cX6_roomOf 10 = .ok (.aload_n 0, 1) := by decide +kernel
theorem dX6_roomOf_11 : decode cX6_roomOf 11 = .ok (.getfield 63, 3) := by decide +kernel
theorem dX6_roomOf_14 : decode cX6_roomOf 14 = .ok (.ifCond .ne 17, 3) := by decide +kernel
theorem dX6_roomOf_17 : decode cX6_roomOf 17 = .ok (.aload_n 0, 1) := by decide +kernel
theorem dX6_roomOf_18 : decode cX6_roomOf 18 = .ok (.getfield 40, 3) := by decide +kernel
theorem dX6_roomOf_21 : decode cX6_roomOf 21 = .ok (.bipush 12, 2) := by decide +kernel
theorem dX6_roomOf_23 : decode cX6_roomOf 23 = .ok (.iload_n 1, 1) := by decide +kernel
theorem dX6_roomOf_24 : decode cX6_roomOf 24 = .ok (.imul, 1) := by decide +kernel
theorem dX6_roomOf_25 : decode cX6_roomOf 25 = .ok (.iload_n 2, 1) := by decide +kernel
theorem dX6_roomOf_26 : decode cX6_roomOf 26 = .ok (.iadd, 1) := by decide +kernel
theorem dX6_roomOf_27 : decode cX6_roomOf 27 = .ok (.iaload, 1) := by decide +kernel
theorem dX6_roomOf_28 : decode cX6_roomOf 28 = .ok (.goto 4, 3) := by decide +kernel
theorem dX6_roomOf_31 : decode cX6_roomOf 31 = .ok (.iconst 0, 1) := by decide +kernel
theorem dX6_roomOf_32 : decode cX6_roomOf 32 = .ok (.ireturn, 1) := by decide +kernel
theorem dX6_bedOf_0 : decode cX6_bedOf 0 = .ok (.aload_n 0, 1) := by decide +kernel
theorem dX6_bedOf_1 : decode cX6_bedOf 1 = .ok (.aload_n 0, 1) := by decide +kernel
theorem dX6_bedOf_2 : decode cX6_bedOf 2 = .ok (.iload_n 1, 1) := by decide +kernel
theorem dX6_bedOf_3 : decode cX6_bedOf 3 = .ok (.iload_n 2, 1) := by decide +kernel
theorem dX6_bedOf_4 : decode cX6_bedOf 4 = .ok (.invokevirtual 314, 3) := by decide +kernel
theorem dX6_bedOf_7 : decode cX6_bedOf 7 = .ok (.putfield 63, 3) := by decide +kernel
theorem dX6_bedOf_10 : decode cX6_bedOf 10 = .ok (.aload_n 0, 1) := by decide +kernel
theorem dX6_bedOf_11 : decode cX6_bedOf 11 = .ok (.getfield 63, 3) := by decide +kernel
theorem dX6_bedOf_14 : decode cX6_bedOf 14 = .ok (.ifCond .ne 17, 3) := by decide +kernel
theorem dX6_bedOf_17 : decode cX6_bedOf 17 = .ok (.aload_n 0, 1) := by decide +kernel
theorem dX6_bedOf_18 : decode cX6_bedOf 18 = .ok (.getfield 43, 3) := by decide +kernel
theorem dX6_bedOf_21 : decode cX6_bedOf 21 = .ok (.bipush 12, 2) := by decide +kernel
theorem dX6_bedOf_23 : decode cX6_bedOf 23 = .ok (.iload_n 1, 1) := by decide +kernel
theorem dX6_bedOf_24 : decode cX6_bedOf 24 = .ok (.imul, 1) := by decide +kernel
theorem dX6_bedOf_25 : decode cX6_bedOf 25 = .ok (.iload_n 2, 1) := by decide +kernel
theorem dX6_bedOf_26 : decode cX6_bedOf 26 = .ok (.iadd, 1) := by decide +kernel
theorem dX6_bedOf_27 : decode cX6_bedOf 27 = .ok (.iaload, 1) := by decide +kernel
theorem dX6_bedOf_28 : decode cX6_bedOf 28 = .ok (.goto 4, 3) := by decide +kernel
theorem dX6_bedOf_31 : decode cX6_bedOf 31 = .ok (.iconst 0, 1) := by decide +kernel
theorem dX6_bedOf_32 : decode cX6_bedOf 32 = .ok (.ireturn, 1) := by decide +kernel
theorem dX6_occupant_0 : decode cX6_occupant 0 = .ok (.aload_n 0, 1) := by decide +kernel
theorem dX6_occupant_1 : decode cX6_occupant 1 = .ok (.iconst 0, 1) := by decide +kernel
theorem dX6_occupant_2 : decode cX6_occupant 2 = .ok (.putfield 63, 3) := by decide +kernel
theorem dX6_occupant_5 : decode cX6_occupant 5 = .ok (.aload_n 0, 1) := by decide +kernel
theorem dX6_occupant_6 : decode cX6_occupant 6 = .ok (.iload_n 1, 1) := by decide +kernel
theorem dX6_occupant_7 : decode cX6_occupant 7 = .ok (.iload_n 2, 1) := by decide +kernel
theorem dX6_occupant_8 : decode cX6_occupant 8 = .ok (.invokevirtual 317, 3) := by decide +kernel
theorem dX6_occupant_11 : decode cX6_occupant 11 = .ok (.ifCond .eq 10, 3) := by decide +kernel
theorem dX6_occupant_14 : decode cX6_occupant 14 = .ok (.iload_n 3, 1) := by decide +kernel
theorem dX6_occupant_15 : decode cX6_occupant 15 = .ok (.invokestatic 320, 3) := by decide +kernel
theorem dX6_occupant_18 : decode cX6_occupant 18 = .ok (.ifCond .ne 9, 3) := by decide +kernel
theorem dX6_occupant_21 : decode cX6_occupant 21 = .ok (.aload_n 0, 1) := by decide +kernel
theorem dX6_occupant_22 : decode cX6_occupant 22 = .ok (.iconst 1, 1) := by decide +kernel
theorem dX6_occupant_23 : decode cX6_occupant 23 = .ok (.invokevirtual 95, 3) := by decide +kernel
theorem dX6_occupant_26 : decode cX6_occupant 26 = .ok (.ireturn, 1) := by decide +kernel
theorem dX6_occupant_27 : decode cX6_occupant 27 = .ok (.aload_n 0, 1) := by decide +kernel
theorem dX6_occupant_28 : decode cX6_occupant 28 = .ok (.invokevirtual 308, 3) := by decide +kernel
theorem dX6_occupant_31 : decode cX6_occupant 31 = .ok (.aload_n 0, 1) := by decide +kernel
theorem dX6_occupant_32 : decode cX6_occupant 32 = .ok (.getfield 34, 3) := by decide +kernel
theorem dX6_occupant_35 : decode cX6_occupant 35 = .ok (.iload_n 1, 1) := by decide +kernel
theorem dX6_occupant_36 : decode cX6_occupant 36 = .ok (.iload_n 2, 1) := by decide +kernel
theorem dX6_occupant_37 : decode cX6_occupant 37 = .ok (.iload_n 3, 1) := by decide +kernel
theorem dX6_occupant_38 : decode cX6_occupant 38 = .ok (.invokestatic 263, 3) := by decide +kernel
theorem dX6_occupant_41 : decode cX6_occupant 41 = .ok (.iaload, 1) := by decide +kernel
theorem dX6_occupant_42 : decode cX6_occupant 42 = .ok (.ireturn, 1) := by decide +kernel
theorem dX6_freeIn_0 : decode cX6_freeIn 0 = .ok (.iconst 0, 1) := by decide +kernel
theorem dX6_freeIn_1 : decode cX6_freeIn 1 = .ok (.istore_n 3, 1) := by decide +kernel
theorem dX6_freeIn_2 : decode cX6_freeIn 2 = .ok (.iconst 0, 1) := by decide +kernel
theorem dX6_freeIn_3 : decode cX6_freeIn 3 = .ok (.istore 4, 2) := by decide +kernel
theorem dX6_freeIn_5 : decode cX6_freeIn 5 = .ok (.iload 4, 2) := by decide +kernel
theorem dX6_freeIn_7 : decode cX6_freeIn 7 = .ok (.aload_n 0, 1) := by decide +kernel
theorem dX6_freeIn_8 : decode cX6_freeIn 8 = .ok (.iload_n 1, 1) := by decide +kernel
theorem dX6_freeIn_9 : decode cX6_freeIn 9 = .ok (.iconst 1, 1) := by decide +kernel
theorem dX6_freeIn_10 : decode cX6_freeIn 10 = .ok (.invokevirtual 89, 3) := by decide +kernel
theorem dX6_freeIn_13 : decode cX6_freeIn 13 = .ok (.if_icmp .ge 33, 3) := by decide +kernel
theorem dX6_freeIn_16 : decode cX6_freeIn 16 = .ok (.iload_n 3, 1) := by decide +kernel
theorem dX6_freeIn_17 : decode cX6_freeIn 17 = .ok (.aload_n 0, 1) := by decide +kernel
theorem dX6_freeIn_18 : decode cX6_freeIn 18 = .ok (.getfield 34, 3) := by decide +kernel
theorem dX6_freeIn_21 : decode cX6_freeIn 21 = .ok (.iload_n 1, 1) := by decide +kernel
theorem dX6_freeIn_22 : decode cX6_freeIn 22 = .ok (.iload 4, 2) := by decide +kernel
theorem dX6_freeIn_24 : decode cX6_freeIn 24 = .ok (.iload_n 2, 1) := by decide +kernel
theorem dX6_freeIn_25 : decode cX6_freeIn 25 = .ok (.invokestatic 263, 3) := by decide +kernel
theorem dX6_freeIn_28 : decode cX6_freeIn 28 = .ok (.iaload, 1) := by decide +kernel
theorem dX6_freeIn_29 : decode cX6_freeIn 29 = .ok (.iconst (-1), 1) := by decide +kernel
theorem dX6_freeIn_30 : decode cX6_freeIn 30 = .ok (.if_icmp .ne 7, 3) := by decide +kernel
theorem dX6_freeIn_33 : decode cX6_freeIn 33 = .ok (.iconst 1, 1) := by decide +kernel
theorem dX6_freeIn_34 : decode cX6_freeIn 34 = .ok (.goto 4, 3) := by decide +kernel
theorem dX6_freeIn_37 : decode cX6_freeIn 37 = .ok (.iconst 0, 1) := by decide +kernel
theorem dX6_freeIn_38 : decode cX6_freeIn 38 = .ok (.iadd, 1) := by decide +kernel
theorem dX6_freeIn_39 : decode cX6_freeIn 39 = .ok (.istore_n 3, 1) := by decide +kernel
theorem dX6_freeIn_40 : decode cX6_freeIn 40 = .ok (.iinc 4 1, 3) := by decide +kernel
theorem dX6_freeIn_43 : decode cX6_freeIn 43 = .ok (.goto (-38), 3) := by decide +kernel
theorem dX6_freeIn_46 : decode cX6_freeIn 46 = .ok (.iload_n 3, 1) := by decide +kernel
theorem dX6_freeIn_47 : decode cX6_freeIn 47 = .ok (.ireturn, 1) := by decide +kernel
theorem dX6_freeBeds_0 : decode cX6_freeBeds 0 = .ok (.aload_n 0, 1) := by decide +kernel
theorem dX6_freeBeds_1 : decode cX6_freeBeds 1 = .ok (.iconst 0, 1) := by decide +kernel
theorem dX6_freeBeds_2 : decode cX6_freeBeds 2 = .ok (.putfield 63, 3) := by decide +kernel
theorem dX6_freeBeds_5 : decode cX6_freeBeds 5 = .ok (.aload_n 0, 1) := by decide +kernel
theorem dX6_freeBeds_6 : decode cX6_freeBeds 6 = .ok (.iload_n 1, 1) := by decide +kernel
theorem dX6_freeBeds_7 : decode cX6_freeBeds 7 = .ok (.invokevirtual 85, 3) := by decide +kernel
theorem dX6_freeBeds_10 : decode cX6_freeBeds 10 = .ok (.ifCond .eq 10, 3) := by decide +kernel
theorem dX6_freeBeds_13 : decode cX6_freeBeds 13 = .ok (.iload_n 2, 1) := by decide +kernel
theorem dX6_freeBeds_14 : decode cX6_freeBeds 14 = .ok (.invokestatic 320, 3) := by decide +kernel
theorem dX6_freeBeds_17 : decode cX6_freeBeds 17 = .ok (.ifCond .ne 9, 3) := by decide +kernel
theorem dX6_freeBeds_20 : decode cX6_freeBeds 20 = .ok (.aload_n 0, 1) := by decide +kernel
theorem dX6_freeBeds_21 : decode cX6_freeBeds 21 = .ok (.iconst 1, 1) := by decide +kernel
theorem dX6_freeBeds_22 : decode cX6_freeBeds 22 = .ok (.invokevirtual 95, 3) := by decide +kernel
theorem dX6_freeBeds_25 : decode cX6_freeBeds 25 = .ok (.ireturn, 1) := by decide +kernel
theorem dX6_freeBeds_26 : decode cX6_freeBeds 26 = .ok (.aload_n 0, 1) := by decide +kernel
theorem dX6_freeBeds_27 : decode cX6_freeBeds 27 = .ok (.invokevirtual 308, 3) := by decide +kernel
theorem dX6_freeBeds_30 : decode cX6_freeBeds 30 = .ok (.aload_n 0, 1) := by decide +kernel
theorem dX6_freeBeds_31 : decode cX6_freeBeds 31 = .ok (.iload_n 1, 1) := by decide +kernel
theorem dX6_freeBeds_32 : decode cX6_freeBeds 32 = .ok (.iload_n 2, 1) := by decide +kernel
theorem dX6_freeBeds_33 : decode cX6_freeBeds 33 = .ok (.invokevirtual 323, 3) := by decide +kernel
theorem dX6_freeBeds_36 : decode cX6_freeBeds 36 = .ok (.ireturn, 1) := by decide +kernel
theorem dX6_occupiedIn_0 : decode cX6_occupiedIn 0 = .ok (.iconst 0, 1) := by decide +kernel
theorem dX6_occupiedIn_1 : decode cX6_occupiedIn 1 = .ok (.istore_n 2, 1) := by decide +kernel
theorem dX6_occupiedIn_2 : decode cX6_occupiedIn 2 = .ok (.iconst 0, 1) := by decide +kernel
theorem dX6_occupiedIn_3 : decode cX6_occupiedIn 3 = .ok (.istore_n 3, 1) := by decide +kernel
theorem dX6_occupiedIn_4 : decode cX6_occupiedIn 4 = .ok (.iload_n 3, 1) := by decide +kernel
theorem dX6_occupiedIn_5 : decode cX6_occupiedIn 5 = .ok (.aload_n 0, 1) := by decide +kernel
theorem dX6_occupiedIn_6 : decode cX6_occupiedIn 6 = .ok (.iconst 4, 1) := by decide +kernel
theorem dX6_occupiedIn_7 : decode cX6_occupiedIn 7 = .ok (.invokevirtual 69, 3) := by decide +kernel
theorem dX6_occupiedIn_10 : decode cX6_occupiedIn 10 = .ok (.if_icmp .ge 25, 3) := by decide +kernel
theorem dX6_occupiedIn_13 : decode cX6_occupiedIn 13 = .ok (.iload_n 2, 1) := by decide +kernel
theorem dX6_occupiedIn_14 : decode cX6_occupiedIn 14 = .ok (.aload_n 0, 1) := by decide +kernel
theorem dX6_occupiedIn_15 : decode cX6_occupiedIn 15 = .ok (.iload_n 3, 1) := by decide +kernel
theorem dX6_occupiedIn_16 : decode cX6_occupiedIn 16 = .ok (.iconst 1, 1) := by decide +kernel
theorem dX6_occupiedIn_17 : decode cX6_occupiedIn 17 = .ok (.invokevirtual 89, 3) := by decide +kernel
theorem dX6_occupiedIn_20 : decode cX6_occupiedIn 20 = .ok (.aload_n 0, 1) := by decide +kernel
theorem dX6_occupiedIn_21 : decode cX6_occupiedIn 21 = .ok (.iload_n 3, 1) := by decide +kernel
theorem dX6_occupiedIn_22 : decode cX6_occupiedIn 22 = .ok (.iload_n 1, 1) := by decide +kernel
theorem dX6_occupiedIn_23 : decode cX6_occupiedIn 23 = .ok (.invokevirtual 323, 3) := by decide +kernel
theorem dX6_occupiedIn_26 : decode cX6_occupiedIn 26 = .ok (.isub, 1) := by decide +kernel
theorem dX6_occupiedIn_27 : decode cX6_occupiedIn 27 = .ok (.iadd, 1) := by decide +kernel
theorem dX6_occupiedIn_28 : decode cX6_occupiedIn 28 = .ok (.istore_n 2, 1) := by decide +kernel
theorem dX6_occupiedIn_29 : decode cX6_occupiedIn 29 = .ok (.iinc 3 1, 3) := by decide +kernel
theorem dX6_occupiedIn_32 : decode cX6_occupiedIn 32 = .ok (.goto (-28), 3) := by decide +kernel
theorem dX6_occupiedIn_35 : decode cX6_occupiedIn 35 = .ok (.iload_n 2, 1) := by decide +kernel
theorem dX6_occupiedIn_36 : decode cX6_occupiedIn 36 = .ok (.ireturn, 1) := by decide +kernel
theorem dX6_occupied_0 : decode cX6_occupied 0 = .ok (.aload_n 0, 1) := by decide +kernel
theorem dX6_occupied_1 : decode cX6_occupied 1 = .ok (.iconst 0, 1) := by decide +kernel
theorem dX6_occupied_2 : decode cX6_occupied 2 = .ok (.putfield 63, 3) := by decide +kernel
theorem dX6_occupied_5 : decode cX6_occupied 5 = .ok (.iload_n 1, 1) := by decide +kernel
theorem dX6_occupied_6 : decode cX6_occupied 6 = .ok (.invokestatic 320, 3) := by decide +kernel
theorem dX6_occupied_9 : decode cX6_occupied 9 = .ok (.ifCond .ne 9, 3) := by decide +kernel
theorem dX6_occupied_12 : decode cX6_occupied 12 = .ok (.aload_n 0, 1) := by decide +kernel
theorem dX6_occupied_13 : decode cX6_occupied 13 = .ok (.iconst 1, 1) := by decide +kernel
theorem dX6_occupied_14 : decode cX6_occupied 14 = .ok (.invokevirtual 95, 3) := by decide +kernel
theorem dX6_occupied_17 : decode cX6_occupied 17 = .ok (.ireturn, 1) := by decide +kernel
theorem dX6_occupied_18 : decode cX6_occupied 18 = .ok (.aload_n 0, 1) := by decide +kernel
theorem dX6_occupied_19 : decode cX6_occupied 19 = .ok (.invokevirtual 308, 3) := by decide +kernel
theorem dX6_occupied_22 : decode cX6_occupied 22 = .ok (.aload_n 0, 1) := by decide +kernel
theorem dX6_occupied_23 : decode cX6_occupied 23 = .ok (.iload_n 1, 1) := by decide +kernel
theorem dX6_occupied_24 : decode cX6_occupied 24 = .ok (.invokevirtual 326, 3) := by decide +kernel
theorem dX6_occupied_27 : decode cX6_occupied 27 = .ok (.ireturn, 1) := by decide +kernel
theorem dX6_booked_0 : decode cX6_booked 0 = .ok (.aload_n 0, 1) := by decide +kernel
theorem dX6_booked_1 : decode cX6_booked 1 = .ok (.iconst 0, 1) := by decide +kernel
theorem dX6_booked_2 : decode cX6_booked 2 = .ok (.putfield 63, 3) := by decide +kernel
theorem dX6_booked_5 : decode cX6_booked 5 = .ok (.iload_n 1, 1) := by decide +kernel
theorem dX6_booked_6 : decode cX6_booked 6 = .ok (.invokestatic 320, 3) := by decide +kernel
theorem dX6_booked_9 : decode cX6_booked 9 = .ok (.ifCond .eq 11, 3) := by decide +kernel
theorem dX6_booked_12 : decode cX6_booked 12 = .ok (.aload_n 0, 1) := by decide +kernel
theorem dX6_booked_13 : decode cX6_booked 13 = .ok (.iload_n 1, 1) := by decide +kernel
theorem dX6_booked_14 : decode cX6_booked 14 = .ok (.invokevirtual 245, 3) := by decide +kernel
theorem dX6_booked_17 : decode cX6_booked 17 = .ok (.goto 8, 3) := by decide +kernel
theorem dX6_booked_20 : decode cX6_booked 20 = .ok (.aload_n 0, 1) := by decide +kernel
theorem dX6_booked_21 : decode cX6_booked 21 = .ok (.iconst 1, 1) := by decide +kernel
theorem dX6_booked_22 : decode cX6_booked 22 = .ok (.invokevirtual 95, 3) := by decide +kernel
theorem dX6_booked_25 : decode cX6_booked 25 = .ok (.ireturn, 1) := by decide +kernel
theorem dX6_walkedIn_0 : decode cX6_walkedIn 0 = .ok (.iconst 0, 1) := by decide +kernel
theorem dX6_walkedIn_1 : decode cX6_walkedIn 1 = .ok (.istore_n 2, 1) := by decide +kernel
theorem dX6_walkedIn_2 : decode cX6_walkedIn 2 = .ok (.iconst 0, 1) := by decide +kernel
theorem dX6_walkedIn_3 : decode cX6_walkedIn 3 = .ok (.istore_n 3, 1) := by decide +kernel
theorem dX6_walkedIn_4 : decode cX6_walkedIn 4 = .ok (.iload_n 3, 1) := by decide +kernel
theorem dX6_walkedIn_5 : decode cX6_walkedIn 5 = .ok (.aload_n 0, 1) := by decide +kernel
theorem dX6_walkedIn_6 : decode cX6_walkedIn 6 = .ok (.bipush 37, 2) := by decide +kernel
theorem dX6_walkedIn_8 : decode cX6_walkedIn 8 = .ok (.invokevirtual 69, 3) := by decide +kernel
theorem dX6_walkedIn_11 : decode cX6_walkedIn 11 = .ok (.if_icmp .ge 40, 3) := by decide +kernel
theorem dX6_walkedIn_14 : decode cX6_walkedIn 14 = .ok (.iload_n 2, 1) := by decide +kernel
theorem dX6_walkedIn_15 : decode cX6_walkedIn 15 = .ok (.aload_n 0, 1) := by decide +kernel
theorem dX6_walkedIn_16 : decode cX6_walkedIn 16 = .ok (.getfield 37, 3) := by decide +kernel
theorem dX6_walkedIn_19 : decode cX6_walkedIn 19 = .ok (.iload_n 3, 1) := by decide +kernel
theorem dX6_walkedIn_20 : decode cX6_walkedIn 20 = .ok (.iaload, 1) := by decide +kernel
theorem dX6_walkedIn_21 : decode cX6_walkedIn 21 = .ok (.iconst 3, 1) := by decide +kernel
theorem dX6_walkedIn_22 : decode cX6_walkedIn 22 = .ok (.if_icmp .ne 20, 3) := by decide +kernel
theorem dX6_walkedIn_25 : decode cX6_walkedIn 25 = .ok (.aload_n 0, 1) := by decide +kernel
theorem dX6_walkedIn_26 : decode cX6_walkedIn 26 = .ok (.iload_n 3, 1) := by decide +kernel
theorem dX6_walkedIn_27 : decode cX6_walkedIn 27 = .ok (.iload_n 1, 1) := by decide +kernel
theorem dX6_walkedIn_28 : decode cX6_walkedIn 28 = .ok (.invokevirtual 235, 3) := by decide +kernel
theorem dX6_walkedIn_31 : decode cX6_walkedIn 31 = .ok (.ifCond .eq 11, 3) := by decide +kernel
theorem dX6_walkedIn_34 : decode cX6_walkedIn 34 = .ok (.aload_n 0, 1) := by decide +kernel
theorem dX6_walkedIn_35 : decode cX6_walkedIn 35 = .ok (.iload_n 3, 1) := by decide +kernel
theorem dX6_walkedIn_36 : decode cX6_walkedIn 36 = .ok (.invokevirtual 239, 3) := by decide +kernel
theorem dX6_walkedIn_39 : decode cX6_walkedIn 39 = .ok (.goto 4, 3) := by decide +kernel
theorem dX6_walkedIn_42 : decode cX6_walkedIn 42 = .ok (.iconst 0, 1) := by decide +kernel
theorem dX6_walkedIn_43 : decode cX6_walkedIn 43 = .ok (.iadd, 1) := by decide +kernel
theorem dX6_walkedIn_44 : decode cX6_walkedIn 44 = .ok (.istore_n 2, 1) := by decide +kernel
theorem dX6_walkedIn_45 : decode cX6_walkedIn 45 = .ok (.iinc 3 1, 3) := by decide +kernel
theorem dX6_walkedIn_48 : decode cX6_walkedIn 48 = .ok (.goto (-44), 3) := by decide +kernel
theorem dX6_walkedIn_51 : decode cX6_walkedIn 51 = .ok (.iload_n 2, 1) := by decide +kernel
theorem dX6_walkedIn_52 : decode cX6_walkedIn 52 = .ok (.ireturn, 1) := by decide +kernel
theorem dX6_walked_0 : decode cX6_walked 0 = .ok (.aload_n 0, 1) := by decide +kernel
theorem dX6_walked_1 : decode cX6_walked 1 = .ok (.iconst 0, 1) := by decide +kernel
theorem dX6_walked_2 : decode cX6_walked 2 = .ok (.putfield 63, 3) := by decide +kernel
theorem dX6_walked_5 : decode cX6_walked 5 = .ok (.iload_n 1, 1) := by decide +kernel
theorem dX6_walked_6 : decode cX6_walked 6 = .ok (.invokestatic 320, 3) := by decide +kernel
theorem dX6_walked_9 : decode cX6_walked 9 = .ok (.ifCond .ne 9, 3) := by decide +kernel
theorem dX6_walked_12 : decode cX6_walked 12 = .ok (.aload_n 0, 1) := by decide +kernel
theorem dX6_walked_13 : decode cX6_walked 13 = .ok (.iconst 1, 1) := by decide +kernel
theorem dX6_walked_14 : decode cX6_walked 14 = .ok (.invokevirtual 95, 3) := by decide +kernel
theorem dX6_walked_17 : decode cX6_walked 17 = .ok (.ireturn, 1) := by decide +kernel
theorem dX6_walked_18 : decode cX6_walked 18 = .ok (.aload_n 0, 1) := by decide +kernel
theorem dX6_walked_19 : decode cX6_walked 19 = .ok (.invokevirtual 308, 3) := by decide +kernel
theorem dX6_walked_22 : decode cX6_walked 22 = .ok (.aload_n 0, 1) := by decide +kernel
theorem dX6_walked_23 : decode cX6_walked 23 = .ok (.iload_n 1, 1) := by decide +kernel
theorem dX6_walked_24 : decode cX6_walked 24 = .ok (.invokevirtual 329, 3) := by decide +kernel
theorem dX6_walked_27 : decode cX6_walked 27 = .ok (.ireturn, 1) := by decide +kernel
theorem dX6_fullNights_0 : decode cX6_fullNights 0 = .ok (.aload_n 0, 1) := by decide +kernel
theorem dX6_fullNights_1 : decode cX6_fullNights 1 = .ok (.iconst 0, 1) := by decide +kernel
theorem dX6_fullNights_2 : decode cX6_fullNights 2 = .ok (.putfield 63, 3) := by decide +kernel
theorem dX6_fullNights_5 : decode cX6_fullNights 5 = .ok (.aload_n 0, 1) := by decide +kernel
theorem dX6_fullNights_6 : decode cX6_fullNights 6 = .ok (.invokevirtual 308, 3) := by decide +kernel
theorem dX6_fullNights_9 : decode cX6_fullNights 9 = .ok (.iconst 0, 1) := by decide +kernel
theorem dX6_fullNights_10 : decode cX6_fullNights 10 = .ok (.istore_n 1, 1) := by decide +kernel
theorem dX6_fullNights_11 : decode cX6_fullNights 11 = .ok (.iconst 0, 1) := by decide +kernel
theorem dX6_fullNights_12 : decode cX6_fullNights 12 = .ok (.istore_n 2, 1) := by decide +kernel
theorem dX6_fullNights_13 : decode cX6_fullNights 13 = .ok (.iload_n 2, 1) := by decide +kernel
theorem dX6_fullNights_14 : decode cX6_fullNights 14 = .ok (.bipush 30, 2) := by decide +kernel
theorem dX6_fullNights_16 : decode cX6_fullNights 16 = .ok (.if_icmp .ge 37, 3) := by decide +kernel
theorem dX6_fullNights_19 : decode cX6_fullNights 19 = .ok (.iload_n 1, 1) := by decide +kernel
theorem dX6_fullNights_20 : decode cX6_fullNights 20 = .ok (.aload_n 0, 1) := by decide +kernel
theorem dX6_fullNights_21 : decode cX6_fullNights 21 = .ok (.iconst 4, 1) := by decide +kernel
theorem dX6_fullNights_22 : decode cX6_fullNights 22 = .ok (.invokevirtual 69, 3) := by decide +kernel
theorem dX6_fullNights_25 : decode cX6_fullNights 25 = .ok (.ifCond .le 19, 3) := by decide +kernel
theorem dX6_fullNights_28 : decode cX6_fullNights 28 = .ok (.aload_n 0, 1) := by decide +kernel
theorem dX6_fullNights_29 : decode cX6_fullNights 29 = .ok (.iload_n 2, 1) := by decide +kernel
theorem dX6_fullNights_30 : decode cX6_fullNights 30 = .ok (.invokevirtual 326, 3) := by decide +kernel
theorem dX6_fullNights_33 : decode cX6_fullNights 33 = .ok (.aload_n 0, 1) := by decide +kernel
theorem dX6_fullNights_34 : decode cX6_fullNights 34 = .ok (.invokevirtual 242, 3) := by decide +kernel
theorem dX6_fullNights_37 : decode cX6_fullNights 37 = .ok (.if_icmp .ne 7, 3) := by decide +kernel
theorem dX6_fullNights_40 : decode cX6_fullNights 40 = .ok (.iconst 1, 1) := by decide +kernel
theorem dX6_fullNights_41 : decode cX6_fullNights 41 = .ok (.goto 4, 3) := by decide +kernel
theorem dX6_fullNights_44 : decode cX6_fullNights 44 = .ok (.iconst 0, 1) := by decide +kernel
theorem dX6_fullNights_45 : decode cX6_fullNights 45 = .ok (.iadd, 1) := by decide +kernel
theorem dX6_fullNights_46 : decode cX6_fullNights 46 = .ok (.istore_n 1, 1) := by decide +kernel
theorem dX6_fullNights_47 : decode cX6_fullNights 47 = .ok (.iinc 2 1, 3) := by decide +kernel
theorem dX6_fullNights_50 : decode cX6_fullNights 50 = .ok (.goto (-37), 3) := by decide +kernel
theorem dX6_fullNights_53 : decode cX6_fullNights 53 = .ok (.iload_n 1, 1) := by decide +kernel
theorem dX6_fullNights_54 : decode cX6_fullNights 54 = .ok (.ireturn, 1) := by decide +kernel
theorem dX6_longestFree_0 : decode cX6_longestFree 0 = .ok (.aload_n 0, 1) := by decide +kernel
theorem dX6_longestFree_1 : decode cX6_longestFree 1 = .ok (.iconst 0, 1) := by decide +kernel
theorem dX6_longestFree_2 : decode cX6_longestFree 2 = .ok (.putfield 63, 3) := by decide +kernel
theorem dX6_longestFree_5 : decode cX6_longestFree 5 = .ok (.aload_n 0, 1) := by decide +kernel
theorem dX6_longestFree_6 : decode cX6_longestFree 6 = .ok (.iload_n 1, 1) := by decide +kernel
theorem dX6_longestFree_7 : decode cX6_longestFree 7 = .ok (.iload_n 2, 1) := by decide +kernel
theorem dX6_longestFree_8 : decode cX6_longestFree 8 = .ok (.invokevirtual 317, 3) := by decide +kernel
theorem dX6_longestFree_11 : decode cX6_longestFree 11 = .ok (.ifCond .ne 9, 3) := by decide +kernel
theorem dX6_longestFree_14 : decode cX6_longestFree 14 = .ok (.aload_n 0, 1) := by decide +kernel
theorem dX6_longestFree_15 : decode cX6_longestFree 15 = .ok (.iconst 1, 1) := by decide +kernel
theorem dX6_longestFree_16 : decode cX6_longestFree 16 = .ok (.invokevirtual 95, 3) := by decide +kernel
theorem dX6_longestFree_19 : decode cX6_longestFree 19 = .ok (.ireturn, 1) := by decide +kernel
theorem dX6_longestFree_20 : decode cX6_longestFree 20 = .ok (.aload_n 0, 1) := by decide +kernel
theorem dX6_longestFree_21 : decode cX6_longestFree 21 = .ok (.invokevirtual 308, 3) := by decide +kernel
theorem dX6_longestFree_24 : decode cX6_longestFree 24 = .ok (.iconst 0, 1) := by decide +kernel
theorem dX6_longestFree_25 : decode cX6_longestFree 25 = .ok (.istore_n 3, 1) := by decide +kernel
theorem dX6_longestFree_26 : decode cX6_longestFree 26 = .ok (.iconst 0, 1) := by decide +kernel
theorem dX6_longestFree_27 : decode cX6_longestFree 27 = .ok (.istore 4, 2) := by decide +kernel
theorem dX6_longestFree_29 : decode cX6_longestFree 29 = .ok (.iconst 0, 1) := by decide +kernel
theorem dX6_longestFree_30 : decode cX6_longestFree 30 = .ok (.istore 5, 2) := by decide +kernel
theorem dX6_longestFree_32 : decode cX6_longestFree 32 = .ok (.iload 5, 2) := by decide +kernel
theorem dX6_longestFree_34 : decode cX6_longestFree 34 = .ok (.bipush 30, 2) := by decide +kernel
theorem dX6_longestFree_36 : decode cX6_longestFree 36 = .ok (.if_icmp .ge 44, 3) := by decide +kernel
theorem dX6_longestFree_39 : decode cX6_longestFree 39 = .ok (.aload_n 0, 1) := by decide +kernel
theorem dX6_longestFree_40 : decode cX6_longestFree 40 = .ok (.getfield 34, 3) := by decide +kernel
theorem dX6_longestFree_43 : decode cX6_longestFree 43 = .ok (.iload_n 1, 1) := by decide +kernel
theorem dX6_longestFree_44 : decode cX6_longestFree 44 = .ok (.iload_n 2, 1) := by decide +kernel
theorem dX6_longestFree_45 : decode cX6_longestFree 45 = .ok (.iload 5, 2) := by decide +kernel
theorem dX6_longestFree_47 : decode cX6_longestFree 47 = .ok (.invokestatic 263, 3) := by decide +kernel
theorem dX6_longestFree_50 : decode cX6_longestFree 50 = .ok (.iaload, 1) := by decide +kernel
theorem dX6_longestFree_51 : decode cX6_longestFree 51 = .ok (.iconst (-1), 1) := by decide +kernel
theorem dX6_longestFree_52 : decode cX6_longestFree 52 = .ok (.if_icmp .ne 10, 3) := by decide +kernel
theorem dX6_longestFree_55 : decode cX6_longestFree 55 = .ok (.iload 4, 2) := by decide +kernel
theorem dX6_longestFree_57 : decode cX6_longestFree 57 = .ok (.iconst 1, 1) := by decide +kernel
theorem dX6_longestFree_58 : decode cX6_longestFree 58 = .ok (.iadd, 1) := by decide +kernel
theorem dX6_longestFree_59 : decode cX6_longestFree 59 = .ok (.goto 4, 3) := by decide +kernel
theorem dX6_longestFree_62 : decode cX6_longestFree 62 = .ok (.iconst 0, 1) := by decide +kernel
theorem dX6_longestFree_63 : decode cX6_longestFree 63 = .ok (.istore 4, 2) := by decide +kernel
theorem dX6_longestFree_65 : decode cX6_longestFree 65 = .ok (.iload 4, 2) := by decide +kernel
theorem dX6_longestFree_67 : decode cX6_longestFree 67 = .ok (.iload_n 3, 1) := by decide +kernel
theorem dX6_longestFree_68 : decode cX6_longestFree 68 = .ok (.if_icmp .le 6, 3) := by decide +kernel
theorem dX6_longestFree_71 : decode cX6_longestFree 71 = .ok (.iload 4, 2) := by decide +kernel
theorem dX6_longestFree_73 : decode cX6_longestFree 73 = .ok (.istore_n 3, 1) := by decide +kernel
theorem dX6_longestFree_74 : decode cX6_longestFree 74 = .ok (.iinc 5 1, 3) := by decide +kernel
theorem dX6_longestFree_77 : decode cX6_longestFree 77 = .ok (.goto (-45), 3) := by decide +kernel
theorem dX6_longestFree_80 : decode cX6_longestFree 80 = .ok (.iload_n 3, 1) := by decide +kernel
theorem dX6_longestFree_81 : decode cX6_longestFree 81 = .ok (.ireturn, 1) := by decide +kernel
theorem dX6_splits_0 : decode cX6_splits 0 = .ok (.aload_n 0, 1) := by decide +kernel
theorem dX6_splits_1 : decode cX6_splits 1 = .ok (.iconst 0, 1) := by decide +kernel
theorem dX6_splits_2 : decode cX6_splits 2 = .ok (.putfield 63, 3) := by decide +kernel
theorem dX6_splits_5 : decode cX6_splits 5 = .ok (.aload_n 0, 1) := by decide +kernel
theorem dX6_splits_6 : decode cX6_splits 6 = .ok (.invokevirtual 308, 3) := by decide +kernel
theorem dX6_splits_9 : decode cX6_splits 9 = .ok (.iconst 0, 1) := by decide +kernel
theorem dX6_splits_10 : decode cX6_splits 10 = .ok (.istore_n 1, 1) := by decide +kernel
theorem dX6_splits_11 : decode cX6_splits 11 = .ok (.iconst 0, 1) := by decide +kernel
theorem dX6_splits_12 : decode cX6_splits 12 = .ok (.istore_n 2, 1) := by decide +kernel
theorem dX6_splits_13 : decode cX6_splits 13 = .ok (.iload_n 2, 1) := by decide +kernel
theorem dX6_splits_14 : decode cX6_splits 14 = .ok (.aload_n 0, 1) := by decide +kernel
theorem dX6_splits_15 : decode cX6_splits 15 = .ok (.bipush 37, 2) := by decide +kernel
theorem dX6_splits_17 : decode cX6_splits 17 = .ok (.invokevirtual 69, 3) := by decide +kernel
theorem dX6_splits_20 : decode cX6_splits 20 = .ok (.if_icmp .ge 27, 3) := by decide +kernel
theorem dX6_splits_23 : decode cX6_splits 23 = .ok (.iload_n 1, 1) := by decide +kernel
theorem dX6_splits_24 : decode cX6_splits 24 = .ok (.aload_n 0, 1) := by decide +kernel
theorem dX6_splits_25 : decode cX6_splits 25 = .ok (.getfield 37, 3) := by decide +kernel
theorem dX6_splits_28 : decode cX6_splits 28 = .ok (.iload_n 2, 1) := by decide +kernel
theorem dX6_splits_29 : decode cX6_splits 29 = .ok (.iaload, 1) := by decide +kernel
theorem dX6_splits_30 : decode cX6_splits 30 = .ok (.iconst 2, 1) := by decide +kernel
theorem dX6_splits_31 : decode cX6_splits 31 = .ok (.if_icmp .ne 7, 3) := by decide +kernel
theorem dX6_splits_34 : decode cX6_splits 34 = .ok (.iconst 1, 1) := by decide +kernel
theorem dX6_splits_35 : decode cX6_splits 35 = .ok (.goto 4, 3) := by decide +kernel
theorem dX6_splits_38 : decode cX6_splits 38 = .ok (.iconst 0, 1) := by decide +kernel
theorem dX6_splits_39 : decode cX6_splits 39 = .ok (.iadd, 1) := by decide +kernel
theorem dX6_splits_40 : decode cX6_splits 40 = .ok (.istore_n 1, 1) := by decide +kernel
theorem dX6_splits_41 : decode cX6_splits 41 = .ok (.iinc 2 1, 3) := by decide +kernel
theorem dX6_splits_44 : decode cX6_splits 44 = .ok (.goto (-31), 3) := by decide +kernel
theorem dX6_splits_47 : decode cX6_splits 47 = .ok (.iload_n 1, 1) := by decide +kernel
theorem dX6_splits_48 : decode cX6_splits 48 = .ok (.ireturn, 1) := by decide +kernel
theorem dX6_areFree_0 : decode cX6_areFree 0 = .ok (.iconst 0, 1) := by decide +kernel
theorem dX6_areFree_1 : decode cX6_areFree 1 = .ok (.istore_n 3, 1) := by decide +kernel
theorem dX6_areFree_2 : decode cX6_areFree 2 = .ok (.iload_n 3, 1) := by decide +kernel
theorem dX6_areFree_3 : decode cX6_areFree 3 = .ok (.aload_n 0, 1) := by decide +kernel
theorem dX6_areFree_4 : decode cX6_areFree 4 = .ok (.iload_n 1, 1) := by decide +kernel
theorem dX6_areFree_5 : decode cX6_areFree 5 = .ok (.invokevirtual 239, 3) := by decide +kernel
theorem dX6_areFree_8 : decode cX6_areFree 8 = .ok (.if_icmp .ge 46, 3) := by decide +kernel
theorem dX6_areFree_11 : decode cX6_areFree 11 = .ok (.bipush 12, 2) := by decide +kernel
theorem dX6_areFree_13 : decode cX6_areFree 13 = .ok (.iload_n 1, 1) := by decide +kernel
theorem dX6_areFree_14 : decode cX6_areFree 14 = .ok (.imul, 1) := by decide +kernel
theorem dX6_areFree_15 : decode cX6_areFree 15 = .ok (.iload_n 3, 1) := by decide +kernel
theorem dX6_areFree_16 : decode cX6_areFree 16 = .ok (.iadd, 1) := by decide +kernel
theorem dX6_areFree_17 : decode cX6_areFree 17 = .ok (.istore 4, 2) := by decide +kernel
theorem dX6_areFree_19 : decode cX6_areFree 19 = .ok (.aload_n 0, 1) := by decide +kernel
theorem dX6_areFree_20 : decode cX6_areFree 20 = .ok (.getfield 34, 3) := by decide +kernel
theorem dX6_areFree_23 : decode cX6_areFree 23 = .ok (.aload_n 0, 1) := by decide +kernel
theorem dX6_areFree_24 : decode cX6_areFree 24 = .ok (.getfield 40, 3) := by decide +kernel
theorem dX6_areFree_27 : decode cX6_areFree 27 = .ok (.iload 4, 2) := by decide +kernel
theorem dX6_areFree_29 : decode cX6_areFree 29 = .ok (.iaload, 1) := by decide +kernel
theorem dX6_areFree_30 : decode cX6_areFree 30 = .ok (.aload_n 0, 1) := by decide +kernel
theorem dX6_areFree_31 : decode cX6_areFree 31 = .ok (.getfield 43, 3) := by decide +kernel
theorem dX6_areFree_34 : decode cX6_areFree 34 = .ok (.iload 4, 2) := by decide +kernel
theorem dX6_areFree_36 : decode cX6_areFree 36 = .ok (.iaload, 1) := by decide +kernel
theorem dX6_areFree_37 : decode cX6_areFree 37 = .ok (.iload_n 2, 1) := by decide +kernel
theorem dX6_areFree_38 : decode cX6_areFree 38 = .ok (.invokestatic 263, 3) := by decide +kernel
theorem dX6_areFree_41 : decode cX6_areFree 41 = .ok (.iaload, 1) := by decide +kernel
theorem dX6_areFree_42 : decode cX6_areFree 42 = .ok (.iconst (-1), 1) := by decide +kernel
theorem dX6_areFree_43 : decode cX6_areFree 43 = .ok (.if_icmp .eq 5, 3) := by decide +kernel
theorem dX6_areFree_46 : decode cX6_areFree 46 = .ok (.iconst 0, 1) := by decide +kernel
theorem dX6_areFree_47 : decode cX6_areFree 47 = .ok (.ireturn, 1) := by decide +kernel
theorem dX6_areFree_48 : decode cX6_areFree 48 = .ok (.iinc 3 1, 3) := by decide +kernel
theorem dX6_areFree_51 : decode cX6_areFree 51 = .ok (.goto (-49), 3) := by decide +kernel
theorem dX6_areFree_54 : decode cX6_areFree 54 = .ok (.iconst 1, 1) := by decide +kernel
theorem dX6_areFree_55 : decode cX6_areFree 55 = .ok (.ireturn, 1) := by decide +kernel
theorem dX6_extendable_0 : decode cX6_extendable 0 = .ok (.aload_n 0, 1) := by decide +kernel
theorem dX6_extendable_1 : decode cX6_extendable 1 = .ok (.iconst 0, 1) := by decide +kernel
theorem dX6_extendable_2 : decode cX6_extendable 2 = .ok (.putfield 63, 3) := by decide +kernel
theorem dX6_extendable_5 : decode cX6_extendable 5 = .ok (.aload_n 0, 1) := by decide +kernel
theorem dX6_extendable_6 : decode cX6_extendable 6 = .ok (.iload_n 1, 1) := by decide +kernel
theorem dX6_extendable_7 : decode cX6_extendable 7 = .ok (.invokevirtual 260, 3) := by decide +kernel
theorem dX6_extendable_10 : decode cX6_extendable 10 = .ok (.ifCond .ne 9, 3) := by decide +kernel
theorem dX6_extendable_13 : decode cX6_extendable 13 = .ok (.aload_n 0, 1) := by decide +kernel
theorem dX6_extendable_14 : decode cX6_extendable 14 = .ok (.iconst 1, 1) := by decide +kernel
theorem dX6_extendable_15 : decode cX6_extendable 15 = .ok (.invokevirtual 95, 3) := by decide +kernel
theorem dX6_extendable_18 : decode cX6_extendable 18 = .ok (.ireturn, 1) := by decide +kernel
theorem dX6_extendable_19 : decode cX6_extendable 19 = .ok (.aload_n 0, 1) := by decide +kernel
theorem dX6_extendable_20 : decode cX6_extendable 20 = .ok (.invokevirtual 308, 3) := by decide +kernel
theorem dX6_extendable_23 : decode cX6_extendable 23 = .ok (.aload_n 0, 1) := by decide +kernel
theorem dX6_extendable_24 : decode cX6_extendable 24 = .ok (.iload_n 1, 1) := by decide +kernel
theorem dX6_extendable_25 : decode cX6_extendable 25 = .ok (.invokevirtual 311, 3) := by decide +kernel
theorem dX6_extendable_28 : decode cX6_extendable 28 = .ok (.ifCond .ne 5, 3) := by decide +kernel
theorem dX6_extendable_31 : decode cX6_extendable 31 = .ok (.iconst 0, 1) := by decide +kernel
theorem dX6_extendable_32 : decode cX6_extendable 32 = .ok (.ireturn, 1) := by decide +kernel
theorem dX6_extendable_33 : decode cX6_extendable 33 = .ok (.aload_n 0, 1) := by decide +kernel
theorem dX6_extendable_34 : decode cX6_extendable 34 = .ok (.iload_n 1, 1) := by decide +kernel
theorem dX6_extendable_35 : decode cX6_extendable 35 = .ok (.iconst 0, 1) := by decide +kernel
theorem dX6_extendable_36 : decode cX6_extendable 36 = .ok (.invokevirtual 77, 3) := by decide +kernel
theorem dX6_extendable_39 : decode cX6_extendable 39 = .ok (.aload_n 0, 1) := by decide +kernel
theorem dX6_extendable_40 : decode cX6_extendable 40 = .ok (.iload_n 1, 1) := by decide +kernel
theorem dX6_extendable_41 : decode cX6_extendable 41 = .ok (.iconst 1, 1) := by decide +kernel
theorem dX6_extendable_42 : decode cX6_extendable 42 = .ok (.invokevirtual 77, 3) := by decide +kernel
theorem dX6_extendable_45 : decode cX6_extendable 45 = .ok (.iadd, 1) := by decide +kernel
theorem dX6_extendable_46 : decode cX6_extendable 46 = .ok (.istore_n 2, 1) := by decide +kernel
theorem dX6_extendable_47 : decode cX6_extendable 47 = .ok (.iload_n 2, 1) := by decide +kernel
theorem dX6_extendable_48 : decode cX6_extendable 48 = .ok (.istore_n 3, 1) := by decide +kernel
theorem dX6_extendable_49 : decode cX6_extendable 49 = .ok (.iload_n 3, 1) := by decide +kernel
theorem dX6_extendable_50 : decode cX6_extendable 50 = .ok (.bipush 30, 2) := by decide +kernel
theorem dX6_extendable_52 : decode cX6_extendable 52 = .ok (.if_icmp .ge 18, 3) := by decide +kernel
theorem dX6_extendable_55 : decode cX6_extendable 55 = .ok (.aload_n 0, 1) := by decide +kernel
theorem dX6_extendable_56 : decode cX6_extendable 56 = .ok (.iload_n 1, 1) := by decide +kernel
theorem dX6_extendable_57 : decode cX6_extendable 57 = .ok (.iload_n 3, 1) := by decide +kernel
theorem dX6_extendable_58 : decode cX6_extendable 58 = .ok (.invokevirtual 332, 3) := by decide +kernel
theorem dX6_extendable_61 : decode cX6_extendable 61 = .ok (.ifCond .eq 9, 3) := by decide +kernel
theorem dX6_extendable_64 : decode cX6_extendable 64 = .ok (.iinc 3 1, 3) := by decide +kernel
theorem dX6_extendable_67 : decode cX6_extendable 67 = .ok (.goto (-18), 3) := by decide +kernel
theorem dX6_extendable_70 : decode cX6_extendable 70 = .ok (.iload_n 3, 1) := by decide +kernel
theorem dX6_extendable_71 : decode cX6_extendable 71 = .ok (.iload_n 2, 1) := by decide +kernel
theorem dX6_extendable_72 : decode cX6_extendable 72 = .ok (.isub, 1) := by decide +kernel
theorem dX6_extendable_73 : decode cX6_extendable 73 = .ok (.ireturn, 1) := by decide +kernel
theorem dX6_paidBy_0 : decode cX6_paidBy 0 = .ok (.aload_n 0, 1) := by decide +kernel
theorem dX6_paidBy_1 : decode cX6_paidBy 1 = .ok (.iload_n 1, 1) := by decide +kernel
theorem dX6_paidBy_2 : decode cX6_paidBy 2 = .ok (.invokevirtual 311, 3) := by decide +kernel
theorem dX6_paidBy_5 : decode cX6_paidBy 5 = .ok (.ifCond .ne 5, 3) := by decide +kernel
theorem dX6_paidBy_8 : decode cX6_paidBy 8 = .ok (.iconst 0, 1) := by decide +kernel
theorem dX6_paidBy_9 : decode cX6_paidBy 9 = .ok (.ireturn, 1) := by decide +kernel
theorem dX6_paidBy_10 : decode cX6_paidBy 10 = .ok (.iconst 0, 1) := by decide +kernel
theorem dX6_paidBy_11 : decode cX6_paidBy 11 = .ok (.istore_n 2, 1) := by decide +kernel
theorem dX6_paidBy_12 : decode cX6_paidBy 12 = .ok (.iconst 0, 1) := by decide +kernel
theorem dX6_paidBy_13 : decode cX6_paidBy 13 = .ok (.istore_n 3, 1) := by decide +kernel
theorem dX6_paidBy_14 : decode cX6_paidBy 14 = .ok (.iload_n 3, 1) := by decide +kernel
theorem dX6_paidBy_15 : decode cX6_paidBy 15 = .ok (.aload_n 0, 1) := by decide +kernel
theorem dX6_paidBy_16 : decode cX6_paidBy 16 = .ok (.iload_n 1, 1) := by decide +kernel
theorem dX6_paidBy_17 : decode cX6_paidBy 17 = .ok (.invokevirtual 239, 3) := by decide +kernel
theorem dX6_paidBy_20 : decode cX6_paidBy 20 = .ok (.if_icmp .ge 35, 3) := by decide +kernel
theorem dX6_paidBy_23 : decode cX6_paidBy 23 = .ok (.iload_n 2, 1) := by decide +kernel
theorem dX6_paidBy_24 : decode cX6_paidBy 24 = .ok (.aload_n 0, 1) := by decide +kernel
theorem dX6_paidBy_25 : decode cX6_paidBy 25 = .ok (.aload_n 0, 1) := by decide +kernel
theorem dX6_paidBy_26 : decode cX6_paidBy 26 = .ok (.getfield 40, 3) := by decide +kernel
theorem dX6_paidBy_29 : decode cX6_paidBy 29 = .ok (.bipush 12, 2) := by decide +kernel
theorem dX6_paidBy_31 : decode cX6_paidBy 31 = .ok (.iload_n 1, 1) := by decide +kernel
theorem dX6_paidBy_32 : decode cX6_paidBy 32 = .ok (.imul, 1) := by decide +kernel
theorem dX6_paidBy_33 : decode cX6_paidBy 33 = .ok (.iload_n 3, 1) := by decide +kernel
theorem dX6_paidBy_34 : decode cX6_paidBy 34 = .ok (.iadd, 1) := by decide +kernel
theorem dX6_paidBy_35 : decode cX6_paidBy 35 = .ok (.iaload, 1) := by decide +kernel
theorem dX6_paidBy_36 : decode cX6_paidBy 36 = .ok (.iconst 3, 1) := by decide +kernel
theorem dX6_paidBy_37 : decode cX6_paidBy 37 = .ok (.invokevirtual 89, 3) := by decide +kernel
theorem dX6_paidBy_40 : decode cX6_paidBy 40 = .ok (.aload_n 0, 1) := by decide +kernel
theorem dX6_paidBy_41 : decode cX6_paidBy 41 = .ok (.iload_n 1, 1) := by decide +kernel
theorem dX6_paidBy_42 : decode cX6_paidBy 42 = .ok (.iconst 1, 1) := by decide +kernel
theorem dX6_paidBy_43 : decode cX6_paidBy 43 = .ok (.invokevirtual 77, 3) := by decide +kernel
theorem dX6_paidBy_46 : decode cX6_paidBy 46 = .ok (.imul, 1) := by decide +kernel
theorem dX6_paidBy_47 : decode cX6_paidBy 47 = .ok (.iadd, 1) := by decide +kernel
theorem dX6_paidBy_48 : decode cX6_paidBy 48 = .ok (.istore_n 2, 1) := by decide +kernel
theorem dX6_paidBy_49 : decode cX6_paidBy 49 = .ok (.iinc 3 1, 3) := by decide +kernel
theorem dX6_paidBy_52 : decode cX6_paidBy 52 = .ok (.goto (-38), 3) := by decide +kernel
theorem dX6_paidBy_55 : decode cX6_paidBy 55 = .ok (.aload_n 0, 1) := by decide +kernel
theorem dX6_paidBy_56 : decode cX6_paidBy 56 = .ok (.iload_n 1, 1) := by decide +kernel
theorem dX6_paidBy_57 : decode cX6_paidBy 57 = .ok (.iconst 1, 1) := by decide +kernel
theorem dX6_paidBy_58 : decode cX6_paidBy 58 = .ok (.invokevirtual 77, 3) := by decide +kernel
theorem dX6_paidBy_61 : decode cX6_paidBy 61 = .ok (.aload_n 0, 1) := by decide +kernel
theorem dX6_paidBy_62 : decode cX6_paidBy 62 = .ok (.iconst 2, 1) := by decide +kernel
theorem dX6_paidBy_63 : decode cX6_paidBy 63 = .ok (.invokevirtual 69, 3) := by decide +kernel
theorem dX6_paidBy_66 : decode cX6_paidBy 66 = .ok (.if_icmp .lt 19, 3) := by decide +kernel
theorem dX6_paidBy_69 : decode cX6_paidBy 69 = .ok (.iload_n 2, 1) := by decide +kernel
theorem dX6_paidBy_70 : decode cX6_paidBy 70 = .ok (.bipush 100, 2) := by decide +kernel
theorem dX6_paidBy_72 : decode cX6_paidBy 72 = .ok (.aload_n 0, 1) := by decide +kernel
theorem dX6_paidBy_73 : decode cX6_paidBy 73 = .ok (.iconst 3, 1) := by decide +kernel
theorem dX6_paidBy_74 : decode cX6_paidBy 74 = .ok (.invokevirtual 69, 3) := by decide +kernel
theorem dX6_paidBy_77 : decode cX6_paidBy 77 = .ok (.isub, 1) := by decide +kernel
theorem dX6_paidBy_78 : decode cX6_paidBy 78 = .ok (.imul, 1) := by decide +kernel
theorem dX6_paidBy_79 : decode cX6_paidBy 79 = .ok (.bipush 100, 2) := by decide +kernel
theorem dX6_paidBy_81 : decode cX6_paidBy 81 = .ok (.idiv, 1) := by decide +kernel
theorem dX6_paidBy_82 : decode cX6_paidBy 82 = .ok (.goto 4, 3) := by decide +kernel
theorem dX6_paidBy_85 : decode cX6_paidBy 85 = .ok (.iload_n 2, 1) := by decide +kernel
theorem dX6_paidBy_86 : decode cX6_paidBy 86 = .ok (.ireturn, 1) := by decide +kernel
theorem dX6_pays_0 : decode cX6_pays 0 = .ok (.aload_n 0, 1) := by decide +kernel
theorem dX6_pays_1 : decode cX6_pays 1 = .ok (.iconst 0, 1) := by decide +kernel
theorem dX6_pays_2 : decode cX6_pays 2 = .ok (.putfield 63, 3) := by decide +kernel
theorem dX6_pays_5 : decode cX6_pays 5 = .ok (.aload_n 0, 1) := by decide +kernel
theorem dX6_pays_6 : decode cX6_pays 6 = .ok (.iload_n 1, 1) := by decide +kernel
theorem dX6_pays_7 : decode cX6_pays 7 = .ok (.invokevirtual 260, 3) := by decide +kernel
theorem dX6_pays_10 : decode cX6_pays 10 = .ok (.ifCond .ne 9, 3) := by decide +kernel
theorem dX6_pays_13 : decode cX6_pays 13 = .ok (.aload_n 0, 1) := by decide +kernel
theorem dX6_pays_14 : decode cX6_pays 14 = .ok (.iconst 1, 1) := by decide +kernel
theorem dX6_pays_15 : decode cX6_pays 15 = .ok (.invokevirtual 95, 3) := by decide +kernel
theorem dX6_pays_18 : decode cX6_pays 18 = .ok (.ireturn, 1) := by decide +kernel
theorem dX6_pays_19 : decode cX6_pays 19 = .ok (.aload_n 0, 1) := by decide +kernel
theorem dX6_pays_20 : decode cX6_pays 20 = .ok (.invokevirtual 308, 3) := by decide +kernel
theorem dX6_pays_23 : decode cX6_pays 23 = .ok (.aload_n 0, 1) := by decide +kernel
theorem dX6_pays_24 : decode cX6_pays 24 = .ok (.iload_n 1, 1) := by decide +kernel
theorem dX6_pays_25 : decode cX6_pays 25 = .ok (.invokevirtual 335, 3) := by decide +kernel
theorem dX6_pays_28 : decode cX6_pays 28 = .ok (.ireturn, 1) := by decide +kernel
theorem dX6_walksCost_0 : decode cX6_walksCost 0 = .ok (.iconst 0, 1) := by decide +kernel
theorem dX6_walksCost_1 : decode cX6_walksCost 1 = .ok (.istore_n 1, 1) := by decide +kernel
theorem dX6_walksCost_2 : decode cX6_walksCost 2 = .ok (.iconst 0, 1) := by decide +kernel
theorem dX6_walksCost_3 : decode cX6_walksCost 3 = .ok (.istore_n 2, 1) := by decide +kernel
theorem dX6_walksCost_4 : decode cX6_walksCost 4 = .ok (.iload_n 2, 1) := by decide +kernel
theorem dX6_walksCost_5 : decode cX6_walksCost 5 = .ok (.aload_n 0, 1) := by decide +kernel
theorem dX6_walksCost_6 : decode cX6_walksCost 6 = .ok (.bipush 37, 2) := by decide +kernel
theorem dX6_walksCost_8 : decode cX6_walksCost 8 = .ok (.invokevirtual 69, 3) := by decide +kernel
theorem dX6_walksCost_11 : decode cX6_walksCost 11 = .ok (.if_icmp .ge 44, 3) := by decide +kernel
theorem dX6_walksCost_14 : decode cX6_walksCost 14 = .ok (.iload_n 1, 1) := by decide +kernel
theorem dX6_walksCost_15 : decode cX6_walksCost 15 = .ok (.aload_n 0, 1) := by decide +kernel
theorem dX6_walksCost_16 : decode cX6_walksCost 16 = .ok (.getfield 37, 3) := by decide +kernel
theorem dX6_walksCost_19 : decode cX6_walksCost 19 = .ok (.iload_n 2, 1) := by decide +kernel
theorem dX6_walksCost_20 : decode cX6_walksCost 20 = .ok (.iaload, 1) := by decide +kernel
theorem dX6_walksCost_21 : decode cX6_walksCost 21 = .ok (.iconst 3, 1) := by decide +kernel
theorem dX6_walksCost_22 : decode cX6_walksCost 22 = .ok (.if_icmp .ne 24, 3) := by decide +kernel
theorem dX6_walksCost_25 : decode cX6_walksCost 25 = .ok (.aload_n 0, 1) := by decide +kernel
theorem dX6_walksCost_26 : decode cX6_walksCost 26 = .ok (.iconst 1, 1) := by decide +kernel
theorem dX6_walksCost_27 : decode cX6_walksCost 27 = .ok (.invokevirtual 69, 3) := by decide +kernel
theorem dX6_walksCost_30 : decode cX6_walksCost 30 = .ok (.aload_n 0, 1) := by decide +kernel
theorem dX6_walksCost_31 : decode cX6_walksCost 31 = .ok (.iload_n 2, 1) := by decide +kernel
theorem dX6_walksCost_32 : decode cX6_walksCost 32 = .ok (.invokevirtual 239, 3) := by decide +kernel
theorem dX6_walksCost_35 : decode cX6_walksCost 35 = .ok (.imul, 1) := by decide +kernel
theorem dX6_walksCost_36 : decode cX6_walksCost 36 = .ok (.aload_n 0, 1) := by decide +kernel
theorem dX6_walksCost_37 : decode cX6_walksCost 37 = .ok (.iload_n 2, 1) := by decide +kernel
theorem dX6_walksCost_38 : decode cX6_walksCost 38 = .ok (.iconst 1, 1) := by decide +kernel
theorem dX6_walksCost_39 : decode cX6_walksCost 39 = .ok (.invokevirtual 77, 3) := by decide +kernel
theorem dX6_walksCost_42 : decode cX6_walksCost 42 = .ok (.imul, 1) := by decide +kernel
theorem dX6_walksCost_43 : decode cX6_walksCost 43 = .ok (.goto 4, 3) := by decide +kernel
theorem dX6_walksCost_46 : decode cX6_walksCost 46 = .ok (.iconst 0, 1) := by decide +kernel
theorem dX6_walksCost_47 : decode cX6_walksCost 47 = .ok (.iadd, 1) := by decide +kernel
theorem dX6_walksCost_48 : decode cX6_walksCost 48 = .ok (.istore_n 1, 1) := by decide +kernel
theorem dX6_walksCost_49 : decode cX6_walksCost 49 = .ok (.iinc 2 1, 3) := by decide +kernel
theorem dX6_walksCost_52 : decode cX6_walksCost 52 = .ok (.goto (-48), 3) := by decide +kernel
theorem dX6_walksCost_55 : decode cX6_walksCost 55 = .ok (.iload_n 1, 1) := by decide +kernel
theorem dX6_walksCost_56 : decode cX6_walksCost 56 = .ok (.ireturn, 1) := by decide +kernel
theorem dX6_walkCost_0 : decode cX6_walkCost 0 = .ok (.aload_n 0, 1) := by decide +kernel
theorem dX6_walkCost_1 : decode cX6_walkCost 1 = .ok (.iconst 0, 1) := by decide +kernel
theorem dX6_walkCost_2 : decode cX6_walkCost 2 = .ok (.putfield 63, 3) := by decide +kernel
theorem dX6_walkCost_5 : decode cX6_walkCost 5 = .ok (.aload_n 0, 1) := by decide +kernel
theorem dX6_walkCost_6 : decode cX6_walkCost 6 = .ok (.invokevirtual 308, 3) := by decide +kernel
theorem dX6_walkCost_9 : decode cX6_walkCost 9 = .ok (.aload_n 0, 1) := by decide +kernel
theorem dX6_walkCost_10 : decode cX6_walkCost 10 = .ok (.invokevirtual 338, 3) := by decide +kernel
theorem dX6_walkCost_13 : decode cX6_walkCost 13 = .ok (.ireturn, 1) := by decide +kernel
theorem dX6_netNow_0 : decode cX6_netNow 0 = .ok (.aload_n 0, 1) := by decide +kernel
theorem dX6_netNow_1 : decode cX6_netNow 1 = .ok (.invokevirtual 308, 3) := by decide +kernel
theorem dX6_netNow_4 : decode cX6_netNow 4 = .ok (.aload_n 0, 1) := by decide +kernel
theorem dX6_netNow_5 : decode cX6_netNow 5 = .ok (.invokevirtual 338, 3) := by decide +kernel
theorem dX6_netNow_8 : decode cX6_netNow 8 = .ok (.ineg, 1) := by decide +kernel
theorem dX6_netNow_9 : decode cX6_netNow 9 = .ok (.istore_n 1, 1) := by decide +kernel
theorem dX6_netNow_10 : decode cX6_netNow 10 = .ok (.iconst 0, 1) := by decide +kernel
theorem dX6_netNow_11 : decode cX6_netNow 11 = .ok (.istore_n 2, 1) := by decide +kernel
theorem dX6_netNow_12 : decode cX6_netNow 12 = .ok (.iload_n 2, 1) := by decide +kernel
theorem dX6_netNow_13 : decode cX6_netNow 13 = .ok (.aload_n 0, 1) := by decide +kernel
theorem dX6_netNow_14 : decode cX6_netNow 14 = .ok (.bipush 37, 2) := by decide +kernel
theorem dX6_netNow_16 : decode cX6_netNow 16 = .ok (.invokevirtual 69, 3) := by decide +kernel
theorem dX6_netNow_19 : decode cX6_netNow 19 = .ok (.if_icmp .ge 17, 3) := by decide +kernel
theorem dX6_netNow_22 : decode cX6_netNow 22 = .ok (.iload_n 1, 1) := by decide +kernel
theorem dX6_netNow_23 : decode cX6_netNow 23 = .ok (.aload_n 0, 1) := by decide +kernel
theorem dX6_netNow_24 : decode cX6_netNow 24 = .ok (.iload_n 2, 1) := by decide +kernel
theorem dX6_netNow_25 : decode cX6_netNow 25 = .ok (.invokevirtual 335, 3) := by decide +kernel
theorem dX6_netNow_28 : decode cX6_netNow 28 = .ok (.iadd, 1) := by decide +kernel
theorem dX6_netNow_29 : decode cX6_netNow 29 = .ok (.istore_n 1, 1) := by decide +kernel
theorem dX6_netNow_30 : decode cX6_netNow 30 = .ok (.iinc 2 1, 3) := by decide +kernel
theorem dX6_netNow_33 : decode cX6_netNow 33 = .ok (.goto (-21), 3) := by decide +kernel
theorem dX6_netNow_36 : decode cX6_netNow 36 = .ok (.iload_n 1, 1) := by decide +kernel
theorem dX6_netNow_37 : decode cX6_netNow 37 = .ok (.ireturn, 1) := by decide +kernel
theorem dX6_net_0 : decode cX6_net 0 = .ok (.aload_n 0, 1) := by decide +kernel
theorem dX6_net_1 : decode cX6_net 1 = .ok (.iconst 0, 1) := by decide +kernel
theorem dX6_net_2 : decode cX6_net 2 = .ok (.putfield 63, 3) := by decide +kernel
theorem dX6_net_5 : decode cX6_net 5 = .ok (.aload_n 0, 1) := by decide +kernel
theorem dX6_net_6 : decode cX6_net 6 = .ok (.invokevirtual 341, 3) := by decide +kernel
theorem dX6_net_9 : decode cX6_net 9 = .ok (.ireturn, 1) := by decide +kernel
theorem dX6_laysChances_0 : decode cX6_laysChances 0 = .ok (.iconst 0, 1) := by decide +kernel
theorem dX6_laysChances_1 : decode cX6_laysChances 1 = .ok (.istore_n 2, 1) := by decide +kernel
theorem dX6_laysChances_2 : decode cX6_laysChances 2 = .ok (.iload_n 2, 1) := by decide +kernel
theorem dX6_laysChances_3 : decode cX6_laysChances 3 = .ok (.aload_n 0, 1) := by decide +kernel
theorem dX6_laysChances_4 : decode cX6_laysChances 4 = .ok (.getfield 49, 3) := by decide +kernel
theorem dX6_laysChances_7 : decode cX6_laysChances 7 = .ok (.arraylength, 1) := by decide +kernel
theorem dX6_laysChances_8 : decode cX6_laysChances 8 = .ok (.if_icmp .ge 24, 3) := by decide +kernel
theorem dX6_laysChances_11 : decode cX6_laysChances 11 = .ok (.aload_n 0, 1) := by decide +kernel
theorem dX6_laysChances_12 : decode cX6_laysChances 12 = .ok (.getfield 49, 3) := by decide +kernel
theorem dX6_laysChances_15 : decode cX6_laysChances 15 = .ok (.iload_n 2, 1) := by decide +kernel
theorem dX6_laysChances_16 : decode cX6_laysChances 16 = .ok (.iload_n 2, 1) := by decide +kernel
theorem dX6_laysChances_17 : decode cX6_laysChances 17 = .ok (.ifCond .ne 7, 3) := by decide +kernel
theorem dX6_laysChances_20 : decode cX6_laysChances 20 = .ok (.dconst 1, 1) := by decide +kernel
theorem dX6_laysChances_21 : decode cX6_laysChances 21 = .ok (.goto 4, 3) := by decide +kernel
theorem dX6_laysChances_24 : decode cX6_laysChances 24 = .ok (.dconst 0, 1) := by decide +kernel
theorem dX6_laysChances_25 : decode cX6_laysChances 25 = .ok (.dastore, 1) := by decide +kernel
theorem dX6_laysChances_26 : decode cX6_laysChances 26 = .ok (.iinc 2 1, 3) := by decide +kernel
theorem dX6_laysChances_29 : decode cX6_laysChances 29 = .ok (.goto (-27), 3) := by decide +kernel
theorem dX6_laysChances_32 : decode cX6_laysChances 32 = .ok (.iconst 0, 1) := by decide +kernel
theorem dX6_laysChances_33 : decode cX6_laysChances 33 = .ok (.istore_n 2, 1) := by decide +kernel
theorem dX6_laysChances_34 : decode cX6_laysChances 34 = .ok (.iload_n 2, 1) := by decide +kernel
theorem dX6_laysChances_35 : decode cX6_laysChances 35 = .ok (.aload_n 0, 1) := by decide +kernel
theorem dX6_laysChances_36 : decode cX6_laysChances 36 = .ok (.bipush 37, 2) := by decide +kernel
theorem dX6_laysChances_38 : decode cX6_laysChances 38 = .ok (.invokevirtual 69, 3) := by decide +kernel
theorem dX6_laysChances_41 : decode cX6_laysChances 41 = .ok (.if_icmp .ge 113, 3) := by decide +kernel
theorem dX6_laysChances_44 : decode cX6_laysChances 44 = .ok (.aload_n 0, 1) := by decide +kernel
theorem dX6_laysChances_45 : decode cX6_laysChances 45 = .ok (.iload_n 2, 1) := by decide +kernel
theorem dX6_laysChances_46 : decode cX6_laysChances 46 = .ok (.bipush 8, 2) := by decide +kernel
theorem dX6_laysChances_48 : decode cX6_laysChances 48 = .ok (.invokevirtual 77, 3) := by decide +kernel
theorem dX6_laysChances_51 : decode cX6_laysChances 51 = .ok (.iconst 1, 1) := by decide +kernel
theorem dX6_laysChances_52 : decode cX6_laysChances 52 = .ok (.if_icmp .ne 96, 3) := by decide +kernel
theorem dX6_laysChances_55 : decode cX6_laysChances 55 = .ok (.aload_n 0, 1) := by decide +kernel
theorem dX6_laysChances_56 : decode cX6_laysChances 56 = .ok (.iload_n 2, 1) := by decide +kernel
theorem dX6_laysChances_57 : decode cX6_laysChances 57 = .ok (.iload_n 1, 1) := by decide +kernel
theorem dX6_laysChances_58 : decode cX6_laysChances 58 = .ok (.invokevirtual 235, 3) := by decide +kernel
theorem dX6_laysChances_61 : decode cX6_laysChances 61 = .ok (.ifCond .ne 6, 3) := by decide +kernel
theorem dX6_laysChances_64 : decode cX6_laysChances 64 = .ok (.goto 84, 3) := by decide +kernel
theorem dX6_laysChances_67 : decode cX6_laysChances 67 = .ok (.aload_n 0, 1) := by decide +kernel
theorem dX6_laysChances_68 : decode cX6_laysChances 68 = .ok (.iload_n 2, 1) := by decide +kernel
theorem dX6_laysChances_69 : decode cX6_laysChances 69 = .ok (.iconst 5, 1) := by decide +kernel
theorem dX6_laysChances_70 : decode cX6_laysChances 70 = .ok (.invokevirtual 77, 3) := by decide +kernel
theorem dX6_laysChances_73 : decode cX6_laysChances 73 = .ok (.i2d, 1) := by decide +kernel
theorem dX6_laysChances_74 : decode cX6_laysChances 74 = .ok (.ldc2_w 344, 3) := by decide +kernel
theorem dX6_laysChances_77 : decode cX6_laysChances 77 = .ok (.ddiv, 1) := by decide +kernel
theorem dX6_laysChances_78 : decode cX6_laysChances 78 = .ok (.dstore_n 3, 1) := by decide +kernel
theorem dX6_laysChances_79 : decode cX6_laysChances 79 = .ok (.aload_n 0, 1) := by decide +kernel
theorem dX6_laysChances_80 : decode cX6_laysChances 80 = .ok (.iload_n 2, 1) := by decide +kernel
theorem dX6_laysChances_81 : decode cX6_laysChances 81 = .ok (.invokevirtual 239, 3) := by decide +kernel
theorem dX6_laysChances_84 : decode cX6_laysChances 84 = .ok (.istore 5, 2) := by decide +kernel
theorem dX6_laysChances_86 : decode cX6_laysChances 86 = .ok (.aload_n 0, 1) := by decide +kernel
theorem dX6_laysChances_87 : decode cX6_laysChances 87 = .ok (.getfield 49, 3) := by decide +kernel
theorem dX6_laysChances_90 : decode cX6_laysChances 90 = .ok (.arraylength, 1) := by decide +kernel
theorem dX6_laysChances_91 : decode cX6_laysChances 91 = .ok (.iconst 1, 1) := by decide +kernel
theorem dX6_laysChances_92 : decode cX6_laysChances 92 = .ok (.isub, 1) := by decide +kernel
theorem dX6_laysChances_93 : decode cX6_laysChances 93 = .ok (.istore 6, 2) := by decide +kernel
theorem dX6_laysChances_95 : decode cX6_laysChances 95 = .ok (.iload 6, 2) := by decide +kernel
theorem dX6_laysChances_97 : decode cX6_laysChances 97 = .ok (.ifCond .lt 51, 3) := by decide +kernel
theorem dX6_laysChances_100 : decode cX6_laysChances 100 = .ok (.aload_n 0, 1) := by decide +kernel
theorem dX6_laysChances_101 : decode cX6_laysChances 101 = .ok (.getfield 49, 3) := by decide +kernel
theorem dX6_laysChances_104 : decode cX6_laysChances 104 = .ok (.iload 6, 2) := by decide +kernel
theorem dX6_laysChances_106 : decode cX6_laysChances 106 = .ok (.aload_n 0, 1) := by decide +kernel
theorem dX6_laysChances_107 : decode cX6_laysChances 107 = .ok (.getfield 49, 3) := by decide +kernel
theorem dX6_laysChances_110 : decode cX6_laysChances 110 = .ok (.iload 6, 2) := by decide +kernel
theorem dX6_laysChances_112 : decode cX6_laysChances 112 = .ok (.daload, 1) := by decide +kernel
theorem dX6_laysChances_113 : decode cX6_laysChances 113 = .ok (.dconst 1, 1) := by decide +kernel
theorem dX6_laysChances_114 : decode cX6_laysChances 114 = .ok (.dload_n 3, 1) := by decide +kernel
theorem dX6_laysChances_115 : decode cX6_laysChances 115 = .ok (.dsub, 1) := by decide +kernel
theorem dX6_laysChances_116 : decode cX6_laysChances 116 = .ok (.dmul, 1) := by decide +kernel
theorem dX6_laysChances_117 : decode cX6_laysChances 117 = .ok (.iload 6, 2) := by decide +kernel
theorem dX6_laysChances_119 : decode cX6_laysChances 119 = .ok (.iload 5, 2) := by decide +kernel
theorem dX6_laysChances_121 : decode cX6_laysChances 121 = .ok (.if_icmp .ge 7, 3) := by decide +kernel
theorem dX6_laysChances_124 : decode cX6_laysChances 124 = .ok (.dconst 0, 1) := by decide +kernel
theorem dX6_laysChances_125 : decode cX6_laysChances 125 = .ok (.goto 13, 3) := by decide +kernel
theorem dX6_laysChances_128 : decode cX6_laysChances 128 = .ok (.aload_n 0, 1) := by decide +kernel
theorem dX6_laysChances_129 : decode cX6_laysChances 129 = .ok (.getfield 49, 3) := by decide +kernel
theorem dX6_laysChances_132 : decode cX6_laysChances 132 = .ok (.iload 6, 2) := by decide +kernel
theorem dX6_laysChances_134 : decode cX6_laysChances 134 = .ok (.iload 5, 2) := by decide +kernel
theorem dX6_laysChances_136 : decode cX6_laysChances 136 = .ok (.isub, 1) := by decide +kernel
theorem dX6_laysChances_137 : decode cX6_laysChances 137 = .ok (.daload, 1) := by decide +kernel
theorem dX6_laysChances_138 : decode cX6_laysChances 138 = .ok (.dload_n 3, 1) := by decide +kernel
theorem dX6_laysChances_139 : decode cX6_laysChances 139 = .ok (.dmul, 1) := by decide +kernel
theorem dX6_laysChances_140 : decode cX6_laysChances 140 = .ok (.dadd, 1) := by decide +kernel
theorem dX6_laysChances_141 : decode cX6_laysChances 141 = .ok (.dastore, 1) := by decide +kernel
theorem dX6_laysChances_142 : decode cX6_laysChances 142 = .ok (.iinc 6 (-1), 3) := by decide +kernel
theorem dX6_laysChances_145 : decode cX6_laysChances 145 = .ok (.goto (-50), 3) := by decide +kernel
theorem dX6_laysChances_148 : decode cX6_laysChances 148 = .ok (.iinc 2 1, 3) := by decide +kernel
theorem dX6_laysChances_151 : decode cX6_laysChances 151 = .ok (.goto (-117), 3) := by decide +kernel
theorem dX6_laysChances_154 : decode cX6_laysChances 154 = .ok (.return_, 1) := by decide +kernel
theorem dX6_chance_0 : decode cX6_chance 0 = .ok (.aload_n 0, 1) := by decide +kernel
theorem dX6_chance_1 : decode cX6_chance 1 = .ok (.iconst 0, 1) := by decide +kernel
theorem dX6_chance_2 : decode cX6_chance 2 = .ok (.putfield 63, 3) := by decide +kernel
theorem dX6_chance_5 : decode cX6_chance 5 = .ok (.iload_n 1, 1) := by decide +kernel
theorem dX6_chance_6 : decode cX6_chance 6 = .ok (.invokestatic 320, 3) := by decide +kernel
theorem dX6_chance_9 : decode cX6_chance 9 = .ok (.ifCond .ne 10, 3) := by decide +kernel
theorem dX6_chance_12 : decode cX6_chance 12 = .ok (.aload_n 0, 1) := by decide +kernel
theorem dX6_chance_13 : decode cX6_chance 13 = .ok (.iconst 1, 1) := by decide +kernel
theorem dX6_chance_14 : decode cX6_chance 14 = .ok (.invokevirtual 95, 3) := by decide +kernel
theorem dX6_chance_17 : decode cX6_chance 17 = .ok (.i2d, 1) := by decide +kernel
theorem dX6_chance_18 : decode cX6_chance 18 = .ok (.dreturn, 1) := by decide +kernel
theorem dX6_chance_19 : decode cX6_chance 19 = .ok (.aload_n 0, 1) := by decide +kernel
theorem dX6_chance_20 : decode cX6_chance 20 = .ok (.iload_n 1, 1) := by decide +kernel
theorem dX6_chance_21 : decode cX6_chance 21 = .ok (.invokevirtual 346, 3) := by decide +kernel
theorem dX6_chance_24 : decode cX6_chance 24 = .ok (.iload_n 2, 1) := by decide +kernel
theorem dX6_chance_25 : decode cX6_chance 25 = .ok (.iconst 0, 1) := by decide +kernel
theorem dX6_chance_26 : decode cX6_chance 26 = .ok (.aload_n 0, 1) := by decide +kernel
theorem dX6_chance_27 : decode cX6_chance 27 = .ok (.getfield 49, 3) := by decide +kernel
theorem dX6_chance_30 : decode cX6_chance 30 = .ok (.arraylength, 1) := by decide +kernel
theorem dX6_chance_31 : decode cX6_chance 31 = .ok (.iconst 1, 1) := by decide +kernel
theorem dX6_chance_32 : decode cX6_chance 32 = .ok (.isub, 1) := by decide +kernel
theorem dX6_chance_33 : decode cX6_chance 33 = .ok (.invokestatic 81, 3) := by decide +kernel
theorem dX6_chance_36 : decode cX6_chance 36 = .ok (.ifCond .eq 12, 3) := by decide +kernel
theorem dX6_chance_39 : decode cX6_chance 39 = .ok (.aload_n 0, 1) := by decide +kernel
theorem dX6_chance_40 : decode cX6_chance 40 = .ok (.getfield 49, 3) := by decide +kernel
theorem dX6_chance_43 : decode cX6_chance 43 = .ok (.iload_n 2, 1) := by decide +kernel
theorem dX6_chance_44 : decode cX6_chance 44 = .ok (.daload, 1) := by decide +kernel
theorem dX6_chance_45 : decode cX6_chance 45 = .ok (.goto 4, 3) := by decide +kernel
theorem dX6_chance_48 : decode cX6_chance 48 = .ok (.dconst 0, 1) := by decide +kernel
theorem dX6_chance_49 : decode cX6_chance 49 = .ok (.dreturn, 1) := by decide +kernel
theorem dX6_risk_0 : decode cX6_risk 0 = .ok (.aload_n 0, 1) := by decide +kernel
theorem dX6_risk_1 : decode cX6_risk 1 = .ok (.iconst 0, 1) := by decide +kernel
theorem dX6_risk_2 : decode cX6_risk 2 = .ok (.putfield 63, 3) := by decide +kernel
theorem dX6_risk_5 : decode cX6_risk 5 = .ok (.iload_n 1, 1) := by decide +kernel
theorem dX6_risk_6 : decode cX6_risk 6 = .ok (.invokestatic 320, 3) := by decide +kernel
theorem dX6_risk_9 : decode cX6_risk 9 = .ok (.ifCond .ne 10, 3) := by decide +kernel
theorem dX6_risk_12 : decode cX6_risk 12 = .ok (.aload_n 0, 1) := by decide +kernel
theorem dX6_risk_13 : decode cX6_risk 13 = .ok (.iconst 1, 1) := by decide +kernel
theorem dX6_risk_14 : decode cX6_risk 14 = .ok (.invokevirtual 95, 3) := by decide +kernel
theorem dX6_risk_17 : decode cX6_risk 17 = .ok (.i2d, 1) := by decide +kernel
theorem dX6_risk_18 : decode cX6_risk 18 = .ok (.dreturn, 1) := by decide +kernel
theorem dX6_risk_19 : decode cX6_risk 19 = .ok (.aload_n 0, 1) := by decide +kernel
theorem dX6_risk_20 : decode cX6_risk 20 = .ok (.iload_n 1, 1) := by decide +kernel
theorem dX6_risk_21 : decode cX6_risk 21 = .ok (.invokevirtual 346, 3) := by decide +kernel
theorem dX6_risk_24 : decode cX6_risk 24 = .ok (.dconst 0, 1) := by decide +kernel
theorem dX6_risk_25 : decode cX6_risk 25 = .ok (.dstore_n 2, 1) := by decide +kernel
theorem dX6_risk_26 : decode cX6_risk 26 = .ok (.aload_n 0, 1) := by decide +kernel
theorem dX6_risk_27 : decode cX6_risk 27 = .ok (.invokevirtual 242, 3) := by decide +kernel
theorem dX6_risk_30 : decode cX6_risk 30 = .ok (.iconst 1, 1) := by decide +kernel
theorem dX6_risk_31 : decode cX6_risk 31 = .ok (.iadd, 1) := by decide +kernel
theorem dX6_risk_32 : decode cX6_risk 32 = .ok (.istore 4, 2) := by decide +kernel
theorem dX6_risk_34 : decode cX6_risk 34 = .ok (.iload 4, 2) := by decide +kernel
theorem dX6_risk_36 : decode cX6_risk 36 = .ok (.aload_n 0, 1) := by decide +kernel
theorem dX6_risk_37 : decode cX6_risk 37 = .ok (.getfield 49, 3) := by decide +kernel
theorem dX6_risk_40 : decode cX6_risk 40 = .ok (.arraylength, 1) := by decide +kernel
theorem dX6_risk_41 : decode cX6_risk 41 = .ok (.if_icmp .ge 19, 3) := by decide +kernel
theorem dX6_risk_44 : decode cX6_risk 44 = .ok (.dload_n 2, 1) := by decide +kernel
theorem dX6_risk_45 : decode cX6_risk 45 = .ok (.aload_n 0, 1) := by decide +kernel
theorem dX6_risk_46 : decode cX6_risk 46 = .ok (.getfield 49, 3) := by decide +kernel
theorem dX6_risk_49 : decode cX6_risk 49 = .ok (.iload 4, 2) := by decide +kernel
theorem dX6_risk_51 : decode cX6_risk 51 = .ok (.daload, 1) := by decide +kernel
theorem dX6_risk_52 : decode cX6_risk 52 = .ok (.dadd, 1) := by decide +kernel
theorem dX6_risk_53 : decode cX6_risk 53 = .ok (.dstore_n 2, 1) := by decide +kernel
theorem dX6_risk_54 : decode cX6_risk 54 = .ok (.iinc 4 1, 3) := by decide +kernel
theorem dX6_risk_57 : decode cX6_risk 57 = .ok (.goto (-23), 3) := by decide +kernel
theorem dX6_risk_60 : decode cX6_risk 60 = .ok (.dload_n 2, 1) := by decide +kernel
theorem dX6_risk_61 : decode cX6_risk 61 = .ok (.dreturn, 1) := by decide +kernel
theorem dX6_expectedWalks_0 : decode cX6_expectedWalks 0 = .ok (.aload_n 0, 1) := by decide +kernel
theorem dX6_expectedWalks_1 : decode cX6_expectedWalks 1 = .ok (.iconst 0, 1) := by decide +kernel
theorem dX6_expectedWalks_2 : decode cX6_expectedWalks 2 = .ok (.putfield 63, 3) := by decide +kernel
theorem dX6_expectedWalks_5 : decode cX6_expectedWalks 5 = .ok (.iload_n 1, 1) := by decide +kernel
theorem dX6_expectedWalks_6 : decode cX6_expectedWalks 6 = .ok (.invokestatic 320, 3) := by decide +kernel
theorem dX6_expectedWalks_9 : decode cX6_expectedWalks 9 = .ok (.ifCond .ne 10, 3) := by decide +kernel
theorem dX6_expectedWalks_12 : decode cX6_expectedWalks 12 = .ok (.aload_n 0, 1) := by decide +kernel
theorem dX6_expectedWalks_13 : decode cX6_expectedWalks 13 = .ok (.iconst 1, 1) := by decide +kernel
theorem dX6_expectedWalks_14 : decode cX6_expectedWalks 14 = .ok (.invokevirtual 95, 3) := by decide +kernel
theorem dX6_expectedWalks_17 : decode cX6_expectedWalks 17 = .ok (.i2d, 1) := by decide +kernel
theorem dX6_expectedWalks_18 : decode cX6_expectedWalks 18 = .ok (.dreturn, 1) := by decide +kernel
theorem dX6_expectedWalks_19 : decode cX6_expectedWalks 19 = .ok (.aload_n 0, 1) := by decide +kernel
theorem dX6_expectedWalks_20 : decode cX6_expectedWalks 20 = .ok (.iload_n 1, 1) := by decide +kernel
theorem dX6_expectedWalks_21 : decode cX6_expectedWalks 21 = .ok (.invokevirtual 346, 3) := by decide +kernel
theorem dX6_expectedWalks_24 : decode cX6_expectedWalks 24 = .ok (.dconst 0, 1) := by decide +kernel
theorem dX6_expectedWalks_25 : decode cX6_expectedWalks 25 = .ok (.dstore_n 2, 1) := by decide +kernel
theorem dX6_expectedWalks_26 : decode cX6_expectedWalks 26 = .ok (.aload_n 0, 1) := by decide +kernel
theorem dX6_expectedWalks_27 : decode cX6_expectedWalks 27 = .ok (.invokevirtual 242, 3) := by decide +kernel
theorem dX6_expectedWalks_30 : decode cX6_expectedWalks 30 = .ok (.iconst 1, 1) := by decide +kernel
theorem dX6_expectedWalks_31 : decode cX6_expectedWalks 31 = .ok (.iadd, 1) := by decide +kernel
theorem dX6_expectedWalks_32 : decode cX6_expectedWalks 32 = .ok (.istore 4, 2) := by decide +kernel
theorem dX6_expectedWalks_34 : decode cX6_expectedWalks 34 = .ok (.iload 4, 2) := by decide +kernel
theorem dX6_expectedWalks_36 : decode cX6_expectedWalks 36 = .ok (.aload_n 0, 1) := by decide +kernel
theorem dX6_expectedWalks_37 : decode cX6_expectedWalks 37 = .ok (.getfield 49, 3) := by decide +kernel
theorem dX6_expectedWalks_40 : decode cX6_expectedWalks 40 = .ok (.arraylength, 1) := by decide +kernel
theorem dX6_expectedWalks_41 : decode cX6_expectedWalks 41 = .ok (.if_icmp .ge 28, 3) := by decide +kernel
theorem dX6_expectedWalks_44 : decode cX6_expectedWalks 44 = .ok (.dload_n 2, 1) := by decide +kernel
theorem dX6_expectedWalks_45 : decode cX6_expectedWalks 45 = .ok (.iload 4, 2) := by decide +kernel
theorem dX6_expectedWalks_47 : decode cX6_expectedWalks 47 = .ok (.aload_n 0, 1) := by decide +kernel
theorem dX6_expectedWalks_48 : decode cX6_expectedWalks 48 = .ok (.invokevirtual 242, 3) := by decide +kernel
theorem dX6_expectedWalks_51 : decode cX6_expectedWalks 51 = .ok (.isub, 1) := by decide +kernel
theorem dX6_expectedWalks_52 : decode cX6_expectedWalks 52 = .ok (.i2d, 1) := by decide +kernel
theorem dX6_expectedWalks_53 : decode cX6_expectedWalks 53 = .ok (.aload_n 0, 1) := by decide +kernel
theorem dX6_expectedWalks_54 : decode cX6_expectedWalks 54 = .ok (.getfield 49, 3) := by decide +kernel
theorem dX6_expectedWalks_57 : decode cX6_expectedWalks 57 = .ok (.iload 4, 2) := by decide +kernel
theorem dX6_expectedWalks_59 : decode cX6_expectedWalks 59 = .ok (.daload, 1) := by decide +kernel
theorem dX6_expectedWalks_60 : decode cX6_expectedWalks 60 = .ok (.dmul, 1) := by decide +kernel
theorem dX6_expectedWalks_61 : decode cX6_expectedWalks 61 = .ok (.dadd, 1) := by decide +kernel
theorem dX6_expectedWalks_62 : decode cX6_expectedWalks 62 = .ok (.dstore_n 2, 1) := by decide +kernel
theorem dX6_expectedWalks_63 : decode cX6_expectedWalks 63 = .ok (.iinc 4 1, 3) := by decide +kernel
theorem dX6_expectedWalks_66 : decode cX6_expectedWalks 66 = .ok (.goto (-32), 3) := by decide +kernel
theorem dX6_expectedWalks_69 : decode cX6_expectedWalks 69 = .ok (.dload_n 2, 1) := by decide +kernel
theorem dX6_expectedWalks_70 : decode cX6_expectedWalks 70 = .ok (.dreturn, 1) := by decide +kernel
theorem dX6_copyRow_0 : decode cX6_copyRow 0 = .ok (.iconst 0, 1) := by decide +kernel
theorem dX6_copyRow_1 : decode cX6_copyRow 1 = .ok (.istore_n 3, 1) := by decide +kernel
theorem dX6_copyRow_2 : decode cX6_copyRow 2 = .ok (.iload_n 3, 1) := by decide +kernel
theorem dX6_copyRow_3 : decode cX6_copyRow 3 = .ok (.sipush 208, 3) := by decide +kernel
theorem dX6_copyRow_6 : decode cX6_copyRow 6 = .ok (.if_icmp .ge 33, 3) := by decide +kernel
theorem dX6_copyRow_9 : decode cX6_copyRow 9 = .ok (.aload_n 0, 1) := by decide +kernel
theorem dX6_copyRow_10 : decode cX6_copyRow 10 = .ok (.getfield 7, 3) := by decide +kernel
theorem dX6_copyRow_13 : decode cX6_copyRow 13 = .ok (.sipush 208, 3) := by decide +kernel
theorem dX6_copyRow_16 : decode cX6_copyRow 16 = .ok (.iload_n 2, 1) := by decide +kernel
theorem dX6_copyRow_17 : decode cX6_copyRow 17 = .ok (.imul, 1) := by decide +kernel
theorem dX6_copyRow_18 : decode cX6_copyRow 18 = .ok (.iload_n 3, 1) := by decide +kernel
theorem dX6_copyRow_19 : decode cX6_copyRow 19 = .ok (.iadd, 1) := by decide +kernel
theorem dX6_copyRow_20 : decode cX6_copyRow 20 = .ok (.aload_n 0, 1) := by decide +kernel
theorem dX6_copyRow_21 : decode cX6_copyRow 21 = .ok (.getfield 7, 3) := by decide +kernel
theorem dX6_copyRow_24 : decode cX6_copyRow 24 = .ok (.sipush 208, 3) := by decide +kernel
theorem dX6_copyRow_27 : decode cX6_copyRow 27 = .ok (.iload_n 1, 1) := by decide +kernel
theorem dX6_copyRow_28 : decode cX6_copyRow 28 = .ok (.imul, 1) := by decide +kernel
theorem dX6_copyRow_29 : decode cX6_copyRow 29 = .ok (.iload_n 3, 1) := by decide +kernel
theorem dX6_copyRow_30 : decode cX6_copyRow 30 = .ok (.iadd, 1) := by decide +kernel
theorem dX6_copyRow_31 : decode cX6_copyRow 31 = .ok (.iaload, 1) := by decide +kernel
theorem dX6_copyRow_32 : decode cX6_copyRow 32 = .ok (.iastore, 1) := by decide +kernel
theorem dX6_copyRow_33 : decode cX6_copyRow 33 = .ok (.iinc 3 1, 3) := by decide +kernel
theorem dX6_copyRow_36 : decode cX6_copyRow 36 = .ok (.goto (-34), 3) := by decide +kernel
theorem dX6_copyRow_39 : decode cX6_copyRow 39 = .ok (.return_, 1) := by decide +kernel
theorem dX6_beginTrial_0 : decode cX6_beginTrial 0 = .ok (.aload_n 0, 1) := by decide +kernel
theorem dX6_beginTrial_1 : decode cX6_beginTrial 1 = .ok (.iconst 0, 1) := by decide +kernel
theorem dX6_beginTrial_2 : decode cX6_beginTrial 2 = .ok (.iconst 1, 1) := by decide +kernel
theorem dX6_beginTrial_3 : decode cX6_beginTrial 3 = .ok (.invokevirtual 159, 3) := by decide +kernel
theorem dX6_beginTrial_6 : decode cX6_beginTrial 6 = .ok (.aload_n 0, 1) := by decide +kernel
theorem dX6_beginTrial_7 : decode cX6_beginTrial 7 = .ok (.sipush 208, 3) := by decide +kernel
theorem dX6_beginTrial_10 : decode cX6_beginTrial 10 = .ok (.putfield 66, 3) := by decide +kernel
theorem dX6_beginTrial_13 : decode cX6_beginTrial 13 = .ok (.return_, 1) := by decide +kernel
theorem dX6_isGroup_0 : decode cX6_isGroup 0 = .ok (.iload_n 0, 1) := by decide +kernel
theorem dX6_isGroup_1 : decode cX6_isGroup 1 = .ok (.iconst 0, 1) := by decide +kernel
theorem dX6_isGroup_2 : decode cX6_isGroup 2 = .ok (.bipush 12, 2) := by decide +kernel
theorem dX6_isGroup_4 : decode cX6_isGroup 4 = .ok (.invokestatic 81, 3) := by decide +kernel
theorem dX6_isGroup_7 : decode cX6_isGroup 7 = .ok (.ifCond .eq 37, 3) := by decide +kernel
theorem dX6_isGroup_10 : decode cX6_isGroup 10 = .ok (.iload_n 1, 1) := by decide +kernel
theorem dX6_isGroup_11 : decode cX6_isGroup 11 = .ok (.iload_n 0, 1) := by decide +kernel
theorem dX6_isGroup_12 : decode cX6_isGroup 12 = .ok (.ifCond .ne 7, 3) := by decide +kernel
theorem dX6_isGroup_15 : decode cX6_isGroup 15 = .ok (.iconst 1, 1) := by decide +kernel
theorem dX6_isGroup_16 : decode cX6_isGroup 16 = .ok (.goto 4, 3) := by decide +kernel
theorem dX6_isGroup_19 : decode cX6_isGroup 19 = .ok (.iconst 0, 1) := by decide +kernel
theorem dX6_isGroup_20 : decode cX6_isGroup 20 = .ok (.bipush 12, 2) := by decide +kernel
theorem dX6_isGroup_22 : decode cX6_isGroup 22 = .ok (.iload_n 0, 1) := by decide +kernel
theorem dX6_isGroup_23 : decode cX6_isGroup 23 = .ok (.isub, 1) := by decide +kernel
theorem dX6_isGroup_24 : decode cX6_isGroup 24 = .ok (.invokestatic 81, 3) := by decide +kernel
theorem dX6_isGroup_27 : decode cX6_isGroup 27 = .ok (.ifCond .eq 17, 3) := by decide +kernel
theorem dX6_isGroup_30 : decode cX6_isGroup 30 = .ok (.iload_n 2, 1) := by decide +kernel
theorem dX6_isGroup_31 : decode cX6_isGroup 31 = .ok (.iconst 0, 1) := by decide +kernel
theorem dX6_isGroup_32 : decode cX6_isGroup 32 = .ok (.bipush 99, 2) := by decide +kernel
theorem dX6_isGroup_34 : decode cX6_isGroup 34 = .ok (.invokestatic 81, 3) := by decide +kernel
theorem dX6_isGroup_37 : decode cX6_isGroup 37 = .ok (.ifCond .eq 7, 3) := by decide +kernel
theorem dX6_isGroup_40 : decode cX6_isGroup 40 = .ok (.iconst 1, 1) := by decide +kernel
theorem dX6_isGroup_41 : decode cX6_isGroup 41 = .ok (.goto 4, 3) := by decide +kernel
theorem dX6_isGroup_44 : decode cX6_isGroup 44 = .ok (.iconst 0, 1) := by decide +kernel
theorem dX6_isGroup_45 : decode cX6_isGroup 45 = .ok (.ireturn, 1) := by decide +kernel
theorem dX6_isStay_0 : decode cX6_isStay 0 = .ok (.iload_n 0, 1) := by decide +kernel
theorem dX6_isStay_1 : decode cX6_isStay 1 = .ok (.invokestatic 320, 3) := by decide +kernel
theorem dX6_isStay_4 : decode cX6_isStay 4 = .ok (.ifCond .eq 19, 3) := by decide +kernel
theorem dX6_isStay_7 : decode cX6_isStay 7 = .ok (.iload_n 1, 1) := by decide +kernel
theorem dX6_isStay_8 : decode cX6_isStay 8 = .ok (.iconst 1, 1) := by decide +kernel
theorem dX6_isStay_9 : decode cX6_isStay 9 = .ok (.bipush 30, 2) := by decide +kernel
theorem dX6_isStay_11 : decode cX6_isStay 11 = .ok (.iload_n 0, 1) := by decide +kernel
theorem dX6_isStay_12 : decode cX6_isStay 12 = .ok (.isub, 1) := by decide +kernel
theorem dX6_isStay_13 : decode cX6_isStay 13 = .ok (.invokestatic 81, 3) := by decide +kernel
theorem dX6_isStay_16 : decode cX6_isStay 16 = .ok (.ifCond .eq 7, 3) := by decide +kernel
theorem dX6_isStay_19 : decode cX6_isStay 19 = .ok (.iconst 1, 1) := by decide +kernel
theorem dX6_isStay_20 : decode cX6_isStay 20 = .ok (.goto 4, 3) := by decide +kernel
theorem dX6_isStay_23 : decode cX6_isStay 23 = .ok (.iconst 0, 1) := by decide +kernel
theorem dX6_isStay_24 : decode cX6_isStay 24 = .ok (.ireturn, 1) := by decide +kernel
theorem dX6_addsAccepted_0 : decode cX6_addsAccepted 0 = .ok (.aload_n 0, 1) := by decide +kernel
theorem dX6_addsAccepted_1 : decode cX6_addsAccepted 1 = .ok (.iload_n 1, 1) := by decide +kernel
theorem dX6_addsAccepted_2 : decode cX6_addsAccepted 2 = .ok (.iload_n 2, 1) := by decide +kernel
theorem dX6_addsAccepted_3 : decode cX6_addsAccepted 3 = .ok (.iload_n 3, 1) := by decide +kernel
theorem dX6_addsAccepted_4 : decode cX6_addsAccepted 4 = .ok (.iload 4, 2) := by decide +kernel
theorem dX6_addsAccepted_6 : decode cX6_addsAccepted 6 = .ok (.iload 5, 2) := by decide +kernel
theorem dX6_addsAccepted_8 : decode cX6_addsAccepted 8 = .ok (.iconst 0, 1) := by decide +kernel
theorem dX6_addsAccepted_9 : decode cX6_addsAccepted 9 = .ok (.invokevirtual 197, 3) := by decide +kernel
theorem dX6_addsAccepted_12 : decode cX6_addsAccepted 12 = .ok (.aload_n 0, 1) := by decide +kernel
theorem dX6_addsAccepted_13 : decode cX6_addsAccepted 13 = .ok (.aload_n 0, 1) := by decide +kernel
theorem dX6_addsAccepted_14 : decode cX6_addsAccepted 14 = .ok (.bipush 37, 2) := by decide +kernel
theorem dX6_addsAccepted_16 : decode cX6_addsAccepted 16 = .ok (.invokevirtual 69, 3) := by decide +kernel
theorem dX6_addsAccepted_19 : decode cX6_addsAccepted 19 = .ok (.iconst 1, 1) := by decide +kernel
theorem dX6_addsAccepted_20 : decode cX6_addsAccepted 20 = .ok (.isub, 1) := by decide +kernel
theorem dX6_addsAccepted_21 : decode cX6_addsAccepted 21 = .ok (.bipush 8, 2) := by decide +kernel
theorem dX6_addsAccepted_23 : decode cX6_addsAccepted 23 = .ok (.iconst 1, 1) := by decide +kernel
theorem dX6_addsAccepted_24 : decode cX6_addsAccepted 24 = .ok (.invokevirtual 201, 3) := by decide +kernel
theorem dX6_addsAccepted_27 : decode cX6_addsAccepted 27 = .ok (.return_, 1) := by decide +kernel
theorem dX6_wouldBe_0 : decode cX6_wouldBe 0 = .ok (.aload_n 0, 1) := by decide +kernel
theorem dX6_wouldBe_1 : decode cX6_wouldBe 1 = .ok (.iconst 0, 1) := by decide +kernel
theorem dX6_wouldBe_2 : decode cX6_wouldBe 2 = .ok (.putfield 63, 3) := by decide +kernel
theorem dX6_wouldBe_5 : decode cX6_wouldBe 5 = .ok (.iload_n 1, 1) := by decide +kernel
theorem dX6_wouldBe_6 : decode cX6_wouldBe 6 = .ok (.iload_n 2, 1) := by decide +kernel
theorem dX6_wouldBe_7 : decode cX6_wouldBe 7 = .ok (.invokestatic 349, 3) := by decide +kernel
theorem dX6_wouldBe_10 : decode cX6_wouldBe 10 = .ok (.ifCond .eq 14, 3) := by decide +kernel
theorem dX6_wouldBe_13 : decode cX6_wouldBe 13 = .ok (.iload_n 3, 1) := by decide +kernel
theorem dX6_wouldBe_14 : decode cX6_wouldBe 14 = .ok (.iload 4, 2) := by decide +kernel
theorem dX6_wouldBe_16 : decode cX6_wouldBe 16 = .ok (.iload 5, 2) := by decide +kernel
theorem dX6_wouldBe_18 : decode cX6_wouldBe 18 = .ok (.invokestatic 352, 3) := by decide +kernel
theorem dX6_wouldBe_21 : decode cX6_wouldBe 21 = .ok (.ifCond .ne 9, 3) := by decide +kernel
theorem dX6_wouldBe_24 : decode cX6_wouldBe 24 = .ok (.aload_n 0, 1) := by decide +kernel
theorem dX6_wouldBe_25 : decode cX6_wouldBe 25 = .ok (.iconst 1, 1) := by decide +kernel
theorem dX6_wouldBe_26 : decode cX6_wouldBe 26 = .ok (.invokevirtual 95, 3) := by decide +kernel
theorem dX6_wouldBe_29 : decode cX6_wouldBe 29 = .ok (.ireturn, 1) := by decide +kernel
theorem dX6_wouldBe_30 : decode cX6_wouldBe 30 = .ok (.aload_n 0, 1) := by decide +kernel
theorem dX6_wouldBe_31 : decode cX6_wouldBe 31 = .ok (.invokevirtual 355, 3) := by decide +kernel
theorem dX6_wouldBe_34 : decode cX6_wouldBe 34 = .ok (.aload_n 0, 1) := by decide +kernel
theorem dX6_wouldBe_35 : decode cX6_wouldBe 35 = .ok (.iload_n 1, 1) := by decide +kernel
theorem dX6_wouldBe_36 : decode cX6_wouldBe 36 = .ok (.iload_n 2, 1) := by decide +kernel
theorem dX6_wouldBe_37 : decode cX6_wouldBe 37 = .ok (.iload_n 3, 1) := by decide +kernel
theorem dX6_wouldBe_38 : decode cX6_wouldBe 38 = .ok (.iload 4, 2) := by decide +kernel
theorem dX6_wouldBe_40 : decode cX6_wouldBe 40 = .ok (.iload 5, 2) := by decide +kernel
theorem dX6_wouldBe_42 : decode cX6_wouldBe 42 = .ok (.invokevirtual 358, 3) := by decide +kernel
theorem dX6_wouldBe_45 : decode cX6_wouldBe 45 = .ok (.aload_n 0, 1) := by decide +kernel
theorem dX6_wouldBe_46 : decode cX6_wouldBe 46 = .ok (.invokevirtual 308, 3) := by decide +kernel
theorem dX6_wouldBe_49 : decode cX6_wouldBe 49 = .ok (.aload_n 0, 1) := by decide +kernel
theorem dX6_wouldBe_50 : decode cX6_wouldBe 50 = .ok (.getfield 37, 3) := by decide +kernel
theorem dX6_wouldBe_53 : decode cX6_wouldBe 53 = .ok (.aload_n 0, 1) := by decide +kernel
theorem dX6_wouldBe_54 : decode cX6_wouldBe 54 = .ok (.bipush 37, 2) := by decide +kernel
theorem dX6_wouldBe_56 : decode cX6_wouldBe 56 = .ok (.invokevirtual 69, 3) := by decide +kernel
theorem dX6_wouldBe_59 : decode cX6_wouldBe 59 = .ok (.iconst 1, 1) := by decide +kernel
theorem dX6_wouldBe_60 : decode cX6_wouldBe 60 = .ok (.isub, 1) := by decide +kernel
theorem dX6_wouldBe_61 : decode cX6_wouldBe 61 = .ok (.iaload, 1) := by decide +kernel
theorem dX6_wouldBe_62 : decode cX6_wouldBe 62 = .ok (.istore 6, 2) := by decide +kernel
theorem dX6_wouldBe_64 : decode cX6_wouldBe 64 = .ok (.aload_n 0, 1) := by decide +kernel
theorem dX6_wouldBe_65 : decode cX6_wouldBe 65 = .ok (.iconst 0, 1) := by decide +kernel
theorem dX6_wouldBe_66 : decode cX6_wouldBe 66 = .ok (.putfield 66, 3) := by decide +kernel
theorem dX6_wouldBe_69 : decode cX6_wouldBe 69 = .ok (.iload 6, 2) := by decide +kernel
theorem dX6_wouldBe_71 : decode cX6_wouldBe 71 = .ok (.ireturn, 1) := by decide +kernel
theorem dX6_bestStay_0 : decode cX6_bestStay 0 = .ok (.aload_n 0, 1) := by decide +kernel
theorem dX6_bestStay_1 : decode cX6_bestStay 1 = .ok (.iconst 0, 1) := by decide +kernel
theorem dX6_bestStay_2 : decode cX6_bestStay 2 = .ok (.putfield 63, 3) := by decide +kernel
theorem dX6_bestStay_5 : decode cX6_bestStay 5 = .ok (.iload_n 1, 1) := by decide +kernel
theorem dX6_bestStay_6 : decode cX6_bestStay 6 = .ok (.invokestatic 320, 3) := by decide +kernel
theorem dX6_bestStay_9 : decode cX6_bestStay 9 = .ok (.ifCond .eq 13, 3) := by decide +kernel
theorem dX6_bestStay_12 : decode cX6_bestStay 12 = .ok (.iload_n 2, 1) := by decide +kernel
theorem dX6_bestStay_13 : decode cX6_bestStay 13 = .ok (.iload_n 3, 1) := by decide +kernel
theorem dX6_bestStay_14 : decode cX6_bestStay 14 = .ok (.iload 4, 2) := by decide +kernel
theorem dX6_bestStay_16 : decode cX6_bestStay 16 = .ok (.invokestatic 352, 3) := by decide +kernel
theorem dX6_bestStay_19 : decode cX6_bestStay 19 = .ok (.ifCond .ne 9, 3) := by decide +kernel
theorem dX6_bestStay_22 : decode cX6_bestStay 22 = .ok (.aload_n 0, 1) := by decide +kernel
theorem dX6_bestStay_23 : decode cX6_bestStay 23 = .ok (.iconst 1, 1) := by decide +kernel
theorem dX6_bestStay_24 : decode cX6_bestStay 24 = .ok (.invokevirtual 95, 3) := by decide +kernel
theorem dX6_bestStay_27 : decode cX6_bestStay 27 = .ok (.ireturn, 1) := by decide +kernel
theorem dX6_bestStay_28 : decode cX6_bestStay 28 = .ok (.iconst 0, 1) := by decide +kernel
theorem dX6_bestStay_29 : decode cX6_bestStay 29 = .ok (.istore 5, 2) := by decide +kernel
theorem dX6_bestStay_31 : decode cX6_bestStay 31 = .ok (.iconst 0, 1) := by decide +kernel
theorem dX6_bestStay_32 : decode cX6_bestStay 32 = .ok (.istore 6, 2) := by decide +kernel
theorem dX6_bestStay_34 : decode cX6_bestStay 34 = .ok (.iconst 1, 1) := by decide +kernel
theorem dX6_bestStay_35 : decode cX6_bestStay 35 = .ok (.istore 7, 2) := by decide +kernel
theorem dX6_bestStay_37 : decode cX6_bestStay 37 = .ok (.iload 7, 2) := by decide +kernel
theorem dX6_bestStay_39 : decode cX6_bestStay 39 = .ok (.bipush 30, 2) := by decide +kernel
theorem dX6_bestStay_41 : decode cX6_bestStay 41 = .ok (.iload_n 1, 1) := by decide +kernel
theorem dX6_bestStay_42 : decode cX6_bestStay 42 = .ok (.isub, 1) := by decide +kernel
theorem dX6_bestStay_43 : decode cX6_bestStay 43 = .ok (.if_icmp .gt 53, 3) := by decide +kernel
theorem dX6_bestStay_46 : decode cX6_bestStay 46 = .ok (.aload_n 0, 1) := by decide +kernel
theorem dX6_bestStay_47 : decode cX6_bestStay 47 = .ok (.invokevirtual 355, 3) := by decide +kernel
theorem dX6_bestStay_50 : decode cX6_bestStay 50 = .ok (.aload_n 0, 1) := by decide +kernel
theorem dX6_bestStay_51 : decode cX6_bestStay 51 = .ok (.iload_n 1, 1) := by decide +kernel
theorem dX6_bestStay_52 : decode cX6_bestStay 52 = .ok (.iload 7, 2) := by decide +kernel
theorem dX6_bestStay_54 : decode cX6_bestStay 54 = .ok (.iload_n 2, 1) := by decide +kernel
theorem dX6_bestStay_55 : decode cX6_bestStay 55 = .ok (.iload_n 3, 1) := by decide +kernel
theorem dX6_bestStay_56 : decode cX6_bestStay 56 = .ok (.iload 4, 2) := by decide +kernel
theorem dX6_bestStay_58 : decode cX6_bestStay 58 = .ok (.invokevirtual 358, 3) := by decide +kernel
theorem dX6_bestStay_61 : decode cX6_bestStay 61 = .ok (.aload_n 0, 1) := by decide +kernel
theorem dX6_bestStay_62 : decode cX6_bestStay 62 = .ok (.invokevirtual 341, 3) := by decide +kernel
theorem dX6_bestStay_65 : decode cX6_bestStay 65 = .ok (.istore 8, 2) := by decide +kernel
theorem dX6_bestStay_67 : decode cX6_bestStay 67 = .ok (.iload 5, 2) := by decide +kernel
theorem dX6_bestStay_69 : decode cX6_bestStay 69 = .ok (.ifCond .le 13, 3) := by decide +kernel
theorem dX6_bestStay_72 : decode cX6_bestStay 72 = .ok (.iload 8, 2) := by decide +kernel
theorem dX6_bestStay_74 : decode cX6_bestStay 74 = .ok (.iload 6, 2) := by decide +kernel
theorem dX6_bestStay_76 : decode cX6_bestStay 76 = .ok (.if_icmp .gt 6, 3) := by decide +kernel
theorem dX6_bestStay_79 : decode cX6_bestStay 79 = .ok (.goto 11, 3) := by decide +kernel
theorem dX6_bestStay_82 : decode cX6_bestStay 82 = .ok (.iload 7, 2) := by decide +kernel
theorem dX6_bestStay_84 : decode cX6_bestStay 84 = .ok (.istore 5, 2) := by decide +kernel
theorem dX6_bestStay_86 : decode cX6_bestStay 86 = .ok (.iload 8, 2) := by decide +kernel
theorem dX6_bestStay_88 : decode cX6_bestStay 88 = .ok (.istore 6, 2) := by decide +kernel
theorem dX6_bestStay_90 : decode cX6_bestStay 90 = .ok (.iinc 7 1, 3) := by decide +kernel
theorem dX6_bestStay_93 : decode cX6_bestStay 93 = .ok (.goto (-56), 3) := by decide +kernel
theorem dX6_bestStay_96 : decode cX6_bestStay 96 = .ok (.aload_n 0, 1) := by decide +kernel
theorem dX6_bestStay_97 : decode cX6_bestStay 97 = .ok (.iconst 0, 1) := by decide +kernel
theorem dX6_bestStay_98 : decode cX6_bestStay 98 = .ok (.putfield 66, 3) := by decide +kernel
theorem dX6_bestStay_101 : decode cX6_bestStay 101 = .ok (.iload 5, 2) := by decide +kernel
theorem dX6_bestStay_103 : decode cX6_bestStay 103 = .ok (.ireturn, 1) := by decide +kernel
theorem dX6_netWithout_0 : decode cX6_netWithout 0 = .ok (.aload_n 0, 1) := by decide +kernel
theorem dX6_netWithout_1 : decode cX6_netWithout 1 = .ok (.iconst 0, 1) := by decide +kernel
theorem dX6_netWithout_2 : decode cX6_netWithout 2 = .ok (.putfield 63, 3) := by decide +kernel
theorem dX6_netWithout_5 : decode cX6_netWithout 5 = .ok (.aload_n 0, 1) := by decide +kernel
theorem dX6_netWithout_6 : decode cX6_netWithout 6 = .ok (.iload_n 1, 1) := by decide +kernel
theorem dX6_netWithout_7 : decode cX6_netWithout 7 = .ok (.invokevirtual 260, 3) := by decide +kernel
theorem dX6_netWithout_10 : decode cX6_netWithout 10 = .ok (.ifCond .ne 9, 3) := by decide +kernel
theorem dX6_netWithout_13 : decode cX6_netWithout 13 = .ok (.aload_n 0, 1) := by decide +kernel
theorem dX6_netWithout_14 : decode cX6_netWithout 14 = .ok (.iconst 1, 1) := by decide +kernel
theorem dX6_netWithout_15 : decode cX6_netWithout 15 = .ok (.invokevirtual 95, 3) := by decide +kernel
theorem dX6_netWithout_18 : decode cX6_netWithout 18 = .ok (.ireturn, 1) := by decide +kernel
theorem dX6_netWithout_19 : decode cX6_netWithout 19 = .ok (.aload_n 0, 1) := by decide +kernel
theorem dX6_netWithout_20 : decode cX6_netWithout 20 = .ok (.invokevirtual 355, 3) := by decide +kernel
theorem dX6_netWithout_23 : decode cX6_netWithout 23 = .ok (.aload_n 0, 1) := by decide +kernel
theorem dX6_netWithout_24 : decode cX6_netWithout 24 = .ok (.iload_n 1, 1) := by decide +kernel
theorem dX6_netWithout_25 : decode cX6_netWithout 25 = .ok (.bipush 8, 2) := by decide +kernel
theorem dX6_netWithout_27 : decode cX6_netWithout 27 = .ok (.invokevirtual 77, 3) := by decide +kernel
theorem dX6_netWithout_30 : decode cX6_netWithout 30 = .ok (.iconst 1, 1) := by decide +kernel
theorem dX6_netWithout_31 : decode cX6_netWithout 31 = .ok (.if_icmp .ne 11, 3) := by decide +kernel
theorem dX6_netWithout_34 : decode cX6_netWithout 34 = .ok (.aload_n 0, 1) := by decide +kernel
theorem dX6_netWithout_35 : decode cX6_netWithout 35 = .ok (.iload_n 1, 1) := by decide +kernel
theorem dX6_netWithout_36 : decode cX6_netWithout 36 = .ok (.bipush 8, 2) := by decide +kernel
theorem dX6_netWithout_38 : decode cX6_netWithout 38 = .ok (.iconst 2, 1) := by decide +kernel
theorem dX6_netWithout_39 : decode cX6_netWithout 39 = .ok (.invokevirtual 201, 3) := by decide +kernel
theorem dX6_netWithout_42 : decode cX6_netWithout 42 = .ok (.aload_n 0, 1) := by decide +kernel
theorem dX6_netWithout_43 : decode cX6_netWithout 43 = .ok (.invokevirtual 341, 3) := by decide +kernel
theorem dX6_netWithout_46 : decode cX6_netWithout 46 = .ok (.istore_n 2, 1) := by decide +kernel
theorem dX6_netWithout_47 : decode cX6_netWithout 47 = .ok (.aload_n 0, 1) := by decide +kernel
theorem dX6_netWithout_48 : decode cX6_netWithout 48 = .ok (.iconst 0, 1) := by decide +kernel
theorem dX6_netWithout_49 : decode cX6_netWithout 49 = .ok (.putfield 66, 3) := by decide +kernel
theorem dX6_netWithout_52 : decode cX6_netWithout 52 = .ok (.iload_n 2, 1) := by decide +kernel
theorem dX6_netWithout_53 : decode cX6_netWithout 53 = .ok (.ireturn, 1) := by decide +kernel
theorem dX6_comeAnew_0 : decode cX6_comeAnew 0 = .ok (.aload_n 0, 1) := by decide +kernel
theorem dX6_comeAnew_1 : decode cX6_comeAnew 1 = .ok (.sipush 191, 3) := by decide +kernel
theorem dX6_comeAnew_4 : decode cX6_comeAnew 4 = .ok (.iconst 0, 1) := by decide +kernel
theorem dX6_comeAnew_5 : decode cX6_comeAnew 5 = .ok (.invokevirtual 73, 3) := by decide +kernel
theorem dX6_comeAnew_8 : decode cX6_comeAnew 8 = .ok (.iconst 0, 1) := by decide +kernel
theorem dX6_comeAnew_9 : decode cX6_comeAnew 9 = .ok (.istore_n 1, 1) := by decide +kernel
theorem dX6_comeAnew_10 : decode cX6_comeAnew 10 = .ok (.iload_n 1, 1) := by decide +kernel
theorem dX6_comeAnew_11 : decode cX6_comeAnew 11 = .ok (.aload_n 0, 1) := by decide +kernel
theorem dX6_comeAnew_12 : decode cX6_comeAnew 12 = .ok (.bipush 37, 2) := by decide +kernel
theorem dX6_comeAnew_14 : decode cX6_comeAnew 14 = .ok (.invokevirtual 69, 3) := by decide +kernel
theorem dX6_comeAnew_17 : decode cX6_comeAnew 17 = .ok (.if_icmp .ge 28, 3) := by decide +kernel
theorem dX6_comeAnew_20 : decode cX6_comeAnew 20 = .ok (.aload_n 0, 1) := by decide +kernel
theorem dX6_comeAnew_21 : decode cX6_comeAnew 21 = .ok (.iload_n 1, 1) := by decide +kernel
theorem dX6_comeAnew_22 : decode cX6_comeAnew 22 = .ok (.bipush 8, 2) := by decide +kernel
theorem dX6_comeAnew_24 : decode cX6_comeAnew 24 = .ok (.invokevirtual 77, 3) := by decide +kernel
theorem dX6_comeAnew_27 : decode cX6_comeAnew 27 = .ok (.iconst 2, 1) := by decide +kernel
theorem dX6_comeAnew_28 : decode cX6_comeAnew 28 = .ok (.if_icmp .eq 11, 3) := by decide +kernel
theorem dX6_comeAnew_31 : decode cX6_comeAnew 31 = .ok (.aload_n 0, 1) := by decide +kernel
theorem dX6_comeAnew_32 : decode cX6_comeAnew 32 = .ok (.iload_n 1, 1) := by decide +kernel
theorem dX6_comeAnew_33 : decode cX6_comeAnew 33 = .ok (.bipush 8, 2) := by decide +kernel
theorem dX6_comeAnew_35 : decode cX6_comeAnew 35 = .ok (.iconst 0, 1) := by decide +kernel
theorem dX6_comeAnew_36 : decode cX6_comeAnew 36 = .ok (.invokevirtual 201, 3) := by decide +kernel
theorem dX6_comeAnew_39 : decode cX6_comeAnew 39 = .ok (.iinc 1 1, 3) := by decide +kernel
theorem dX6_comeAnew_42 : decode cX6_comeAnew 42 = .ok (.goto (-32), 3) := by decide +kernel
theorem dX6_comeAnew_45 : decode cX6_comeAnew 45 = .ok (.iconst 0, 1) := by decide +kernel
theorem dX6_comeAnew_46 : decode cX6_comeAnew 46 = .ok (.istore_n 1, 1) := by decide +kernel
theorem dX6_comeAnew_47 : decode cX6_comeAnew 47 = .ok (.iload_n 1, 1) := by decide +kernel
theorem dX6_comeAnew_48 : decode cX6_comeAnew 48 = .ok (.aload_n 0, 1) := by decide +kernel
theorem dX6_comeAnew_49 : decode cX6_comeAnew 49 = .ok (.bipush 37, 2) := by decide +kernel
theorem dX6_comeAnew_51 : decode cX6_comeAnew 51 = .ok (.invokevirtual 69, 3) := by decide +kernel
theorem dX6_comeAnew_54 : decode cX6_comeAnew 54 = .ok (.if_icmp .ge 25, 3) := by decide +kernel
theorem dX6_comeAnew_57 : decode cX6_comeAnew 57 = .ok (.aload_n 0, 1) := by decide +kernel
theorem dX6_comeAnew_58 : decode cX6_comeAnew 58 = .ok (.iload_n 1, 1) := by decide +kernel
theorem dX6_comeAnew_59 : decode cX6_comeAnew 59 = .ok (.bipush 8, 2) := by decide +kernel
theorem dX6_comeAnew_61 : decode cX6_comeAnew 61 = .ok (.invokevirtual 77, 3) := by decide +kernel
theorem dX6_comeAnew_64 : decode cX6_comeAnew 64 = .ok (.iconst 2, 1) := by decide +kernel
theorem dX6_comeAnew_65 : decode cX6_comeAnew 65 = .ok (.if_icmp .eq 8, 3) := by decide +kernel
theorem dX6_comeAnew_68 : decode cX6_comeAnew 68 = .ok (.aload_n 0, 1) := by decide +kernel
theorem dX6_comeAnew_69 : decode cX6_comeAnew 69 = .ok (.iload_n 1, 1) := by decide +kernel
theorem dX6_comeAnew_70 : decode cX6_comeAnew 70 = .ok (.invokevirtual 205, 3) := by decide +kernel
theorem dX6_comeAnew_73 : decode cX6_comeAnew 73 = .ok (.iinc 1 1, 3) := by decide +kernel
theorem dX6_comeAnew_76 : decode cX6_comeAnew 76 = .ok (.goto (-29), 3) := by decide +kernel
theorem dX6_comeAnew_79 : decode cX6_comeAnew 79 = .ok (.return_, 1) := by decide +kernel
theorem dX6_bestOver_0 : decode cX6_bestOver 0 = .ok (.aload_n 0, 1) := by decide +kernel
theorem dX6_bestOver_1 : decode cX6_bestOver 1 = .ok (.iconst 0, 1) := by decide +kernel
theorem dX6_bestOver_2 : decode cX6_bestOver 2 = .ok (.putfield 63, 3) := by decide +kernel
theorem dX6_bestOver_5 : decode cX6_bestOver 5 = .ok (.iconst (-1), 1) := by decide +kernel
theorem dX6_bestOver_6 : decode cX6_bestOver 6 = .ok (.istore_n 1, 1) := by decide +kernel
theorem dX6_bestOver_7 : decode cX6_bestOver 7 = .ok (.iconst 0, 1) := by decide +kernel
theorem dX6_bestOver_8 : decode cX6_bestOver 8 = .ok (.istore_n 2, 1) := by decide +kernel
theorem dX6_bestOver_9 : decode cX6_bestOver 9 = .ok (.iconst 0, 1) := by decide +kernel
theorem dX6_bestOver_10 : decode cX6_bestOver 10 = .ok (.istore_n 3, 1) := by decide +kernel
theorem dX6_bestOver_11 : decode cX6_bestOver 11 = .ok (.iload_n 3, 1) := by decide +kernel
theorem dX6_bestOver_12 : decode cX6_bestOver 12 = .ok (.bipush 50, 2) := by decide +kernel
theorem dX6_bestOver_14 : decode cX6_bestOver 14 = .ok (.if_icmp .gt 48, 3) := by decide +kernel
theorem dX6_bestOver_17 : decode cX6_bestOver 17 = .ok (.aload_n 0, 1) := by decide +kernel
theorem dX6_bestOver_18 : decode cX6_bestOver 18 = .ok (.invokevirtual 355, 3) := by decide +kernel
theorem dX6_bestOver_21 : decode cX6_bestOver 21 = .ok (.aload_n 0, 1) := by decide +kernel
theorem dX6_bestOver_22 : decode cX6_bestOver 22 = .ok (.iconst 0, 1) := by decide +kernel
theorem dX6_bestOver_23 : decode cX6_bestOver 23 = .ok (.iload_n 3, 1) := by decide +kernel
theorem dX6_bestOver_24 : decode cX6_bestOver 24 = .ok (.invokevirtual 73, 3) := by decide +kernel
theorem dX6_bestOver_27 : decode cX6_bestOver 27 = .ok (.aload_n 0, 1) := by decide +kernel
theorem dX6_bestOver_28 : decode cX6_bestOver 28 = .ok (.invokevirtual 362, 3) := by decide +kernel
theorem dX6_bestOver_31 : decode cX6_bestOver 31 = .ok (.aload_n 0, 1) := by decide +kernel
theorem dX6_bestOver_32 : decode cX6_bestOver 32 = .ok (.invokevirtual 341, 3) := by decide +kernel
theorem dX6_bestOver_35 : decode cX6_bestOver 35 = .ok (.istore 4, 2) := by decide +kernel
theorem dX6_bestOver_37 : decode cX6_bestOver 37 = .ok (.iload_n 1, 1) := by decide +kernel
theorem dX6_bestOver_38 : decode cX6_bestOver 38 = .ok (.iconst (-1), 1) := by decide +kernel
theorem dX6_bestOver_39 : decode cX6_bestOver 39 = .ok (.if_icmp .eq 12, 3) := by decide +kernel
theorem dX6_bestOver_42 : decode cX6_bestOver 42 = .ok (.iload 4, 2) := by decide +kernel
theorem dX6_bestOver_44 : decode cX6_bestOver 44 = .ok (.iload_n 2, 1) := by decide +kernel
theorem dX6_bestOver_45 : decode cX6_bestOver 45 = .ok (.if_icmp .gt 6, 3) := by decide +kernel
theorem dX6_bestOver_48 : decode cX6_bestOver 48 = .ok (.goto 8, 3) := by decide +kernel
theorem dX6_bestOver_51 : decode cX6_bestOver 51 = .ok (.iload_n 3, 1) := by decide +kernel
theorem dX6_bestOver_52 : decode cX6_bestOver 52 = .ok (.istore_n 1, 1) := by decide +kernel
theorem dX6_bestOver_53 : decode cX6_bestOver 53 = .ok (.iload 4, 2) := by decide +kernel
theorem dX6_bestOver_55 : decode cX6_bestOver 55 = .ok (.istore_n 2, 1) := by decide +kernel
theorem dX6_bestOver_56 : decode cX6_bestOver 56 = .ok (.iinc 3 1, 3) := by decide +kernel
theorem dX6_bestOver_59 : decode cX6_bestOver 59 = .ok (.goto (-48), 3) := by decide +kernel
theorem dX6_bestOver_62 : decode cX6_bestOver 62 = .ok (.aload_n 0, 1) := by decide +kernel
theorem dX6_bestOver_63 : decode cX6_bestOver 63 = .ok (.iconst 0, 1) := by decide +kernel
theorem dX6_bestOver_64 : decode cX6_bestOver 64 = .ok (.putfield 66, 3) := by decide +kernel
theorem dX6_bestOver_67 : decode cX6_bestOver 67 = .ok (.iload_n 1, 1) := by decide +kernel
theorem dX6_bestOver_68 : decode cX6_bestOver 68 = .ok (.ireturn, 1) := by decide +kernel
theorem dX6_slot_0 : decode cX6_slot 0 = .ok (.iconst 2, 1) := by decide +kernel
theorem dX6_slot_1 : decode cX6_slot 1 = .ok (.aload_n 0, 1) := by decide +kernel
theorem dX6_slot_2 : decode cX6_slot 2 = .ok (.getfield 165, 3) := by decide +kernel
theorem dX6_slot_5 : decode cX6_slot 5 = .ok (.iload_n 1, 1) := by decide +kernel
theorem dX6_slot_6 : decode cX6_slot 6 = .ok (.iadd, 1) := by decide +kernel
theorem dX6_slot_7 : decode cX6_slot 7 = .ok (.bipush 10, 2) := by decide +kernel
theorem dX6_slot_9 : decode cX6_slot 9 = .ok (.irem, 1) := by decide +kernel
theorem dX6_slot_10 : decode cX6_slot 10 = .ok (.iadd, 1) := by decide +kernel
theorem dX6_slot_11 : decode cX6_slot 11 = .ok (.ireturn, 1) := by decide +kernel
theorem dX6_keep_0 : decode cX6_keep 0 = .ok (.aload_n 0, 1) := by decide +kernel
theorem dX6_keep_1 : decode cX6_keep 1 = .ok (.getfield 162, 3) := by decide +kernel
theorem dX6_keep_4 : decode cX6_keep 4 = .ok (.bipush 10, 2) := by decide +kernel
theorem dX6_keep_6 : decode cX6_keep 6 = .ok (.if_icmp .ne 26, 3) := by decide +kernel
theorem dX6_keep_9 : decode cX6_keep 9 = .ok (.aload_n 0, 1) := by decide +kernel
theorem dX6_keep_10 : decode cX6_keep 10 = .ok (.aload_n 0, 1) := by decide +kernel
theorem dX6_keep_11 : decode cX6_keep 11 = .ok (.getfield 165, 3) := by decide +kernel
theorem dX6_keep_14 : decode cX6_keep 14 = .ok (.iconst 1, 1) := by decide +kernel
theorem dX6_keep_15 : decode cX6_keep 15 = .ok (.iadd, 1) := by decide +kernel
theorem dX6_keep_16 : decode cX6_keep 16 = .ok (.bipush 10, 2) := by decide +kernel
theorem dX6_keep_18 : decode cX6_keep 18 = .ok (.irem, 1) := by decide +kernel
theorem dX6_keep_19 : decode cX6_keep 19 = .ok (.putfield 165, 3) := by decide +kernel
theorem dX6_keep_22 : decode cX6_keep 22 = .ok (.aload_n 0, 1) := by decide +kernel
theorem dX6_keep_23 : decode cX6_keep 23 = .ok (.dup, 1) := by decide +kernel
theorem dX6_keep_24 : decode cX6_keep 24 = .ok (.getfield 162, 3) := by decide +kernel
theorem dX6_keep_27 : decode cX6_keep 27 = .ok (.iconst 1, 1) := by decide +kernel
theorem dX6_keep_28 : decode cX6_keep 28 = .ok (.isub, 1) := by decide +kernel
theorem dX6_keep_29 : decode cX6_keep 29 = .ok (.putfield 162, 3) := by decide +kernel
theorem dX6_keep_32 : decode cX6_keep 32 = .ok (.aload_n 0, 1) := by decide +kernel
theorem dX6_keep_33 : decode cX6_keep 33 = .ok (.iconst 0, 1) := by decide +kernel
theorem dX6_keep_34 : decode cX6_keep 34 = .ok (.aload_n 0, 1) := by decide +kernel
theorem dX6_keep_35 : decode cX6_keep 35 = .ok (.aload_n 0, 1) := by decide +kernel
theorem dX6_keep_36 : decode cX6_keep 36 = .ok (.getfield 162, 3) := by decide +kernel
theorem dX6_keep_39 : decode cX6_keep 39 = .ok (.invokevirtual 365, 3) := by decide +kernel
theorem dX6_keep_42 : decode cX6_keep 42 = .ok (.invokevirtual 159, 3) := by decide +kernel
theorem dX6_keep_45 : decode cX6_keep 45 = .ok (.aload_n 0, 1) := by decide +kernel
theorem dX6_keep_46 : decode cX6_keep 46 = .ok (.dup, 1) := by decide +kernel
theorem dX6_keep_47 : decode cX6_keep 47 = .ok (.getfield 162, 3) := by decide +kernel
theorem dX6_keep_50 : decode cX6_keep 50 = .ok (.iconst 1, 1) := by decide +kernel
theorem dX6_keep_51 : decode cX6_keep 51 = .ok (.iadd, 1) := by decide +kernel
theorem dX6_keep_52 : decode cX6_keep 52 = .ok (.putfield 162, 3) := by decide +kernel
theorem dX6_keep_55 : decode cX6_keep 55 = .ok (.return_, 1) := by decide +kernel
theorem dX6_undo_0 : decode cX6_undo 0 = .ok (.aload_n 0, 1) := by decide +kernel
theorem dX6_undo_1 : decode cX6_undo 1 = .ok (.iconst 0, 1) := by decide +kernel
theorem dX6_undo_2 : decode cX6_undo 2 = .ok (.putfield 63, 3) := by decide +kernel
theorem dX6_undo_5 : decode cX6_undo 5 = .ok (.aload_n 0, 1) := by decide +kernel
theorem dX6_undo_6 : decode cX6_undo 6 = .ok (.getfield 162, 3) := by decide +kernel
theorem dX6_undo_9 : decode cX6_undo 9 = .ok (.ifCond .ne 9, 3) := by decide +kernel
theorem dX6_undo_12 : decode cX6_undo 12 = .ok (.aload_n 0, 1) := by decide +kernel
theorem dX6_undo_13 : decode cX6_undo 13 = .ok (.iconst 1, 1) := by decide +kernel
theorem dX6_undo_14 : decode cX6_undo 14 = .ok (.invokevirtual 95, 3) := by decide +kernel
theorem dX6_undo_17 : decode cX6_undo 17 = .ok (.ireturn, 1) := by decide +kernel
theorem dX6_undo_18 : decode cX6_undo 18 = .ok (.aload_n 0, 1) := by decide +kernel
theorem dX6_undo_19 : decode cX6_undo 19 = .ok (.dup, 1) := by decide +kernel
theorem dX6_undo_20 : decode cX6_undo 20 = .ok (.getfield 162, 3) := by decide +kernel
theorem dX6_undo_23 : decode cX6_undo 23 = .ok (.iconst 1, 1) := by decide +kernel
theorem dX6_undo_24 : decode cX6_undo 24 = .ok (.isub, 1) := by decide +kernel
theorem dX6_undo_25 : decode cX6_undo 25 = .ok (.putfield 162, 3) := by decide +kernel
theorem dX6_undo_28 : decode cX6_undo 28 = .ok (.aload_n 0, 1) := by decide +kernel
theorem dX6_undo_29 : decode cX6_undo 29 = .ok (.aload_n 0, 1) := by decide +kernel
theorem dX6_undo_30 : decode cX6_undo 30 = .ok (.aload_n 0, 1) := by decide +kernel
theorem dX6_undo_31 : decode cX6_undo 31 = .ok (.getfield 162, 3) := by decide +kernel
theorem dX6_undo_34 : decode cX6_undo 34 = .ok (.invokevirtual 365, 3) := by decide +kernel
theorem dX6_undo_37 : decode cX6_undo 37 = .ok (.iconst 0, 1) := by decide +kernel
theorem dX6_undo_38 : decode cX6_undo 38 = .ok (.invokevirtual 159, 3) := by decide +kernel
theorem dX6_undo_41 : decode cX6_undo 41 = .ok (.aload_n 0, 1) := by decide +kernel
theorem dX6_undo_42 : decode cX6_undo 42 = .ok (.getfield 162, 3) := by decide +kernel
theorem dX6_undo_45 : decode cX6_undo 45 = .ok (.ireturn, 1) := by decide +kernel
theorem dX6_book_0 : decode cX6_book 0 = .ok (.aload_n 0, 1) := by decide +kernel
theorem dX6_book_1 : decode cX6_book 1 = .ok (.iconst 0, 1) := by decide +kernel
theorem dX6_book_2 : decode cX6_book 2 = .ok (.putfield 63, 3) := by decide +kernel
theorem dX6_book_5 : decode cX6_book 5 = .ok (.iload_n 1, 1) := by decide +kernel
theorem dX6_book_6 : decode cX6_book 6 = .ok (.iload_n 2, 1) := by decide +kernel
theorem dX6_book_7 : decode cX6_book 7 = .ok (.invokestatic 349, 3) := by decide +kernel
theorem dX6_book_10 : decode cX6_book 10 = .ok (.ifCond .eq 25, 3) := by decide +kernel
theorem dX6_book_13 : decode cX6_book 13 = .ok (.iload_n 3, 1) := by decide +kernel
theorem dX6_book_14 : decode cX6_book 14 = .ok (.iload 4, 2) := by decide +kernel
theorem dX6_book_16 : decode cX6_book 16 = .ok (.iload 5, 2) := by decide +kernel
theorem dX6_book_18 : decode cX6_book 18 = .ok (.invokestatic 352, 3) := by decide +kernel
theorem dX6_book_21 : decode cX6_book 21 = .ok (.ifCond .eq 14, 3) := by decide +kernel
theorem dX6_book_24 : decode cX6_book 24 = .ok (.iload 6, 2) := by decide +kernel
theorem dX6_book_26 : decode cX6_book 26 = .ok (.iconst 0, 1) := by decide +kernel
theorem dX6_book_27 : decode cX6_book 27 = .ok (.bipush 100, 2) := by decide +kernel
theorem dX6_book_29 : decode cX6_book 29 = .ok (.invokestatic 81, 3) := by decide +kernel
theorem dX6_book_32 : decode cX6_book 32 = .ok (.ifCond .ne 9, 3) := by decide +kernel
theorem dX6_book_35 : decode cX6_book 35 = .ok (.aload_n 0, 1) := by decide +kernel
theorem dX6_book_36 : decode cX6_book 36 = .ok (.iconst 1, 1) := by decide +kernel
theorem dX6_book_37 : decode cX6_book 37 = .ok (.invokevirtual 95, 3) := by decide +kernel
theorem dX6_book_40 : decode cX6_book 40 = .ok (.ireturn, 1) := by decide +kernel
theorem dX6_book_41 : decode cX6_book 41 = .ok (.aload_n 0, 1) := by decide +kernel
theorem dX6_book_42 : decode cX6_book 42 = .ok (.bipush 37, 2) := by decide +kernel
theorem dX6_book_44 : decode cX6_book 44 = .ok (.invokevirtual 69, 3) := by decide +kernel
theorem dX6_book_47 : decode cX6_book 47 = .ok (.istore 7, 2) := by decide +kernel
theorem dX6_book_49 : decode cX6_book 49 = .ok (.iload 7, 2) := by decide +kernel
theorem dX6_book_51 : decode cX6_book 51 = .ok (.bipush 16, 2) := by decide +kernel
theorem dX6_book_53 : decode cX6_book 53 = .ok (.if_icmp .ne 9, 3) := by decide +kernel
theorem dX6_book_56 : decode cX6_book 56 = .ok (.aload_n 0, 1) := by decide +kernel
theorem dX6_book_57 : decode cX6_book 57 = .ok (.iconst 2, 1) := by decide +kernel
theorem dX6_book_58 : decode cX6_book 58 = .ok (.invokevirtual 95, 3) := by decide +kernel
theorem dX6_book_61 : decode cX6_book 61 = .ok (.ireturn, 1) := by decide +kernel
theorem dX6_book_62 : decode cX6_book 62 = .ok (.aload_n 0, 1) := by decide +kernel
theorem dX6_book_63 : decode cX6_book 63 = .ok (.invokevirtual 368, 3) := by decide +kernel
theorem dX6_book_66 : decode cX6_book 66 = .ok (.aload_n 0, 1) := by decide +kernel
theorem dX6_book_67 : decode cX6_book 67 = .ok (.iload_n 1, 1) := by decide +kernel
theorem dX6_book_68 : decode cX6_book 68 = .ok (.iload_n 2, 1) := by decide +kernel
theorem dX6_book_69 : decode cX6_book 69 = .ok (.iload_n 3, 1) := by decide +kernel
theorem dX6_book_70 : decode cX6_book 70 = .ok (.iload 4, 2) := by decide +kernel
theorem dX6_book_72 : decode cX6_book 72 = .ok (.iload 5, 2) := by decide +kernel
theorem dX6_book_74 : decode cX6_book 74 = .ok (.iload 6, 2) := by decide +kernel
theorem dX6_book_76 : decode cX6_book 76 = .ok (.invokevirtual 197, 3) := by decide +kernel
theorem dX6_book_79 : decode cX6_book 79 = .ok (.aload_n 0, 1) := by decide +kernel
theorem dX6_book_80 : decode cX6_book 80 = .ok (.getfield 17, 3) := by decide +kernel
theorem dX6_book_83 : decode cX6_book 83 = .ok (.iload 7, 2) := by decide +kernel
theorem dX6_book_85 : decode cX6_book 85 = .ok (.lconst 0, 1) := by decide +kernel
theorem dX6_book_86 : decode cX6_book 86 = .ok (.lastore, 1) := by decide +kernel
theorem dX6_book_87 : decode cX6_book 87 = .ok (.aload_n 0, 1) := by decide +kernel
theorem dX6_book_88 : decode cX6_book 88 = .ok (.iload 7, 2) := by decide +kernel
theorem dX6_book_90 : decode cX6_book 90 = .ok (.invokevirtual 205, 3) := by decide +kernel
theorem dX6_book_93 : decode cX6_book 93 = .ok (.iload 7, 2) := by decide +kernel
theorem dX6_book_95 : decode cX6_book 95 = .ok (.ireturn, 1) := by decide +kernel
theorem dX6_cancel_0 : decode cX6_cancel 0 = .ok (.aload_n 0, 1) := by decide +kernel
theorem dX6_cancel_1 : decode cX6_cancel 1 = .ok (.iconst 0, 1) := by decide +kernel
theorem dX6_cancel_2 : decode cX6_cancel 2 = .ok (.putfield 63, 3) := by decide +kernel
theorem dX6_cancel_5 : decode cX6_cancel 5 = .ok (.aload_n 0, 1) := by decide +kernel
theorem dX6_cancel_6 : decode cX6_cancel 6 = .ok (.iload_n 1, 1) := by decide +kernel
theorem dX6_cancel_7 : decode cX6_cancel 7 = .ok (.invokevirtual 260, 3) := by decide +kernel
theorem dX6_cancel_10 : decode cX6_cancel 10 = .ok (.ifCond .ne 9, 3) := by decide +kernel
theorem dX6_cancel_13 : decode cX6_cancel 13 = .ok (.aload_n 0, 1) := by decide +kernel
theorem dX6_cancel_14 : decode cX6_cancel 14 = .ok (.iconst 1, 1) := by decide +kernel
theorem dX6_cancel_15 : decode cX6_cancel 15 = .ok (.invokevirtual 95, 3) := by decide +kernel
theorem dX6_cancel_18 : decode cX6_cancel 18 = .ok (.ireturn, 1) := by decide +kernel
theorem dX6_cancel_19 : decode cX6_cancel 19 = .ok (.aload_n 0, 1) := by decide +kernel
theorem dX6_cancel_20 : decode cX6_cancel 20 = .ok (.iload_n 1, 1) := by decide +kernel
theorem dX6_cancel_21 : decode cX6_cancel 21 = .ok (.bipush 8, 2) := by decide +kernel
theorem dX6_cancel_23 : decode cX6_cancel 23 = .ok (.invokevirtual 77, 3) := by decide +kernel
theorem dX6_cancel_26 : decode cX6_cancel 26 = .ok (.iconst 2, 1) := by decide +kernel
theorem dX6_cancel_27 : decode cX6_cancel 27 = .ok (.if_icmp .ne 9, 3) := by decide +kernel
theorem dX6_cancel_30 : decode cX6_cancel 30 = .ok (.aload_n 0, 1) := by decide +kernel
theorem dX6_cancel_31 : decode cX6_cancel 31 = .ok (.iconst 2, 1) := by decide +kernel
theorem dX6_cancel_32 : decode cX6_cancel 32 = .ok (.invokevirtual 95, 3) := by decide +kernel
theorem dX6_cancel_35 : decode cX6_cancel 35 = .ok (.ireturn, 1) := by decide +kernel
theorem dX6_cancel_36 : decode cX6_cancel 36 = .ok (.aload_n 0, 1) := by decide +kernel
theorem dX6_cancel_37 : decode cX6_cancel 37 = .ok (.invokevirtual 368, 3) := by decide +kernel
theorem dX6_cancel_40 : decode cX6_cancel 40 = .ok (.aload_n 0, 1) := by decide +kernel
theorem dX6_cancel_41 : decode cX6_cancel 41 = .ok (.iload_n 1, 1) := by decide +kernel
theorem dX6_cancel_42 : decode cX6_cancel 42 = .ok (.invokevirtual 211, 3) := by decide +kernel
theorem dX6_cancel_45 : decode cX6_cancel 45 = .ok (.ireturn, 1) := by decide +kernel
theorem dX6_change_0 : decode cX6_change 0 = .ok (.aload_n 0, 1) := by decide +kernel
theorem dX6_change_1 : decode cX6_change 1 = .ok (.iload_n 1, 1) := by decide +kernel
theorem dX6_change_2 : decode cX6_change 2 = .ok (.invokevirtual 260, 3) := by decide +kernel
theorem dX6_change_5 : decode cX6_change 5 = .ok (.ifCond .ne 10, 3) := by decide +kernel
theorem dX6_change_8 : decode cX6_change 8 = .ok (.aload_n 0, 1) := by decide +kernel
theorem dX6_change_9 : decode cX6_change 9 = .ok (.iconst 1, 1) := by decide +kernel
theorem dX6_change_10 : decode cX6_change 10 = .ok (.putfield 63, 3) := by decide +kernel
theorem dX6_change_13 : decode cX6_change 13 = .ok (.iconst 0, 1) := by decide +kernel
theorem dX6_change_14 : decode cX6_change 14 = .ok (.ireturn, 1) := by decide +kernel
theorem dX6_change_15 : decode cX6_change 15 = .ok (.aload_n 0, 1) := by decide +kernel
theorem dX6_change_16 : decode cX6_change 16 = .ok (.invokevirtual 368, 3) := by decide +kernel
theorem dX6_change_19 : decode cX6_change 19 = .ok (.aload_n 0, 1) := by decide +kernel
theorem dX6_change_20 : decode cX6_change 20 = .ok (.iload_n 1, 1) := by decide +kernel
theorem dX6_change_21 : decode cX6_change 21 = .ok (.iload_n 2, 1) := by decide +kernel
theorem dX6_change_22 : decode cX6_change 22 = .ok (.invokevirtual 77, 3) := by decide +kernel
theorem dX6_change_25 : decode cX6_change 25 = .ok (.iconst 1, 1) := by decide +kernel
theorem dX6_change_26 : decode cX6_change 26 = .ok (.if_icmp .ne 7, 3) := by decide +kernel
theorem dX6_change_29 : decode cX6_change 29 = .ok (.iconst 1, 1) := by decide +kernel
theorem dX6_change_30 : decode cX6_change 30 = .ok (.goto 4, 3) := by decide +kernel
theorem dX6_change_33 : decode cX6_change 33 = .ok (.iconst 0, 1) := by decide +kernel
theorem dX6_change_34 : decode cX6_change 34 = .ok (.istore 4, 2) := by decide +kernel
theorem dX6_change_36 : decode cX6_change 36 = .ok (.aload_n 0, 1) := by decide +kernel
theorem dX6_change_37 : decode cX6_change 37 = .ok (.iload_n 1, 1) := by decide +kernel
theorem dX6_change_38 : decode cX6_change 38 = .ok (.iload_n 2, 1) := by decide +kernel
theorem dX6_change_39 : decode cX6_change 39 = .ok (.iload_n 3, 1) := by decide +kernel
theorem dX6_change_40 : decode cX6_change 40 = .ok (.ifCond .eq 7, 3) := by decide +kernel
theorem dX6_change_43 : decode cX6_change 43 = .ok (.iconst 1, 1) := by decide +kernel
theorem dX6_change_44 : decode cX6_change 44 = .ok (.goto 4, 3) := by decide +kernel
theorem dX6_change_47 : decode cX6_change 47 = .ok (.iconst 0, 1) := by decide +kernel
theorem dX6_change_48 : decode cX6_change 48 = .ok (.invokevirtual 201, 3) := by decide +kernel
theorem dX6_change_51 : decode cX6_change 51 = .ok (.iload 4, 2) := by decide +kernel
theorem dX6_change_53 : decode cX6_change 53 = .ok (.ireturn, 1) := by decide +kernel
theorem dX6_setAbsent_0 : decode cX6_setAbsent 0 = .ok (.aload_n 0, 1) := by decide +kernel
theorem dX6_setAbsent_1 : decode cX6_setAbsent 1 = .ok (.iconst 0, 1) := by decide +kernel
theorem dX6_setAbsent_2 : decode cX6_setAbsent 2 = .ok (.putfield 63, 3) := by decide +kernel
theorem dX6_setAbsent_5 : decode cX6_setAbsent 5 = .ok (.aload_n 0, 1) := by decide +kernel
theorem dX6_setAbsent_6 : decode cX6_setAbsent 6 = .ok (.iload_n 1, 1) := by decide +kernel
theorem dX6_setAbsent_7 : decode cX6_setAbsent 7 = .ok (.bipush 7, 2) := by decide +kernel
theorem dX6_setAbsent_9 : decode cX6_setAbsent 9 = .ok (.iload_n 2, 1) := by decide +kernel
theorem dX6_setAbsent_10 : decode cX6_setAbsent 10 = .ok (.invokevirtual 371, 3) := by decide +kernel
theorem dX6_setAbsent_13 : decode cX6_setAbsent 13 = .ok (.ireturn, 1) := by decide +kernel
theorem dX6_setTogether_0 : decode cX6_setTogether 0 = .ok (.aload_n 0, 1) := by decide +kernel
theorem dX6_setTogether_1 : decode cX6_setTogether 1 = .ok (.iconst 0, 1) := by decide +kernel
theorem dX6_setTogether_2 : decode cX6_setTogether 2 = .ok (.putfield 63, 3) := by decide +kernel
theorem dX6_setTogether_5 : decode cX6_setTogether 5 = .ok (.aload_n 0, 1) := by decide +kernel
theorem dX6_setTogether_6 : decode cX6_setTogether 6 = .ok (.iload_n 1, 1) := by decide +kernel
theorem dX6_setTogether_7 : decode cX6_setTogether 7 = .ok (.bipush 6, 2) := by decide +kernel
theorem dX6_setTogether_9 : decode cX6_setTogether 9 = .ok (.iload_n 2, 1) := by decide +kernel
theorem dX6_setTogether_10 : decode cX6_setTogether 10 = .ok (.invokevirtual 371, 3) := by decide +kernel
theorem dX6_setTogether_13 : decode cX6_setTogether 13 = .ok (.ireturn, 1) := by decide +kernel
theorem dX6_setOver_0 : decode cX6_setOver 0 = .ok (.aload_n 0, 1) := by decide +kernel
theorem dX6_setOver_1 : decode cX6_setOver 1 = .ok (.iconst 0, 1) := by decide +kernel
theorem dX6_setOver_2 : decode cX6_setOver 2 = .ok (.putfield 63, 3) := by decide +kernel
theorem dX6_setOver_5 : decode cX6_setOver 5 = .ok (.iload_n 1, 1) := by decide +kernel
theorem dX6_setOver_6 : decode cX6_setOver 6 = .ok (.iconst 0, 1) := by decide +kernel
theorem dX6_setOver_7 : decode cX6_setOver 7 = .ok (.bipush 50, 2) := by decide +kernel
theorem dX6_setOver_9 : decode cX6_setOver 9 = .ok (.invokestatic 81, 3) := by decide +kernel
theorem dX6_setOver_12 : decode cX6_setOver 12 = .ok (.ifCond .ne 9, 3) := by decide +kernel
theorem dX6_setOver_15 : decode cX6_setOver 15 = .ok (.aload_n 0, 1) := by decide +kernel
theorem dX6_setOver_16 : decode cX6_setOver 16 = .ok (.iconst 1, 1) := by decide +kernel
theorem dX6_setOver_17 : decode cX6_setOver 17 = .ok (.invokevirtual 95, 3) := by decide +kernel
theorem dX6_setOver_20 : decode cX6_setOver 20 = .ok (.ireturn, 1) := by decide +kernel
theorem dX6_setOver_21 : decode cX6_setOver 21 = .ok (.aload_n 0, 1) := by decide +kernel
theorem dX6_setOver_22 : decode cX6_setOver 22 = .ok (.invokevirtual 368, 3) := by decide +kernel
theorem dX6_setOver_25 : decode cX6_setOver 25 = .ok (.aload_n 0, 1) := by decide +kernel
theorem dX6_setOver_26 : decode cX6_setOver 26 = .ok (.iconst 0, 1) := by decide +kernel
theorem dX6_setOver_27 : decode cX6_setOver 27 = .ok (.iload_n 1, 1) := by decide +kernel
theorem dX6_setOver_28 : decode cX6_setOver 28 = .ok (.invokevirtual 73, 3) := by decide +kernel
theorem dX6_setOver_31 : decode cX6_setOver 31 = .ok (.aload_n 0, 1) := by decide +kernel
theorem dX6_setOver_32 : decode cX6_setOver 32 = .ok (.invokevirtual 254, 3) := by decide +kernel
theorem dX6_setOver_35 : decode cX6_setOver 35 = .ok (.ireturn, 1) := by decide +kernel
theorem dX6_setWalk_0 : decode cX6_setWalk 0 = .ok (.aload_n 0, 1) := by decide +kernel
theorem dX6_setWalk_1 : decode cX6_setWalk 1 = .ok (.iconst 0, 1) := by decide +kernel
theorem dX6_setWalk_2 : decode cX6_setWalk 2 = .ok (.putfield 63, 3) := by decide +kernel
theorem dX6_setWalk_5 : decode cX6_setWalk 5 = .ok (.iload_n 1, 1) := by decide +kernel
theorem dX6_setWalk_6 : decode cX6_setWalk 6 = .ok (.iconst 0, 1) := by decide +kernel
theorem dX6_setWalk_7 : decode cX6_setWalk 7 = .ok (.sipush 300, 3) := by decide +kernel
theorem dX6_setWalk_10 : decode cX6_setWalk 10 = .ok (.invokestatic 81, 3) := by decide +kernel
theorem dX6_setWalk_13 : decode cX6_setWalk 13 = .ok (.ifCond .ne 9, 3) := by decide +kernel
theorem dX6_setWalk_16 : decode cX6_setWalk 16 = .ok (.aload_n 0, 1) := by decide +kernel
theorem dX6_setWalk_17 : decode cX6_setWalk 17 = .ok (.iconst 1, 1) := by decide +kernel
theorem dX6_setWalk_18 : decode cX6_setWalk 18 = .ok (.invokevirtual 95, 3) := by decide +kernel
theorem dX6_setWalk_21 : decode cX6_setWalk 21 = .ok (.ireturn, 1) := by decide +kernel
theorem dX6_setWalk_22 : decode cX6_setWalk 22 = .ok (.aload_n 0, 1) := by decide +kernel
theorem dX6_setWalk_23 : decode cX6_setWalk 23 = .ok (.invokevirtual 368, 3) := by decide +kernel
theorem dX6_setWalk_26 : decode cX6_setWalk 26 = .ok (.aload_n 0, 1) := by decide +kernel
theorem dX6_setWalk_27 : decode cX6_setWalk 27 = .ok (.iconst 1, 1) := by decide +kernel
theorem dX6_setWalk_28 : decode cX6_setWalk 28 = .ok (.invokevirtual 69, 3) := by decide +kernel
theorem dX6_setWalk_31 : decode cX6_setWalk 31 = .ok (.istore_n 2, 1) := by decide +kernel
theorem dX6_setWalk_32 : decode cX6_setWalk 32 = .ok (.aload_n 0, 1) := by decide +kernel
theorem dX6_setWalk_33 : decode cX6_setWalk 33 = .ok (.iconst 1, 1) := by decide +kernel
theorem dX6_setWalk_34 : decode cX6_setWalk 34 = .ok (.iload_n 1, 1) := by decide +kernel
theorem dX6_setWalk_35 : decode cX6_setWalk 35 = .ok (.invokevirtual 73, 3) := by decide +kernel
theorem dX6_setWalk_38 : decode cX6_setWalk 38 = .ok (.iload_n 2, 1) := by decide +kernel
theorem dX6_setWalk_39 : decode cX6_setWalk 39 = .ok (.ireturn, 1) := by decide +kernel
theorem dX6_setPrice_0 : decode cX6_setPrice 0 = .ok (.aload_n 0, 1) := by decide +kernel
theorem dX6_setPrice_1 : decode cX6_setPrice 1 = .ok (.iconst 0, 1) := by decide +kernel
theorem dX6_setPrice_2 : decode cX6_setPrice 2 = .ok (.putfield 63, 3) := by decide +kernel
theorem dX6_setPrice_5 : decode cX6_setPrice 5 = .ok (.aload_n 0, 1) := by decide +kernel
theorem dX6_setPrice_6 : decode cX6_setPrice 6 = .ok (.iload_n 1, 1) := by decide +kernel
theorem dX6_setPrice_7 : decode cX6_setPrice 7 = .ok (.invokevirtual 85, 3) := by decide +kernel
theorem dX6_setPrice_10 : decode cX6_setPrice 10 = .ok (.ifCond .ne 9, 3) := by decide +kernel
theorem dX6_setPrice_13 : decode cX6_setPrice 13 = .ok (.aload_n 0, 1) := by decide +kernel
theorem dX6_setPrice_14 : decode cX6_setPrice 14 = .ok (.iconst 1, 1) := by decide +kernel
theorem dX6_setPrice_15 : decode cX6_setPrice 15 = .ok (.invokevirtual 95, 3) := by decide +kernel
theorem dX6_setPrice_18 : decode cX6_setPrice 18 = .ok (.ireturn, 1) := by decide +kernel
theorem dX6_setPrice_19 : decode cX6_setPrice 19 = .ok (.iload_n 2, 1) := by decide +kernel
theorem dX6_setPrice_20 : decode cX6_setPrice 20 = .ok (.iconst 1, 1) := by decide +kernel
theorem dX6_setPrice_21 : decode cX6_setPrice 21 = .ok (.sipush 200, 3) := by decide +kernel
theorem dX6_setPrice_24 : decode cX6_setPrice 24 = .ok (.invokestatic 81, 3) := by decide +kernel
theorem dX6_setPrice_27 : decode cX6_setPrice 27 = .ok (.ifCond .ne 9, 3) := by decide +kernel
theorem dX6_setPrice_30 : decode cX6_setPrice 30 = .ok (.aload_n 0, 1) := by decide +kernel
theorem dX6_setPrice_31 : decode cX6_setPrice 31 = .ok (.iconst 2, 1) := by decide +kernel
theorem dX6_setPrice_32 : decode cX6_setPrice 32 = .ok (.invokevirtual 95, 3) := by decide +kernel
theorem dX6_setPrice_35 : decode cX6_setPrice 35 = .ok (.ireturn, 1) := by decide +kernel
theorem dX6_setPrice_36 : decode cX6_setPrice 36 = .ok (.aload_n 0, 1) := by decide +kernel
theorem dX6_setPrice_37 : decode cX6_setPrice 37 = .ok (.invokevirtual 368, 3) := by decide +kernel
theorem dX6_setPrice_40 : decode cX6_setPrice 40 = .ok (.aload_n 0, 1) := by decide +kernel
theorem dX6_setPrice_41 : decode cX6_setPrice 41 = .ok (.iload_n 1, 1) := by decide +kernel
theorem dX6_setPrice_42 : decode cX6_setPrice 42 = .ok (.iconst 3, 1) := by decide +kernel
theorem dX6_setPrice_43 : decode cX6_setPrice 43 = .ok (.invokevirtual 89, 3) := by decide +kernel
theorem dX6_setPrice_46 : decode cX6_setPrice 46 = .ok (.istore_n 3, 1) := by decide +kernel
theorem dX6_setPrice_47 : decode cX6_setPrice 47 = .ok (.aload_n 0, 1) := by decide +kernel
theorem dX6_setPrice_48 : decode cX6_setPrice 48 = .ok (.iconst 5, 1) := by decide +kernel
theorem dX6_setPrice_49 : decode cX6_setPrice 49 = .ok (.iconst 4, 1) := by decide +kernel
theorem dX6_setPrice_50 : decode cX6_setPrice 50 = .ok (.iload_n 1, 1) := by decide +kernel
theorem dX6_setPrice_51 : decode cX6_setPrice 51 = .ok (.imul, 1) := by decide +kernel
theorem dX6_setPrice_52 : decode cX6_setPrice 52 = .ok (.iadd, 1) := by decide +kernel
theorem dX6_setPrice_53 : decode cX6_setPrice 53 = .ok (.iconst 3, 1) := by decide +kernel
theorem dX6_setPrice_54 : decode cX6_setPrice 54 = .ok (.iadd, 1) := by decide +kernel
theorem dX6_setPrice_55 : decode cX6_setPrice 55 = .ok (.iload_n 2, 1) := by decide +kernel
theorem dX6_setPrice_56 : decode cX6_setPrice 56 = .ok (.invokevirtual 73, 3) := by decide +kernel
theorem dX6_setPrice_59 : decode cX6_setPrice 59 = .ok (.iload_n 3, 1) := by decide +kernel
theorem dX6_setPrice_60 : decode cX6_setPrice 60 = .ok (.ireturn, 1) := by decide +kernel
theorem dX6_say_0 : decode cX6_say 0 = .ok (.aload_n 0, 1) := by decide +kernel
theorem dX6_say_1 : decode cX6_say 1 = .ok (.getfield 30, 3) := by decide +kernel
theorem dX6_say_4 : decode cX6_say 4 = .ok (.aload_n 0, 1) := by decide +kernel
theorem dX6_say_5 : decode cX6_say 5 = .ok (.getfield 375, 3) := by decide +kernel
theorem dX6_say_8 : decode cX6_say 8 = .ok (.iload_n 1, 1) := by decide +kernel
theorem dX6_say_9 : decode cX6_say 9 = .ok (.i2c, 1) := by decide +kernel
theorem dX6_say_10 : decode cX6_say 10 = .ok (.castore, 1) := by decide +kernel
theorem dX6_say_11 : decode cX6_say 11 = .ok (.aload_n 0, 1) := by decide +kernel
theorem dX6_say_12 : decode cX6_say 12 = .ok (.dup, 1) := by decide +kernel
theorem dX6_say_13 : decode cX6_say 13 = .ok (.getfield 375, 3) := by decide +kernel
theorem dX6_say_16 : decode cX6_say 16 = .ok (.iconst 1, 1) := by decide +kernel
theorem dX6_say_17 : decode cX6_say 17 = .ok (.iadd, 1) := by decide +kernel
theorem dX6_say_18 : decode cX6_say 18 = .ok (.putfield 375, 3) := by decide +kernel
theorem dX6_say_21 : decode cX6_say 21 = .ok (.return_, 1) := by decide +kernel
theorem dX6_sayNumber_0 : decode cX6_sayNumber 0 = .ok (.iconst 1, 1) := by decide +kernel
theorem dX6_sayNumber_1 : decode cX6_sayNumber 1 = .ok (.istore_n 2, 1) := by decide +kernel
theorem dX6_sayNumber_2 : decode cX6_sayNumber 2 = .ok (.iload_n 1, 1) := by decide +kernel
theorem dX6_sayNumber_3 : decode cX6_sayNumber 3 = .ok (.iload_n 2, 1) := by decide +kernel
theorem dX6_sayNumber_4 : decode cX6_sayNumber 4 = .ok (.idiv, 1) := by decide +kernel
theorem dX6_sayNumber_5 : decode cX6_sayNumber 5 = .ok (.bipush 9, 2) := by decide +kernel
theorem dX6_sayNumber_7 : decode cX6_sayNumber 7 = .ok (.if_icmp .le 11, 3) := by decide +kernel
theorem dX6_sayNumber_10 : decode cX6_sayNumber 10 = .ok (.iload_n 2, 1) := by decide +kernel
theorem dX6_sayNumber_11 : decode cX6_sayNumber 11 = .ok (.bipush 10, 2) := by decide +kernel
theorem dX6_sayNumber_13 : decode cX6_sayNumber 13 = .ok (.imul, 1) := by decide +kernel
theorem dX6_sayNumber_14 : decode cX6_sayNumber 14 = .ok (.istore_n 2, 1) := by decide +kernel
theorem dX6_sayNumber_15 : decode cX6_sayNumber 15 = .ok (.goto (-13), 3) := by decide +kernel
theorem dX6_sayNumber_18 : decode cX6_sayNumber 18 = .ok (.iload_n 2, 1) := by decide +kernel
theorem dX6_sayNumber_19 : decode cX6_sayNumber 19 = .ok (.ifCond .le 24, 3) := by decide +kernel
theorem dX6_sayNumber_22 : decode cX6_sayNumber 22 = .ok (.aload_n 0, 1) := by decide +kernel
theorem dX6_sayNumber_23 : decode cX6_sayNumber 23 = .ok (.bipush 48, 2) := by decide +kernel
theorem dX6_sayNumber_25 : decode cX6_sayNumber 25 = .ok (.iload_n 1, 1) := by decide +kernel
theorem dX6_sayNumber_26 : decode cX6_sayNumber 26 = .ok (.iload_n 2, 1) := by decide +kernel
theorem dX6_sayNumber_27 : decode cX6_sayNumber 27 = .ok (.idiv, 1) := by decide +kernel
theorem dX6_sayNumber_28 : decode cX6_sayNumber 28 = .ok (.bipush 10, 2) := by decide +kernel
theorem dX6_sayNumber_30 : decode cX6_sayNumber 30 = .ok (.irem, 1) := by decide +kernel
theorem dX6_sayNumber_31 : decode cX6_sayNumber 31 = .ok (.iadd, 1) := by decide +kernel
theorem dX6_sayNumber_32 : decode cX6_sayNumber 32 = .ok (.invokevirtual 378, 3) := by decide +kernel
theorem dX6_sayNumber_35 : decode cX6_sayNumber 35 = .ok (.iload_n 2, 1) := by decide +kernel
theorem dX6_sayNumber_36 : decode cX6_sayNumber 36 = .ok (.bipush 10, 2) := by decide +kernel
theorem dX6_sayNumber_38 : decode cX6_sayNumber 38 = .ok (.idiv, 1) := by decide +kernel
theorem dX6_sayNumber_39 : decode cX6_sayNumber 39 = .ok (.istore_n 2, 1) := by decide +kernel
theorem dX6_sayNumber_40 : decode cX6_sayNumber 40 = .ok (.goto (-22), 3) := by decide +kernel
theorem dX6_sayNumber_43 : decode cX6_sayNumber 43 = .ok (.return_, 1) := by decide +kernel
theorem dX6_sayName_0 : decode cX6_sayName 0 = .ok (.bipush 35, 2) := by decide +kernel
theorem dX6_sayName_2 : decode cX6_sayName 2 = .ok (.istore_n 3, 1) := by decide +kernel
theorem dX6_sayName_3 : decode cX6_sayName 3 = .ok (.iload_n 3, 1) := by decide +kernel
theorem dX6_sayName_4 : decode cX6_sayName 4 = .ok (.ifCond .lt 33, 3) := by decide +kernel
theorem dX6_sayName_7 : decode cX6_sayName 7 = .ok (.lload_n 1, 1) := by decide +kernel
theorem dX6_sayName_8 : decode cX6_sayName 8 = .ok (.iload_n 3, 1) := by decide +kernel
theorem dX6_sayName_9 : decode cX6_sayName 9 = .ok (.lshr, 1) := by decide +kernel
theorem dX6_sayName_10 : decode cX6_sayName 10 = .ok (.ldc2_w 381, 3) := by decide +kernel
theorem dX6_sayName_13 : decode cX6_sayName 13 = .ok (.land, 1) := by decide +kernel
theorem dX6_sayName_14 : decode cX6_sayName 14 = .ok (.l2i, 1) := by decide +kernel
theorem dX6_sayName_15 : decode cX6_sayName 15 = .ok (.istore 4, 2) := by decide +kernel
theorem dX6_sayName_17 : decode cX6_sayName 17 = .ok (.iload 4, 2) := by decide +kernel
theorem dX6_sayName_19 : decode cX6_sayName 19 = .ok (.ifCond .le 12, 3) := by decide +kernel
theorem dX6_sayName_22 : decode cX6_sayName 22 = .ok (.aload_n 0, 1) := by decide +kernel
theorem dX6_sayName_23 : decode cX6_sayName 23 = .ok (.iload 4, 2) := by decide +kernel
theorem dX6_sayName_25 : decode cX6_sayName 25 = .ok (.bipush 96, 2) := by decide +kernel
theorem dX6_sayName_27 : decode cX6_sayName 27 = .ok (.iadd, 1) := by decide +kernel
theorem dX6_sayName_28 : decode cX6_sayName 28 = .ok (.invokevirtual 378, 3) := by decide +kernel
theorem dX6_sayName_31 : decode cX6_sayName 31 = .ok (.iinc 3 (-5), 3) := by decide +kernel
theorem dX6_sayName_34 : decode cX6_sayName 34 = .ok (.goto (-31), 3) := by decide +kernel
theorem dX6_sayName_37 : decode cX6_sayName 37 = .ok (.return_, 1) := by decide +kernel
theorem dX6_format_0 : decode cX6_format 0 = .ok (.aload_n 0, 1) := by decide +kernel
theorem dX6_format_1 : decode cX6_format 1 = .ok (.iconst 0, 1) := by decide +kernel
theorem dX6_format_2 : decode cX6_format 2 = .ok (.putfield 63, 3) := by decide +kernel
theorem dX6_format_5 : decode cX6_format 5 = .ok (.iload_n 1, 1) := by decide +kernel
theorem dX6_format_6 : decode cX6_format 6 = .ok (.invokestatic 320, 3) := by decide +kernel
theorem dX6_format_9 : decode cX6_format 9 = .ok (.ifCond .ne 9, 3) := by decide +kernel
theorem dX6_format_12 : decode cX6_format 12 = .ok (.aload_n 0, 1) := by decide +kernel
theorem dX6_format_13 : decode cX6_format 13 = .ok (.iconst 1, 1) := by decide +kernel
theorem dX6_format_14 : decode cX6_format 14 = .ok (.invokevirtual 95, 3) := by decide +kernel
theorem dX6_format_17 : decode cX6_format 17 = .ok (.ireturn, 1) := by decide +kernel
theorem dX6_format_18 : decode cX6_format 18 = .ok (.aload_n 0, 1) := by decide +kernel
theorem dX6_format_19 : decode cX6_format 19 = .ok (.invokevirtual 308, 3) := by decide +kernel
theorem dX6_format_22 : decode cX6_format 22 = .ok (.aload_n 0, 1) := by decide +kernel
theorem dX6_format_23 : decode cX6_format 23 = .ok (.iconst 0, 1) := by decide +kernel
theorem dX6_format_24 : decode cX6_format 24 = .ok (.putfield 375, 3) := by decide +kernel
theorem dX6_format_27 : decode cX6_format 27 = .ok (.iconst 0, 1) := by decide +kernel
theorem dX6_format_28 : decode cX6_format 28 = .ok (.istore_n 2, 1) := by decide +kernel
theorem dX6_format_29 : decode cX6_format 29 = .ok (.iload_n 2, 1) := by decide +kernel
theorem dX6_format_30 : decode cX6_format 30 = .ok (.aload_n 0, 1) := by decide +kernel
theorem dX6_format_31 : decode cX6_format 31 = .ok (.iconst 4, 1) := by decide +kernel
theorem dX6_format_32 : decode cX6_format 32 = .ok (.invokevirtual 69, 3) := by decide +kernel
theorem dX6_format_35 : decode cX6_format 35 = .ok (.if_icmp .ge 74, 3) := by decide +kernel
theorem dX6_format_38 : decode cX6_format 38 = .ok (.iload_n 2, 1) := by decide +kernel
theorem dX6_format_39 : decode cX6_format 39 = .ok (.ifCond .le 15, 3) := by decide +kernel
theorem dX6_format_42 : decode cX6_format 42 = .ok (.aload_n 0, 1) := by decide +kernel
theorem dX6_format_43 : decode cX6_format 43 = .ok (.bipush 44, 2) := by decide +kernel
theorem dX6_format_45 : decode cX6_format 45 = .ok (.invokevirtual 378, 3) := by decide +kernel
theorem dX6_format_48 : decode cX6_format 48 = .ok (.aload_n 0, 1) := by decide +kernel
theorem dX6_format_49 : decode cX6_format 49 = .ok (.bipush 32, 2) := by decide +kernel
theorem dX6_format_51 : decode cX6_format 51 = .ok (.invokevirtual 378, 3) := by decide +kernel
theorem dX6_format_54 : decode cX6_format 54 = .ok (.aload_n 0, 1) := by decide +kernel
theorem dX6_format_55 : decode cX6_format 55 = .ok (.aload_n 0, 1) := by decide +kernel
theorem dX6_format_56 : decode cX6_format 56 = .ok (.getfield 13, 3) := by decide +kernel
theorem dX6_format_59 : decode cX6_format 59 = .ok (.iload_n 2, 1) := by decide +kernel
theorem dX6_format_60 : decode cX6_format 60 = .ok (.laload, 1) := by decide +kernel
theorem dX6_format_61 : decode cX6_format 61 = .ok (.invokevirtual 383, 3) := by decide +kernel
theorem dX6_format_64 : decode cX6_format 64 = .ok (.aload_n 0, 1) := by decide +kernel
theorem dX6_format_65 : decode cX6_format 65 = .ok (.bipush 32, 2) := by decide +kernel
theorem dX6_format_67 : decode cX6_format 67 = .ok (.invokevirtual 378, 3) := by decide +kernel
theorem dX6_format_70 : decode cX6_format 70 = .ok (.aload_n 0, 1) := by decide +kernel
theorem dX6_format_71 : decode cX6_format 71 = .ok (.aload_n 0, 1) := by decide +kernel
theorem dX6_format_72 : decode cX6_format 72 = .ok (.iload_n 2, 1) := by decide +kernel
theorem dX6_format_73 : decode cX6_format 73 = .ok (.iconst 1, 1) := by decide +kernel
theorem dX6_format_74 : decode cX6_format 74 = .ok (.invokevirtual 89, 3) := by decide +kernel
theorem dX6_format_77 : decode cX6_format 77 = .ok (.aload_n 0, 1) := by decide +kernel
theorem dX6_format_78 : decode cX6_format 78 = .ok (.iload_n 2, 1) := by decide +kernel
theorem dX6_format_79 : decode cX6_format 79 = .ok (.iload_n 1, 1) := by decide +kernel
theorem dX6_format_80 : decode cX6_format 80 = .ok (.invokevirtual 323, 3) := by decide +kernel
theorem dX6_format_83 : decode cX6_format 83 = .ok (.isub, 1) := by decide +kernel
theorem dX6_format_84 : decode cX6_format 84 = .ok (.invokevirtual 387, 3) := by decide +kernel
theorem dX6_format_87 : decode cX6_format 87 = .ok (.aload_n 0, 1) := by decide +kernel
theorem dX6_format_88 : decode cX6_format 88 = .ok (.bipush 47, 2) := by decide +kernel
theorem dX6_format_90 : decode cX6_format 90 = .ok (.invokevirtual 378, 3) := by decide +kernel
theorem dX6_format_93 : decode cX6_format 93 = .ok (.aload_n 0, 1) := by decide +kernel
theorem dX6_format_94 : decode cX6_format 94 = .ok (.aload_n 0, 1) := by decide +kernel
theorem dX6_format_95 : decode cX6_format 95 = .ok (.iload_n 2, 1) := by decide +kernel
theorem dX6_format_96 : decode cX6_format 96 = .ok (.iconst 1, 1) := by decide +kernel
theorem dX6_format_97 : decode cX6_format 97 = .ok (.invokevirtual 89, 3) := by decide +kernel
theorem dX6_format_100 : decode cX6_format 100 = .ok (.invokevirtual 387, 3) := by decide +kernel
theorem dX6_format_103 : decode cX6_format 103 = .ok (.iinc 2 1, 3) := by decide +kernel
theorem dX6_format_106 : decode cX6_format 106 = .ok (.goto (-77), 3) := by decide +kernel
theorem dX6_format_109 : decode cX6_format 109 = .ok (.aload_n 0, 1) := by decide +kernel
theorem dX6_format_110 : decode cX6_format 110 = .ok (.iload_n 1, 1) := by decide +kernel
theorem dX6_format_111 : decode cX6_format 111 = .ok (.invokevirtual 329, 3) := by decide +kernel
theorem dX6_format_114 : decode cX6_format 114 = .ok (.istore_n 2, 1) := by decide +kernel
theorem dX6_format_115 : decode cX6_format 115 = .ok (.iload_n 2, 1) := by decide +kernel
theorem dX6_format_116 : decode cX6_format 116 = .ok (.ifCond .le 20, 3) := by decide +kernel
theorem dX6_format_119 : decode cX6_format 119 = .ok (.aload_n 0, 1) := by decide +kernel
theorem dX6_format_120 : decode cX6_format 120 = .ok (.bipush 32, 2) := by decide +kernel
theorem dX6_format_122 : decode cX6_format 122 = .ok (.invokevirtual 378, 3) := by decide +kernel
theorem dX6_format_125 : decode cX6_format 125 = .ok (.aload_n 0, 1) := by decide +kernel
theorem dX6_format_126 : decode cX6_format 126 = .ok (.bipush 43, 2) := by decide +kernel
theorem dX6_format_128 : decode cX6_format 128 = .ok (.invokevirtual 378, 3) := by decide +kernel
theorem dX6_format_131 : decode cX6_format 131 = .ok (.aload_n 0, 1) := by decide +kernel
theorem dX6_format_132 : decode cX6_format 132 = .ok (.iload_n 2, 1) := by decide +kernel
theorem dX6_format_133 : decode cX6_format 133 = .ok (.invokevirtual 387, 3) := by decide +kernel
theorem dX6_format_136 : decode cX6_format 136 = .ok (.aload_n 0, 1) := by decide +kernel
theorem dX6_format_137 : decode cX6_format 137 = .ok (.getfield 375, 3) := by decide +kernel
theorem dX6_format_140 : decode cX6_format 140 = .ok (.ireturn, 1) := by decide +kernel
theorem dX6_formattedCharacter_0 : decode cX6_formattedCharacter 0 = .ok (.aload_n 0, 1) := by decide +kernel
theorem dX6_formattedCharacter_1 : decode cX6_formattedCharacter 1 = .ok (.iconst 0, 1) := by decide +kernel
theorem dX6_formattedCharacter_2 : decode cX6_formattedCharacter 2 = .ok (.putfield 63, 3) := by decide +kernel
theorem dX6_formattedCharacter_5 : decode cX6_formattedCharacter 5 = .ok (.iload_n 1, 1) := by decide +kernel
theorem dX6_formattedCharacter_6 : decode cX6_formattedCharacter 6 = .ok (.iconst 0, 1) := by decide +kernel
theorem dX6_formattedCharacter_7 : decode cX6_formattedCharacter 7 = .ok (.aload_n 0, 1) := by decide +kernel
theorem dX6_formattedCharacter_8 : decode cX6_formattedCharacter 8 = .ok (.getfield 375, 3) := by decide +kernel
theorem dX6_formattedCharacter_11 : decode cX6_formattedCharacter 11 = .ok (.iconst 1, 1) := by decide +kernel
theorem dX6_formattedCharacter_12 : decode cX6_formattedCharacter 12 = .ok (.isub, 1) := by decide +kernel
theorem dX6_formattedCharacter_13 : decode cX6_formattedCharacter 13 = .ok (.invokestatic 81, 3) := by decide +kernel
theorem dX6_formattedCharacter_16 : decode cX6_formattedCharacter 16 = .ok (.ifCond .ne 10, 3) := by decide +kernel
theorem dX6_formattedCharacter_19 : decode cX6_formattedCharacter 19 = .ok (.aload_n 0, 1) := by decide +kernel
theorem dX6_formattedCharacter_20 : decode cX6_formattedCharacter 20 = .ok (.iconst 1, 1) := by decide +kernel
theorem dX6_formattedCharacter_21 : decode cX6_formattedCharacter 21 = .ok (.putfield 63, 3) := by decide +kernel
theorem dX6_formattedCharacter_24 : decode cX6_formattedCharacter 24 = .ok (.iconst 0, 1) := by decide +kernel
theorem dX6_formattedCharacter_25 : decode cX6_formattedCharacter 25 = .ok (.ireturn, 1) := by decide +kernel
theorem dX6_formattedCharacter_26 : decode cX6_formattedCharacter 26 = .ok (.aload_n 0, 1) := by decide +kernel
theorem dX6_formattedCharacter_27 : decode cX6_formattedCharacter 27 = .ok (.getfield 30, 3) := by decide +kernel
theorem dX6_formattedCharacter_30 : decode cX6_formattedCharacter 30 = .ok (.iload_n 1, 1) := by decide +kernel
theorem dX6_formattedCharacter_31 : decode cX6_formattedCharacter 31 = .ok (.caload, 1) := by decide +kernel
theorem dX6_formattedCharacter_32 : decode cX6_formattedCharacter 32 = .ok (.ireturn, 1) := by decide +kernel
theorem dJ6_bitCount_0f7a4_0 : decode cJ6_bitCount_0f7a4 0 = .ok (.iload_n 0, 1) := by decide +kernel
theorem dJ6_bitCount_0f7a4_1 : decode cJ6_bitCount_0f7a4 1 = .ok (.iload_n 0, 1) := by decide +kernel
theorem dJ6_bitCount_0f7a4_2 : decode cJ6_bitCount_0f7a4 2 = .ok (.iconst 1, 1) := by decide +kernel
theorem dJ6_bitCount_0f7a4_3 : decode cJ6_bitCount_0f7a4 3 = .ok (.iushr, 1) := by decide +kernel
theorem dJ6_bitCount_0f7a4_4 : decode cJ6_bitCount_0f7a4 4 = .ok (.ldc_w 265, 3) := by decide +kernel
theorem dJ6_bitCount_0f7a4_7 : decode cJ6_bitCount_0f7a4 7 = .ok (.iand, 1) := by decide +kernel
theorem dJ6_bitCount_0f7a4_8 : decode cJ6_bitCount_0f7a4 8 = .ok (.isub, 1) := by decide +kernel
theorem dJ6_bitCount_0f7a4_9 : decode cJ6_bitCount_0f7a4 9 = .ok (.istore_n 0, 1) := by decide +kernel
theorem dJ6_bitCount_0f7a4_10 : decode cJ6_bitCount_0f7a4 10 = .ok (.iload_n 0, 1) := by decide +kernel
theorem dJ6_bitCount_0f7a4_11 : decode cJ6_bitCount_0f7a4 11 = .ok (.ldc_w 266, 3) := by decide +kernel
theorem dJ6_bitCount_0f7a4_14 : decode cJ6_bitCount_0f7a4 14 = .ok (.iand, 1) := by decide +kernel
theorem dJ6_bitCount_0f7a4_15 : decode cJ6_bitCount_0f7a4 15 = .ok (.iload_n 0, 1) := by decide +kernel
theorem dJ6_bitCount_0f7a4_16 : decode cJ6_bitCount_0f7a4 16 = .ok (.iconst 2, 1) := by decide +kernel
theorem dJ6_bitCount_0f7a4_17 : decode cJ6_bitCount_0f7a4 17 = .ok (.iushr, 1) := by decide +kernel
theorem dJ6_bitCount_0f7a4_18 : decode cJ6_bitCount_0f7a4 18 = .ok (.ldc_w 266, 3) := by decide +kernel
theorem dJ6_bitCount_0f7a4_21 : decode cJ6_bitCount_0f7a4 21 = .ok (.iand, 1) := by decide +kernel
theorem dJ6_bitCount_0f7a4_22 : decode cJ6_bitCount_0f7a4 22 = .ok (.iadd, 1) := by decide +kernel
theorem dJ6_bitCount_0f7a4_23 : decode cJ6_bitCount_0f7a4 23 = .ok (.istore_n 0, 1) := by decide +kernel
theorem dJ6_bitCount_0f7a4_24 : decode cJ6_bitCount_0f7a4 24 = .ok (.iload_n 0, 1) := by decide +kernel
theorem dJ6_bitCount_0f7a4_25 : decode cJ6_bitCount_0f7a4 25 = .ok (.iload_n 0, 1) := by decide +kernel
theorem dJ6_bitCount_0f7a4_26 : decode cJ6_bitCount_0f7a4 26 = .ok (.iconst 4, 1) := by decide +kernel
theorem dJ6_bitCount_0f7a4_27 : decode cJ6_bitCount_0f7a4 27 = .ok (.iushr, 1) := by decide +kernel
theorem dJ6_bitCount_0f7a4_28 : decode cJ6_bitCount_0f7a4 28 = .ok (.iadd, 1) := by decide +kernel
theorem dJ6_bitCount_0f7a4_29 : decode cJ6_bitCount_0f7a4 29 = .ok (.ldc_w 267, 3) := by decide +kernel
theorem dJ6_bitCount_0f7a4_32 : decode cJ6_bitCount_0f7a4 32 = .ok (.iand, 1) := by decide +kernel
theorem dJ6_bitCount_0f7a4_33 : decode cJ6_bitCount_0f7a4 33 = .ok (.istore_n 0, 1) := by decide +kernel
theorem dJ6_bitCount_0f7a4_34 : decode cJ6_bitCount_0f7a4 34 = .ok (.iload_n 0, 1) := by decide +kernel
theorem dJ6_bitCount_0f7a4_35 : decode cJ6_bitCount_0f7a4 35 = .ok (.iload_n 0, 1) := by decide +kernel
theorem dJ6_bitCount_0f7a4_36 : decode cJ6_bitCount_0f7a4 36 = .ok (.bipush 8, 2) := by decide +kernel
theorem dJ6_bitCount_0f7a4_38 : decode cJ6_bitCount_0f7a4 38 = .ok (.iushr, 1) := by decide +kernel
theorem dJ6_bitCount_0f7a4_39 : decode cJ6_bitCount_0f7a4 39 = .ok (.iadd, 1) := by decide +kernel
theorem dJ6_bitCount_0f7a4_40 : decode cJ6_bitCount_0f7a4 40 = .ok (.istore_n 0, 1) := by decide +kernel
theorem dJ6_bitCount_0f7a4_41 : decode cJ6_bitCount_0f7a4 41 = .ok (.iload_n 0, 1) := by decide +kernel
theorem dJ6_bitCount_0f7a4_42 : decode cJ6_bitCount_0f7a4 42 = .ok (.iload_n 0, 1) := by decide +kernel
theorem dJ6_bitCount_0f7a4_43 : decode cJ6_bitCount_0f7a4 43 = .ok (.bipush 16, 2) := by decide +kernel
theorem dJ6_bitCount_0f7a4_45 : decode cJ6_bitCount_0f7a4 45 = .ok (.iushr, 1) := by decide +kernel
theorem dJ6_bitCount_0f7a4_46 : decode cJ6_bitCount_0f7a4 46 = .ok (.iadd, 1) := by decide +kernel
theorem dJ6_bitCount_0f7a4_47 : decode cJ6_bitCount_0f7a4 47 = .ok (.istore_n 0, 1) := by decide +kernel
theorem dJ6_bitCount_0f7a4_48 : decode cJ6_bitCount_0f7a4 48 = .ok (.iload_n 0, 1) := by decide +kernel
theorem dJ6_bitCount_0f7a4_49 : decode cJ6_bitCount_0f7a4 49 = .ok (.bipush 63, 2) := by decide +kernel
theorem dJ6_bitCount_0f7a4_51 : decode cJ6_bitCount_0f7a4 51 = .ok (.iand, 1) := by decide +kernel
theorem dJ6_bitCount_0f7a4_52 : decode cJ6_bitCount_0f7a4 52 = .ok (.ireturn, 1) := by decide +kernel
theorem dJ9_max_7cf53_0 : decode cJ9_max_7cf53 0 = .ok (.iload_n 0, 1) := by decide +kernel
theorem dJ9_max_7cf53_1 : decode cJ9_max_7cf53 1 = .ok (.iload_n 1, 1) := by decide +kernel
theorem dJ9_max_7cf53_2 : decode cJ9_max_7cf53 2 = .ok (.if_icmp .lt 7, 3) := by decide +kernel
theorem dJ9_max_7cf53_5 : decode cJ9_max_7cf53 5 = .ok (.iload_n 0, 1) := by decide +kernel
theorem dJ9_max_7cf53_6 : decode cJ9_max_7cf53 6 = .ok (.goto 4, 3) := by decide +kernel
theorem dJ9_max_7cf53_9 : decode cJ9_max_7cf53 9 = .ok (.iload_n 1, 1) := by decide +kernel
theorem dJ9_max_7cf53_10 : decode cJ9_max_7cf53 10 = .ok (.ireturn, 1) := by decide +kernel
theorem dJ9_min_7cf53_0 : decode cJ9_min_7cf53 0 = .ok (.iload_n 0, 1) := by decide +kernel
theorem dJ9_min_7cf53_1 : decode cJ9_min_7cf53 1 = .ok (.iload_n 1, 1) := by decide +kernel
theorem dJ9_min_7cf53_2 : decode cJ9_min_7cf53 2 = .ok (.if_icmp .gt 7, 3) := by decide +kernel
theorem dJ9_min_7cf53_5 : decode cJ9_min_7cf53 5 = .ok (.iload_n 0, 1) := by decide +kernel
theorem dJ9_min_7cf53_6 : decode cJ9_min_7cf53 6 = .ok (.goto 4, 3) := by decide +kernel
theorem dJ9_min_7cf53_9 : decode cJ9_min_7cf53 9 = .ok (.iload_n 1, 1) := by decide +kernel
theorem dJ9_min_7cf53_10 : decode cJ9_min_7cf53 10 = .ok (.ireturn, 1) := by decide +kernel
theorem dJ0_length_8abf5_0 : decode cJ0_length_8abf5 0 = .ok (.aload_n 0, 1) := by decide +kernel
theorem dJ0_length_8abf5_1 : decode cJ0_length_8abf5 1 = .ok (.getfield 9, 3) := by decide +kernel
theorem dJ0_length_8abf5_4 : decode cJ0_length_8abf5 4 = .ok (.arraylength, 1) := by decide +kernel
theorem dJ0_length_8abf5_5 : decode cJ0_length_8abf5 5 = .ok (.aload_n 0, 1) := by decide +kernel
theorem dJ0_length_8abf5_6 : decode cJ0_length_8abf5 6 = .ok (.invokevirtual 335, 3) := by decide +kernel
theorem dJ0_length_8abf5_9 : decode cJ0_length_8abf5 9 = .ok (.ishr, 1) := by decide +kernel
theorem dJ0_length_8abf5_10 : decode cJ0_length_8abf5 10 = .ok (.ireturn, 1) := by decide +kernel
theorem dJ0_charAt_5068e_0 : decode cJ0_charAt_5068e 0 = .ok (.aload_n 0, 1) := by decide +kernel
theorem dJ0_charAt_5068e_1 : decode cJ0_charAt_5068e 1 = .ok (.invokevirtual 492, 3) := by decide +kernel
theorem dJ0_charAt_5068e_4 : decode cJ0_charAt_5068e 4 = .ok (.ifCond .eq 12, 3) := by decide +kernel
theorem dJ0_charAt_5068e_7 : decode cJ0_charAt_5068e 7 = .ok (.aload_n 0, 1) := by decide +kernel
theorem dJ0_charAt_5068e_8 : decode cJ0_charAt_5068e 8 = .ok (.getfield 9, 3) := by decide +kernel
theorem dJ0_charAt_5068e_11 : decode cJ0_charAt_5068e 11 = .ok (.iload_n 1, 1) := by decide +kernel
theorem dJ0_charAt_5068e_12 : decode cJ0_charAt_5068e 12 = .ok (.invokestatic 495, 3) := by decide +kernel
theorem dJ0_charAt_5068e_15 : decode cJ0_charAt_5068e 15 = .ok (.ireturn, 1) := by decide +kernel
theorem dJ0_charAt_5068e_16 : decode cJ0_charAt_5068e 16 = .ok (.aload_n 0, 1) := by decide +kernel
theorem dJ0_charAt_5068e_17 : decode cJ0_charAt_5068e 17 = .ok (.getfield 9, 3) := by decide +kernel
theorem dJ0_charAt_5068e_20 : decode cJ0_charAt_5068e 20 = .ok (.iload_n 1, 1) := by decide +kernel
theorem dJ0_charAt_5068e_21 : decode cJ0_charAt_5068e 21 = .ok (.invokestatic 498, 3) := by decide +kernel
theorem dJ0_charAt_5068e_24 : decode cJ0_charAt_5068e 24 = .ok (.ireturn, 1) := by decide +kernel
theorem dJ0_coder_7d493_0 : decode cJ0_coder_7d493 0 = .ok (.getstatic 38, 3) := by decide +kernel
theorem dJ0_coder_7d493_3 : decode cJ0_coder_7d493 3 = .ok (.ifCond .eq 10, 3) := by decide +kernel
theorem dJ0_coder_7d493_6 : decode cJ0_coder_7d493 6 = .ok (.aload_n 0, 1) := by decide +kernel
theorem dJ0_coder_7d493_7 : decode cJ0_coder_7d493 7 = .ok (.getfield 15, 3) := by decide +kernel
theorem dJ0_coder_7d493_10 : decode cJ0_coder_7d493 10 = .ok (.goto 4, 3) := by decide +kernel
theorem dJ0_coder_7d493_13 : decode cJ0_coder_7d493 13 = .ok (.iconst 1, 1) := by decide +kernel
theorem dJ0_coder_7d493_14 : decode cJ0_coder_7d493 14 = .ok (.ireturn, 1) := by decide +kernel
theorem dJ0_isLatin1_aae02_0 : decode cJ0_isLatin1_aae02 0 = .ok (.getstatic 38, 3) := by decide +kernel
theorem dJ0_isLatin1_aae02_3 : decode cJ0_isLatin1_aae02 3 = .ok (.ifCond .eq 14, 3) := by decide +kernel
theorem dJ0_isLatin1_aae02_6 : decode cJ0_isLatin1_aae02 6 = .ok (.aload_n 0, 1) := by decide +kernel
theorem dJ0_isLatin1_aae02_7 : decode cJ0_isLatin1_aae02 7 = .ok (.getfield 15, 3) := by decide +kernel
theorem dJ0_isLatin1_aae02_10 : decode cJ0_isLatin1_aae02 10 = .ok (.ifCond .ne 7, 3) := by decide +kernel
theorem dJ0_isLatin1_aae02_13 : decode cJ0_isLatin1_aae02 13 = .ok (.iconst 1, 1) := by decide +kernel
theorem dJ0_isLatin1_aae02_14 : decode cJ0_isLatin1_aae02 14 = .ok (.goto 4, 3) := by decide +kernel
theorem dJ0_isLatin1_aae02_17 : decode cJ0_isLatin1_aae02 17 = .ok (.iconst 0, 1) := by decide +kernel
theorem dJ0_isLatin1_aae02_18 : decode cJ0_isLatin1_aae02 18 = .ok (.ireturn, 1) := by decide +kernel
theorem dJ0_checkIndex_df160_0 : decode cJ0_checkIndex_df160 0 = .ok (.iload_n 0, 1) := by decide +kernel
theorem dJ0_checkIndex_df160_1 : decode cJ0_checkIndex_df160 1 = .ok (.iload_n 1, 1) := by decide +kernel
theorem dJ0_checkIndex_df160_2 : decode cJ0_checkIndex_df160 2 = .ok (.getstatic 1053, 3) := by decide +kernel
theorem dJ0_checkIndex_df160_5 : decode cJ0_checkIndex_df160 5 = .ok (.invokestatic 1059, 3) := by decide +kernel
theorem dJ0_checkIndex_df160_8 : decode cJ0_checkIndex_df160 8 = .ok (.pop, 1) := by decide +kernel
theorem dJ0_checkIndex_df160_9 : decode cJ0_checkIndex_df160 9 = .ok (.return_, 1) := by decide +kernel
theorem dJ1_charAt_3b067_0 : decode cJ1_charAt_3b067 0 = .ok (.iload_n 1, 1) := by decide +kernel
theorem dJ1_charAt_3b067_1 : decode cJ1_charAt_3b067 1 = .ok (.aload_n 0, 1) := by decide +kernel
theorem dJ1_charAt_3b067_2 : decode cJ1_charAt_3b067 2 = .ok (.arraylength, 1) := by decide +kernel
theorem dJ1_charAt_3b067_3 : decode cJ1_charAt_3b067 3 = .ok (.invokestatic 9, 3) := by decide +kernel
theorem dJ1_charAt_3b067_6 : decode cJ1_charAt_3b067 6 = .ok (.aload_n 0, 1) := by decide +kernel
theorem dJ1_charAt_3b067_7 : decode cJ1_charAt_3b067 7 = .ok (.iload_n 1, 1) := by decide +kernel
theorem dJ1_charAt_3b067_8 : decode cJ1_charAt_3b067 8 = .ok (.baload, 1) := by decide +kernel
theorem dJ1_charAt_3b067_9 : decode cJ1_charAt_3b067 9 = .ok (.sipush 255, 3) := by decide +kernel
theorem dJ1_charAt_3b067_12 : decode cJ1_charAt_3b067 12 = .ok (.iand, 1) := by decide +kernel
theorem dJ1_charAt_3b067_13 : decode cJ1_charAt_3b067 13 = .ok (.i2c, 1) := by decide +kernel
theorem dJ1_charAt_3b067_14 : decode cJ1_charAt_3b067 14 = .ok (.ireturn, 1) := by decide +kernel
theorem dJ2_getChar_3b067_0 : decode cJ2_getChar_3b067 0 = .ok (.getstatic 44, 3) := by decide +kernel
theorem dJ2_getChar_3b067_3 : decode cJ2_getChar_3b067 3 = .ok (.ifCond .ne 25, 3) := by decide +kernel
theorem dJ2_getChar_3b067_6 : decode cJ2_getChar_3b067 6 = .ok (.iload_n 1, 1) := by decide +kernel
theorem dJ2_getChar_3b067_7 : decode cJ2_getChar_3b067 7 = .ok (.ifCond .lt 11, 3) := by decide +kernel
theorem dJ2_getChar_3b067_10 : decode cJ2_getChar_3b067 10 = .ok (.iload_n 1, 1) := by decide +kernel
theorem dJ2_getChar_3b067_11 : decode cJ2_getChar_3b067 11 = .ok (.aload_n 0, 1) := by decide +kernel
theorem dJ2_getChar_3b067_12 : decode cJ2_getChar_3b067 12 = .ok (.invokestatic 48, 3) := by decide +kernel
theorem dJ2_getChar_3b067_15 : decode cJ2_getChar_3b067 15 = .ok (.if_icmp .lt 13, 3) := by decide +kernel
theorem dJ2_getChar_3b067_18 : decode cJ2_getChar_3b067 18 = .ok (.new 52, 3) := by decide +kernel
theorem dJ2_getChar_3b067_21 : decode cJ2_getChar_3b067 21 = .ok (.dup, 1) := by decide +kernel
theorem dJ2_getChar_3b067_22 : decode cJ2_getChar_3b067 22 = .ok (.ldc 54, 2) := by decide +kernel
theorem dJ2_getChar_3b067_24 : decode cJ2_getChar_3b067 24 = .ok (.invokespecial 56, 3) := by decide +kernel
theorem dJ2_getChar_3b067_27 : decode cJ2_getChar_3b067 27 = .ok (.athrow, 1) := by decide +kernel
theorem dJ2_getChar_3b067_28 : decode cJ2_getChar_3b067 28 = .ok (.iload_n 1, 1) := by decide +kernel
theorem dJ2_getChar_3b067_29 : decode cJ2_getChar_3b067 29 = .ok (.iconst 1, 1) := by decide +kernel
theorem dJ2_getChar_3b067_30 : decode cJ2_getChar_3b067 30 = .ok (.ishl, 1) := by decide +kernel
theorem dJ2_getChar_3b067_31 : decode cJ2_getChar_3b067 31 = .ok (.istore_n 1, 1) := by decide +kernel
theorem dJ2_getChar_3b067_32 : decode cJ2_getChar_3b067 32 = .ok (.aload_n 0, 1) := by decide +kernel
theorem dJ2_getChar_3b067_33 : decode cJ2_getChar_3b067 33 = .ok (.iload_n 1, 1) := by decide +kernel
theorem dJ2_getChar_3b067_34 : decode cJ2_getChar_3b067 34 = .ok (.iinc 1 1, 3) := by decide +kernel
theorem dJ2_getChar_3b067_37 : decode cJ2_getChar_3b067 37 = .ok (.baload, 1) := by decide +kernel
theorem dJ2_getChar_3b067_38 : decode cJ2_getChar_3b067 38 = .ok (.sipush 255, 3) := by decide +kernel
theorem dJ2_getChar_3b067_41 : decode cJ2_getChar_3b067 41 = .ok (.iand, 1) := by decide +kernel
theorem dJ2_getChar_3b067_42 : decode cJ2_getChar_3b067 42 = .ok (.getstatic 59, 3) := by decide +kernel
theorem dJ2_getChar_3b067_45 : decode cJ2_getChar_3b067 45 = .ok (.ishl, 1) := by decide +kernel
theorem dJ2_getChar_3b067_46 : decode cJ2_getChar_3b067 46 = .ok (.aload_n 0, 1) := by decide +kernel
theorem dJ2_getChar_3b067_47 : decode cJ2_getChar_3b067 47 = .ok (.iload_n 1, 1) := by decide +kernel
theorem dJ2_getChar_3b067_48 : decode cJ2_getChar_3b067 48 = .ok (.baload, 1) := by decide +kernel
theorem dJ2_getChar_3b067_49 : decode cJ2_getChar_3b067 49 = .ok (.sipush 255, 3) := by decide +kernel
theorem dJ2_getChar_3b067_52 : decode cJ2_getChar_3b067 52 = .ok (.iand, 1) := by decide +kernel
theorem dJ2_getChar_3b067_53 : decode cJ2_getChar_3b067 53 = .ok (.getstatic 63, 3) := by decide +kernel
theorem dJ2_getChar_3b067_56 : decode cJ2_getChar_3b067 56 = .ok (.ishl, 1) := by decide +kernel
theorem dJ2_getChar_3b067_57 : decode cJ2_getChar_3b067 57 = .ok (.ior, 1) := by decide +kernel
theorem dJ2_getChar_3b067_58 : decode cJ2_getChar_3b067 58 = .ok (.i2c, 1) := by decide +kernel
theorem dJ2_getChar_3b067_59 : decode cJ2_getChar_3b067 59 = .ok (.ireturn, 1) := by decide +kernel
theorem dJ2_length_9d52b_0 : decode cJ2_length_9d52b 0 = .ok (.aload_n 0, 1) := by decide +kernel
theorem dJ2_length_9d52b_1 : decode cJ2_length_9d52b 1 = .ok (.arraylength, 1) := by decide +kernel
theorem dJ2_length_9d52b_2 : decode cJ2_length_9d52b 2 = .ok (.iconst 1, 1) := by decide +kernel
theorem dJ2_length_9d52b_3 : decode cJ2_length_9d52b 3 = .ok (.ishr, 1) := by decide +kernel
theorem dJ2_length_9d52b_4 : decode cJ2_length_9d52b 4 = .ok (.ireturn, 1) := by decide +kernel
theorem dJ2_charAt_3b067_0 : decode cJ2_charAt_3b067 0 = .ok (.iload_n 1, 1) := by decide +kernel
theorem dJ2_charAt_3b067_1 : decode cJ2_charAt_3b067 1 = .ok (.aload_n 0, 1) := by decide +kernel
theorem dJ2_charAt_3b067_2 : decode cJ2_charAt_3b067 2 = .ok (.invokestatic 67, 3) := by decide +kernel
theorem dJ2_charAt_3b067_5 : decode cJ2_charAt_3b067 5 = .ok (.aload_n 0, 1) := by decide +kernel
theorem dJ2_charAt_3b067_6 : decode cJ2_charAt_3b067 6 = .ok (.iload_n 1, 1) := by decide +kernel
theorem dJ2_charAt_3b067_7 : decode cJ2_charAt_3b067 7 = .ok (.invokestatic 71, 3) := by decide +kernel
theorem dJ2_charAt_3b067_10 : decode cJ2_charAt_3b067 10 = .ok (.ireturn, 1) := by decide +kernel
theorem dJ2_checkIndex_2214a_0 : decode cJ2_checkIndex_2214a 0 = .ok (.iload_n 0, 1) := by decide +kernel
theorem dJ2_checkIndex_2214a_1 : decode cJ2_checkIndex_2214a 1 = .ok (.aload_n 1, 1) := by decide +kernel
theorem dJ2_checkIndex_2214a_2 : decode cJ2_checkIndex_2214a 2 = .ok (.invokestatic 48, 3) := by decide +kernel
theorem dJ2_checkIndex_2214a_5 : decode cJ2_checkIndex_2214a 5 = .ok (.invokestatic 414, 3) := by decide +kernel
theorem dJ2_checkIndex_2214a_8 : decode cJ2_checkIndex_2214a 8 = .ok (.return_, 1) := by decide +kernel
theorem dJ3_checkIndex_8e157_0 : decode cJ3_checkIndex_8e157 0 = .ok (.iload_n 0, 1) := by decide +kernel
theorem dJ3_checkIndex_8e157_1 : decode cJ3_checkIndex_8e157 1 = .ok (.ifCond .lt 8, 3) := by decide +kernel
theorem dJ3_checkIndex_8e157_4 : decode cJ3_checkIndex_8e157 4 = .ok (.iload_n 0, 1) := by decide +kernel
theorem dJ3_checkIndex_8e157_5 : decode cJ3_checkIndex_8e157 5 = .ok (.iload_n 1, 1) := by decide +kernel
theorem dJ3_checkIndex_8e157_6 : decode cJ3_checkIndex_8e157 6 = .ok (.if_icmp .lt 10, 3) := by decide +kernel
theorem dJ3_checkIndex_8e157_9 : decode cJ3_checkIndex_8e157 9 = .ok (.aload_n 2, 1) := by decide +kernel
theorem dJ3_checkIndex_8e157_10 : decode cJ3_checkIndex_8e157 10 = .ok (.iload_n 0, 1) := by decide +kernel
theorem dJ3_checkIndex_8e157_11 : decode cJ3_checkIndex_8e157 11 = .ok (.iload_n 1, 1) := by decide +kernel
theorem dJ3_checkIndex_8e157_12 : decode cJ3_checkIndex_8e157 12 = .ok (.invokestatic 95, 3) := by decide +kernel
theorem dJ3_checkIndex_8e157_15 : decode cJ3_checkIndex_8e157 15 = .ok (.athrow, 1) := by decide +kernel
theorem dJ3_checkIndex_8e157_16 : decode cJ3_checkIndex_8e157 16 = .ok (.iload_n 0, 1) := by decide +kernel
theorem dJ3_checkIndex_8e157_17 : decode cJ3_checkIndex_8e157 17 = .ok (.ireturn, 1) := by decide +kernel
theorem dL_append_0 : decode cL_append 0 = .ok (.aload 6, 2) := by decide +kernel
theorem dL_append_2 : decode cL_append 2 = .ok (.iconst 0, 1) := by decide +kernel
theorem dL_append_3 : decode cL_append 3 = .ok (.aload_n 0, 1) := by decide +kernel
theorem dL_append_4 : decode cL_append 4 = .ok (.iload_n 1, 1) := by decide +kernel
theorem dL_append_5 : decode cL_append 5 = .ok (.iload_n 2, 1) := by decide +kernel
theorem dL_append_6 : decode cL_append 6 = .ok (.iload_n 3, 1) := by decide +kernel
theorem dL_append_7 : decode cL_append 7 = .ok (.iload 4, 2) := by decide +kernel
theorem dL_append_9 : decode cL_append 9 = .ok (.iload 5, 2) := by decide +kernel
theorem dL_append_11 : decode cL_append 11 = .ok (.invokevirtual 7, 3) := by decide +kernel
theorem dL_append_14 : decode cL_append 14 = .ok (.i2l, 1) := by decide +kernel
theorem dL_append_15 : decode cL_append 15 = .ok (.lastore, 1) := by decide +kernel
theorem dL_append_16 : decode cL_append 16 = .ok (.goto 7, 3) := by decide +kernel
theorem dL_append_19 : decode cL_append 19 = .ok (.astore 7, 2) := by decide +kernel
theorem dL_append_21 : decode cL_append 21 = .ok (.iconst 1, 1) := by decide +kernel
theorem dL_append_22 : decode cL_append 22 = .ok (.ireturn, 1) := by decide +kernel
theorem dL_append_23 : decode cL_append 23 = .ok (.iconst 0, 1) := by decide +kernel
theorem dL_append_24 : decode cL_append 24 = .ok (.ireturn, 1) := by decide +kernel
theorem dL_truncate_0 : decode cL_truncate 0 = .ok (.aload_n 0, 1) := by decide +kernel
theorem dL_truncate_1 : decode cL_truncate 1 = .ok (.iload_n 1, 1) := by decide +kernel
theorem dL_truncate_2 : decode cL_truncate 2 = .ok (.invokevirtual 15, 3) := by decide +kernel
theorem dL_truncate_5 : decode cL_truncate 5 = .ok (.goto 6, 3) := by decide +kernel
theorem dL_truncate_8 : decode cL_truncate 8 = .ok (.astore_n 2, 1) := by decide +kernel
theorem dL_truncate_9 : decode cL_truncate 9 = .ok (.iconst 1, 1) := by decide +kernel
theorem dL_truncate_10 : decode cL_truncate 10 = .ok (.ireturn, 1) := by decide +kernel
theorem dL_truncate_11 : decode cL_truncate 11 = .ok (.iconst 0, 1) := by decide +kernel
theorem dL_truncate_12 : decode cL_truncate 12 = .ok (.ireturn, 1) := by decide +kernel
theorem dL_load_0 : decode cL_load 0 = .ok (.aload_n 1, 1) := by decide +kernel
theorem dL_load_1 : decode cL_load 1 = .ok (.iconst 0, 1) := by decide +kernel
theorem dL_load_2 : decode cL_load 2 = .ok (.aload_n 0, 1) := by decide +kernel
theorem dL_load_3 : decode cL_load 3 = .ok (.invokevirtual 21, 3) := by decide +kernel
theorem dL_load_6 : decode cL_load 6 = .ok (.i2l, 1) := by decide +kernel
theorem dL_load_7 : decode cL_load 7 = .ok (.lastore, 1) := by decide +kernel
theorem dL_load_8 : decode cL_load 8 = .ok (.goto 6, 3) := by decide +kernel
theorem dL_load_11 : decode cL_load 11 = .ok (.astore_n 2, 1) := by decide +kernel
theorem dL_load_12 : decode cL_load 12 = .ok (.iconst 1, 1) := by decide +kernel
theorem dL_load_13 : decode cL_load 13 = .ok (.ireturn, 1) := by decide +kernel
theorem dL_load_14 : decode cL_load 14 = .ok (.iconst 0, 1) := by decide +kernel
theorem dL_load_15 : decode cL_load 15 = .ok (.ireturn, 1) := by decide +kernel
theorem dL_count_0 : decode cL_count 0 = .ok (.aload_n 2, 1) := by decide +kernel
theorem dL_count_1 : decode cL_count 1 = .ok (.iconst 0, 1) := by decide +kernel
theorem dL_count_2 : decode cL_count 2 = .ok (.aload_n 0, 1) := by decide +kernel
theorem dL_count_3 : decode cL_count 3 = .ok (.iload_n 1, 1) := by decide +kernel
theorem dL_count_4 : decode cL_count 4 = .ok (.invokevirtual 25, 3) := by decide +kernel
theorem dL_count_7 : decode cL_count 7 = .ok (.i2l, 1) := by decide +kernel
theorem dL_count_8 : decode cL_count 8 = .ok (.lastore, 1) := by decide +kernel
theorem dL_count_9 : decode cL_count 9 = .ok (.goto 6, 3) := by decide +kernel
theorem dL_count_12 : decode cL_count 12 = .ok (.astore_n 3, 1) := by decide +kernel
theorem dL_count_13 : decode cL_count 13 = .ok (.iconst 1, 1) := by decide +kernel
theorem dL_count_14 : decode cL_count 14 = .ok (.ireturn, 1) := by decide +kernel
theorem dL_count_15 : decode cL_count 15 = .ok (.iconst 0, 1) := by decide +kernel
theorem dL_count_16 : decode cL_count 16 = .ok (.ireturn, 1) := by decide +kernel
theorem dL_setting_0 : decode cL_setting 0 = .ok (.aload_n 2, 1) := by decide +kernel
theorem dL_setting_1 : decode cL_setting 1 = .ok (.iconst 0, 1) := by decide +kernel
theorem dL_setting_2 : decode cL_setting 2 = .ok (.aload_n 0, 1) := by decide +kernel
theorem dL_setting_3 : decode cL_setting 3 = .ok (.iload_n 1, 1) := by decide +kernel
theorem dL_setting_4 : decode cL_setting 4 = .ok (.invokevirtual 29, 3) := by decide +kernel
theorem dL_setting_7 : decode cL_setting 7 = .ok (.i2l, 1) := by decide +kernel
theorem dL_setting_8 : decode cL_setting 8 = .ok (.lastore, 1) := by decide +kernel
theorem dL_setting_9 : decode cL_setting 9 = .ok (.goto 6, 3) := by decide +kernel
theorem dL_setting_12 : decode cL_setting 12 = .ok (.astore_n 3, 1) := by decide +kernel
theorem dL_setting_13 : decode cL_setting 13 = .ok (.iconst 1, 1) := by decide +kernel
theorem dL_setting_14 : decode cL_setting 14 = .ok (.ireturn, 1) := by decide +kernel
theorem dL_setting_15 : decode cL_setting 15 = .ok (.iconst 0, 1) := by decide +kernel
theorem dL_setting_16 : decode cL_setting 16 = .ok (.ireturn, 1) := by decide +kernel
theorem dL_room_0 : decode cL_room 0 = .ok (.aload_n 3, 1) := by decide +kernel
theorem dL_room_1 : decode cL_room 1 = .ok (.iconst 0, 1) := by decide +kernel
theorem dL_room_2 : decode cL_room 2 = .ok (.aload_n 0, 1) := by decide +kernel
theorem dL_room_3 : decode cL_room 3 = .ok (.iload_n 1, 1) := by decide +kernel
theorem dL_room_4 : decode cL_room 4 = .ok (.iload_n 2, 1) := by decide +kernel
theorem dL_room_5 : decode cL_room 5 = .ok (.invokevirtual 32, 3) := by decide +kernel
theorem dL_room_8 : decode cL_room 8 = .ok (.i2l, 1) := by decide +kernel
theorem dL_room_9 : decode cL_room 9 = .ok (.lastore, 1) := by decide +kernel
theorem dL_room_10 : decode cL_room 10 = .ok (.goto 11, 3) := by decide +kernel
theorem dL_room_13 : decode cL_room 13 = .ok (.astore 4, 2) := by decide +kernel
theorem dL_room_15 : decode cL_room 15 = .ok (.iconst 1, 1) := by decide +kernel
theorem dL_room_16 : decode cL_room 16 = .ok (.ireturn, 1) := by decide +kernel
theorem dL_room_17 : decode cL_room 17 = .ok (.astore 4, 2) := by decide +kernel
theorem dL_room_19 : decode cL_room 19 = .ok (.iconst 2, 1) := by decide +kernel
theorem dL_room_20 : decode cL_room 20 = .ok (.ireturn, 1) := by decide +kernel
theorem dL_room_21 : decode cL_room 21 = .ok (.iconst 0, 1) := by decide +kernel
theorem dL_room_22 : decode cL_room 22 = .ok (.ireturn, 1) := by decide +kernel
theorem dL_booking_0 : decode cL_booking 0 = .ok (.aload_n 3, 1) := by decide +kernel
theorem dL_booking_1 : decode cL_booking 1 = .ok (.iconst 0, 1) := by decide +kernel
theorem dL_booking_2 : decode cL_booking 2 = .ok (.aload_n 0, 1) := by decide +kernel
theorem dL_booking_3 : decode cL_booking 3 = .ok (.iload_n 1, 1) := by decide +kernel
theorem dL_booking_4 : decode cL_booking 4 = .ok (.iload_n 2, 1) := by decide +kernel
theorem dL_booking_5 : decode cL_booking 5 = .ok (.invokevirtual 38, 3) := by decide +kernel
theorem dL_booking_8 : decode cL_booking 8 = .ok (.i2l, 1) := by decide +kernel
theorem dL_booking_9 : decode cL_booking 9 = .ok (.lastore, 1) := by decide +kernel
theorem dL_booking_10 : decode cL_booking 10 = .ok (.goto 11, 3) := by decide +kernel
theorem dL_booking_13 : decode cL_booking 13 = .ok (.astore 4, 2) := by decide +kernel
theorem dL_booking_15 : decode cL_booking 15 = .ok (.iconst 1, 1) := by decide +kernel
theorem dL_booking_16 : decode cL_booking 16 = .ok (.ireturn, 1) := by decide +kernel
theorem dL_booking_17 : decode cL_booking 17 = .ok (.astore 4, 2) := by decide +kernel
theorem dL_booking_19 : decode cL_booking 19 = .ok (.iconst 2, 1) := by decide +kernel
theorem dL_booking_20 : decode cL_booking 20 = .ok (.ireturn, 1) := by decide +kernel
theorem dL_booking_21 : decode cL_booking 21 = .ok (.iconst 0, 1) := by decide +kernel
theorem dL_booking_22 : decode cL_booking 22 = .ok (.ireturn, 1) := by decide +kernel
theorem dL_find_0 : decode cL_find 0 = .ok (.aload_n 2, 1) := by decide +kernel
theorem dL_find_1 : decode cL_find 1 = .ok (.iconst 0, 1) := by decide +kernel
theorem dL_find_2 : decode cL_find 2 = .ok (.aload_n 0, 1) := by decide +kernel
theorem dL_find_3 : decode cL_find 3 = .ok (.iload_n 1, 1) := by decide +kernel
theorem dL_find_4 : decode cL_find 4 = .ok (.invokevirtual 41, 3) := by decide +kernel
theorem dL_find_7 : decode cL_find 7 = .ok (.i2l, 1) := by decide +kernel
theorem dL_find_8 : decode cL_find 8 = .ok (.lastore, 1) := by decide +kernel
theorem dL_find_9 : decode cL_find 9 = .ok (.goto 6, 3) := by decide +kernel
theorem dL_find_12 : decode cL_find 12 = .ok (.astore_n 3, 1) := by decide +kernel
theorem dL_find_13 : decode cL_find 13 = .ok (.iconst 1, 1) := by decide +kernel
theorem dL_find_14 : decode cL_find 14 = .ok (.ireturn, 1) := by decide +kernel
theorem dL_find_15 : decode cL_find 15 = .ok (.iconst 0, 1) := by decide +kernel
theorem dL_find_16 : decode cL_find 16 = .ok (.ireturn, 1) := by decide +kernel
theorem dL_state_0 : decode cL_state 0 = .ok (.aload_n 2, 1) := by decide +kernel
theorem dL_state_1 : decode cL_state 1 = .ok (.iconst 0, 1) := by decide +kernel
theorem dL_state_2 : decode cL_state 2 = .ok (.aload_n 0, 1) := by decide +kernel
theorem dL_state_3 : decode cL_state 3 = .ok (.iload_n 1, 1) := by decide +kernel
theorem dL_state_4 : decode cL_state 4 = .ok (.invokevirtual 47, 3) := by decide +kernel
theorem dL_state_7 : decode cL_state 7 = .ok (.i2l, 1) := by decide +kernel
theorem dL_state_8 : decode cL_state 8 = .ok (.lastore, 1) := by decide +kernel
theorem dL_state_9 : decode cL_state 9 = .ok (.goto 6, 3) := by decide +kernel
theorem dL_state_12 : decode cL_state 12 = .ok (.astore_n 3, 1) := by decide +kernel
theorem dL_state_13 : decode cL_state 13 = .ok (.iconst 1, 1) := by decide +kernel
theorem dL_state_14 : decode cL_state 14 = .ok (.ireturn, 1) := by decide +kernel
theorem dL_state_15 : decode cL_state 15 = .ok (.iconst 0, 1) := by decide +kernel
theorem dL_state_16 : decode cL_state 16 = .ok (.ireturn, 1) := by decide +kernel
theorem dL_waiting_0 : decode cL_waiting 0 = .ok (.aload_n 2, 1) := by decide +kernel
theorem dL_waiting_1 : decode cL_waiting 1 = .ok (.iconst 0, 1) := by decide +kernel
theorem dL_waiting_2 : decode cL_waiting 2 = .ok (.aload_n 0, 1) := by decide +kernel
theorem dL_waiting_3 : decode cL_waiting 3 = .ok (.iload_n 1, 1) := by decide +kernel
theorem dL_waiting_4 : decode cL_waiting 4 = .ok (.invokevirtual 50, 3) := by decide +kernel
theorem dL_waiting_7 : decode cL_waiting 7 = .ok (.i2l, 1) := by decide +kernel
theorem dL_waiting_8 : decode cL_waiting 8 = .ok (.lastore, 1) := by decide +kernel
theorem dL_waiting_9 : decode cL_waiting 9 = .ok (.goto 6, 3) := by decide +kernel
theorem dL_waiting_12 : decode cL_waiting 12 = .ok (.astore_n 3, 1) := by decide +kernel
theorem dL_waiting_13 : decode cL_waiting 13 = .ok (.iconst 1, 1) := by decide +kernel
theorem dL_waiting_14 : decode cL_waiting 14 = .ok (.ireturn, 1) := by decide +kernel
theorem dL_waiting_15 : decode cL_waiting 15 = .ok (.iconst 0, 1) := by decide +kernel
theorem dL_waiting_16 : decode cL_waiting 16 = .ok (.ireturn, 1) := by decide +kernel
theorem dL_placed_0 : decode cL_placed 0 = .ok (.aload_n 2, 1) := by decide +kernel
theorem dL_placed_1 : decode cL_placed 1 = .ok (.iconst 0, 1) := by decide +kernel
theorem dL_placed_2 : decode cL_placed 2 = .ok (.aload_n 0, 1) := by decide +kernel
theorem dL_placed_3 : decode cL_placed 3 = .ok (.iload_n 1, 1) := by decide +kernel
theorem dL_placed_4 : decode cL_placed 4 = .ok (.invokevirtual 53, 3) := by decide +kernel
theorem dL_placed_7 : decode cL_placed 7 = .ok (.i2l, 1) := by decide +kernel
theorem dL_placed_8 : decode cL_placed 8 = .ok (.lastore, 1) := by decide +kernel
theorem dL_placed_9 : decode cL_placed 9 = .ok (.goto 6, 3) := by decide +kernel
theorem dL_placed_12 : decode cL_placed 12 = .ok (.astore_n 3, 1) := by decide +kernel
theorem dL_placed_13 : decode cL_placed 13 = .ok (.iconst 1, 1) := by decide +kernel
theorem dL_placed_14 : decode cL_placed 14 = .ok (.ireturn, 1) := by decide +kernel
theorem dL_placed_15 : decode cL_placed 15 = .ok (.iconst 0, 1) := by decide +kernel
theorem dL_placed_16 : decode cL_placed 16 = .ok (.ireturn, 1) := by decide +kernel
theorem dL_roomsOf_0 : decode cL_roomsOf 0 = .ok (.aload_n 2, 1) := by decide +kernel
theorem dL_roomsOf_1 : decode cL_roomsOf 1 = .ok (.iconst 0, 1) := by decide +kernel
theorem dL_roomsOf_2 : decode cL_roomsOf 2 = .ok (.aload_n 0, 1) := by decide +kernel
theorem dL_roomsOf_3 : decode cL_roomsOf 3 = .ok (.iload_n 1, 1) := by decide +kernel
theorem dL_roomsOf_4 : decode cL_roomsOf 4 = .ok (.invokevirtual 56, 3) := by decide +kernel
theorem dL_roomsOf_7 : decode cL_roomsOf 7 = .ok (.i2l, 1) := by decide +kernel
theorem dL_roomsOf_8 : decode cL_roomsOf 8 = .ok (.lastore, 1) := by decide +kernel
theorem dL_roomsOf_9 : decode cL_roomsOf 9 = .ok (.goto 6, 3) := by decide +kernel
theorem dL_roomsOf_12 : decode cL_roomsOf 12 = .ok (.astore_n 3, 1) := by decide +kernel
theorem dL_roomsOf_13 : decode cL_roomsOf 13 = .ok (.iconst 1, 1) := by decide +kernel
theorem dL_roomsOf_14 : decode cL_roomsOf 14 = .ok (.ireturn, 1) := by decide +kernel
theorem dL_roomsOf_15 : decode cL_roomsOf 15 = .ok (.iconst 0, 1) := by decide +kernel
theorem dL_roomsOf_16 : decode cL_roomsOf 16 = .ok (.ireturn, 1) := by decide +kernel
theorem dL_roomOf_0 : decode cL_roomOf 0 = .ok (.aload_n 3, 1) := by decide +kernel
theorem dL_roomOf_1 : decode cL_roomOf 1 = .ok (.iconst 0, 1) := by decide +kernel
theorem dL_roomOf_2 : decode cL_roomOf 2 = .ok (.aload_n 0, 1) := by decide +kernel
theorem dL_roomOf_3 : decode cL_roomOf 3 = .ok (.iload_n 1, 1) := by decide +kernel
theorem dL_roomOf_4 : decode cL_roomOf 4 = .ok (.iload_n 2, 1) := by decide +kernel
theorem dL_roomOf_5 : decode cL_roomOf 5 = .ok (.invokevirtual 59, 3) := by decide +kernel
theorem dL_roomOf_8 : decode cL_roomOf 8 = .ok (.i2l, 1) := by decide +kernel
theorem dL_roomOf_9 : decode cL_roomOf 9 = .ok (.lastore, 1) := by decide +kernel
theorem dL_roomOf_10 : decode cL_roomOf 10 = .ok (.goto 11, 3) := by decide +kernel
theorem dL_roomOf_13 : decode cL_roomOf 13 = .ok (.astore 4, 2) := by decide +kernel
theorem dL_roomOf_15 : decode cL_roomOf 15 = .ok (.iconst 1, 1) := by decide +kernel
theorem dL_roomOf_16 : decode cL_roomOf 16 = .ok (.ireturn, 1) := by decide +kernel
theorem dL_roomOf_17 : decode cL_roomOf 17 = .ok (.astore 4, 2) := by decide +kernel
theorem dL_roomOf_19 : decode cL_roomOf 19 = .ok (.iconst 2, 1) := by decide +kernel
theorem dL_roomOf_20 : decode cL_roomOf 20 = .ok (.ireturn, 1) := by decide +kernel
theorem dL_roomOf_21 : decode cL_roomOf 21 = .ok (.iconst 0, 1) := by decide +kernel
theorem dL_roomOf_22 : decode cL_roomOf 22 = .ok (.ireturn, 1) := by decide +kernel
theorem dL_bedOf_0 : decode cL_bedOf 0 = .ok (.aload_n 3, 1) := by decide +kernel
theorem dL_bedOf_1 : decode cL_bedOf 1 = .ok (.iconst 0, 1) := by decide +kernel
theorem dL_bedOf_2 : decode cL_bedOf 2 = .ok (.aload_n 0, 1) := by decide +kernel
theorem dL_bedOf_3 : decode cL_bedOf 3 = .ok (.iload_n 1, 1) := by decide +kernel
theorem dL_bedOf_4 : decode cL_bedOf 4 = .ok (.iload_n 2, 1) := by decide +kernel
theorem dL_bedOf_5 : decode cL_bedOf 5 = .ok (.invokevirtual 62, 3) := by decide +kernel
theorem dL_bedOf_8 : decode cL_bedOf 8 = .ok (.i2l, 1) := by decide +kernel
theorem dL_bedOf_9 : decode cL_bedOf 9 = .ok (.lastore, 1) := by decide +kernel
theorem dL_bedOf_10 : decode cL_bedOf 10 = .ok (.goto 11, 3) := by decide +kernel
theorem dL_bedOf_13 : decode cL_bedOf 13 = .ok (.astore 4, 2) := by decide +kernel
theorem dL_bedOf_15 : decode cL_bedOf 15 = .ok (.iconst 1, 1) := by decide +kernel
theorem dL_bedOf_16 : decode cL_bedOf 16 = .ok (.ireturn, 1) := by decide +kernel
theorem dL_bedOf_17 : decode cL_bedOf 17 = .ok (.astore 4, 2) := by decide +kernel
theorem dL_bedOf_19 : decode cL_bedOf 19 = .ok (.iconst 2, 1) := by decide +kernel
theorem dL_bedOf_20 : decode cL_bedOf 20 = .ok (.ireturn, 1) := by decide +kernel
theorem dL_bedOf_21 : decode cL_bedOf 21 = .ok (.iconst 0, 1) := by decide +kernel
theorem dL_bedOf_22 : decode cL_bedOf 22 = .ok (.ireturn, 1) := by decide +kernel
theorem dL_occupant_0 : decode cL_occupant 0 = .ok (.aload 4, 2) := by decide +kernel
theorem dL_occupant_2 : decode cL_occupant 2 = .ok (.iconst 0, 1) := by decide +kernel
theorem dL_occupant_3 : decode cL_occupant 3 = .ok (.aload_n 0, 1) := by decide +kernel
theorem dL_occupant_4 : decode cL_occupant 4 = .ok (.iload_n 1, 1) := by decide +kernel
theorem dL_occupant_5 : decode cL_occupant 5 = .ok (.iload_n 2, 1) := by decide +kernel
theorem dL_occupant_6 : decode cL_occupant 6 = .ok (.iload_n 3, 1) := by decide +kernel
theorem dL_occupant_7 : decode cL_occupant 7 = .ok (.invokevirtual 65, 3) := by decide +kernel
theorem dL_occupant_10 : decode cL_occupant 10 = .ok (.i2l, 1) := by decide +kernel
theorem dL_occupant_11 : decode cL_occupant 11 = .ok (.lastore, 1) := by decide +kernel
theorem dL_occupant_12 : decode cL_occupant 12 = .ok (.goto 7, 3) := by decide +kernel
theorem dL_occupant_15 : decode cL_occupant 15 = .ok (.astore 5, 2) := by decide +kernel
theorem dL_occupant_17 : decode cL_occupant 17 = .ok (.iconst 1, 1) := by decide +kernel
theorem dL_occupant_18 : decode cL_occupant 18 = .ok (.ireturn, 1) := by decide +kernel
theorem dL_occupant_19 : decode cL_occupant 19 = .ok (.iconst 0, 1) := by decide +kernel
theorem dL_occupant_20 : decode cL_occupant 20 = .ok (.ireturn, 1) := by decide +kernel
theorem dL_freeBeds_0 : decode cL_freeBeds 0 = .ok (.aload_n 3, 1) := by decide +kernel
theorem dL_freeBeds_1 : decode cL_freeBeds 1 = .ok (.iconst 0, 1) := by decide +kernel
theorem dL_freeBeds_2 : decode cL_freeBeds 2 = .ok (.aload_n 0, 1) := by decide +kernel
theorem dL_freeBeds_3 : decode cL_freeBeds 3 = .ok (.iload_n 1, 1) := by decide +kernel
theorem dL_freeBeds_4 : decode cL_freeBeds 4 = .ok (.iload_n 2, 1) := by decide +kernel
theorem dL_freeBeds_5 : decode cL_freeBeds 5 = .ok (.invokevirtual 69, 3) := by decide +kernel
theorem dL_freeBeds_8 : decode cL_freeBeds 8 = .ok (.i2l, 1) := by decide +kernel
theorem dL_freeBeds_9 : decode cL_freeBeds 9 = .ok (.lastore, 1) := by decide +kernel
theorem dL_freeBeds_10 : decode cL_freeBeds 10 = .ok (.goto 7, 3) := by decide +kernel
theorem dL_freeBeds_13 : decode cL_freeBeds 13 = .ok (.astore 4, 2) := by decide +kernel
theorem dL_freeBeds_15 : decode cL_freeBeds 15 = .ok (.iconst 1, 1) := by decide +kernel
theorem dL_freeBeds_16 : decode cL_freeBeds 16 = .ok (.ireturn, 1) := by decide +kernel
theorem dL_freeBeds_17 : decode cL_freeBeds 17 = .ok (.iconst 0, 1) := by decide +kernel
theorem dL_freeBeds_18 : decode cL_freeBeds 18 = .ok (.ireturn, 1) := by decide +kernel
theorem dL_occupied_0 : decode cL_occupied 0 = .ok (.aload_n 2, 1) := by decide +kernel
theorem dL_occupied_1 : decode cL_occupied 1 = .ok (.iconst 0, 1) := by decide +kernel
theorem dL_occupied_2 : decode cL_occupied 2 = .ok (.aload_n 0, 1) := by decide +kernel
theorem dL_occupied_3 : decode cL_occupied 3 = .ok (.iload_n 1, 1) := by decide +kernel
theorem dL_occupied_4 : decode cL_occupied 4 = .ok (.invokevirtual 72, 3) := by decide +kernel
theorem dL_occupied_7 : decode cL_occupied 7 = .ok (.i2l, 1) := by decide +kernel
theorem dL_occupied_8 : decode cL_occupied 8 = .ok (.lastore, 1) := by decide +kernel
theorem dL_occupied_9 : decode cL_occupied 9 = .ok (.goto 6, 3) := by decide +kernel
theorem dL_occupied_12 : decode cL_occupied 12 = .ok (.astore_n 3, 1) := by decide +kernel
theorem dL_occupied_13 : decode cL_occupied 13 = .ok (.iconst 1, 1) := by decide +kernel
theorem dL_occupied_14 : decode cL_occupied 14 = .ok (.ireturn, 1) := by decide +kernel
theorem dL_occupied_15 : decode cL_occupied 15 = .ok (.iconst 0, 1) := by decide +kernel
theorem dL_occupied_16 : decode cL_occupied 16 = .ok (.ireturn, 1) := by decide +kernel
theorem dL_booked_0 : decode cL_booked 0 = .ok (.aload_n 2, 1) := by decide +kernel
theorem dL_booked_1 : decode cL_booked 1 = .ok (.iconst 0, 1) := by decide +kernel
theorem dL_booked_2 : decode cL_booked 2 = .ok (.aload_n 0, 1) := by decide +kernel
theorem dL_booked_3 : decode cL_booked 3 = .ok (.iload_n 1, 1) := by decide +kernel
theorem dL_booked_4 : decode cL_booked 4 = .ok (.invokevirtual 75, 3) := by decide +kernel
theorem dL_booked_7 : decode cL_booked 7 = .ok (.i2l, 1) := by decide +kernel
theorem dL_booked_8 : decode cL_booked 8 = .ok (.lastore, 1) := by decide +kernel
theorem dL_booked_9 : decode cL_booked 9 = .ok (.goto 6, 3) := by decide +kernel
theorem dL_booked_12 : decode cL_booked 12 = .ok (.astore_n 3, 1) := by decide +kernel
theorem dL_booked_13 : decode cL_booked 13 = .ok (.iconst 1, 1) := by decide +kernel
theorem dL_booked_14 : decode cL_booked 14 = .ok (.ireturn, 1) := by decide +kernel
theorem dL_booked_15 : decode cL_booked 15 = .ok (.iconst 0, 1) := by decide +kernel
theorem dL_booked_16 : decode cL_booked 16 = .ok (.ireturn, 1) := by decide +kernel
theorem dL_walked_0 : decode cL_walked 0 = .ok (.aload_n 2, 1) := by decide +kernel
theorem dL_walked_1 : decode cL_walked 1 = .ok (.iconst 0, 1) := by decide +kernel
theorem dL_walked_2 : decode cL_walked 2 = .ok (.aload_n 0, 1) := by decide +kernel
theorem dL_walked_3 : decode cL_walked 3 = .ok (.iload_n 1, 1) := by decide +kernel
theorem dL_walked_4 : decode cL_walked 4 = .ok (.invokevirtual 78, 3) := by decide +kernel
theorem dL_walked_7 : decode cL_walked 7 = .ok (.i2l, 1) := by decide +kernel
theorem dL_walked_8 : decode cL_walked 8 = .ok (.lastore, 1) := by decide +kernel
theorem dL_walked_9 : decode cL_walked 9 = .ok (.goto 6, 3) := by decide +kernel
theorem dL_walked_12 : decode cL_walked 12 = .ok (.astore_n 3, 1) := by decide +kernel
theorem dL_walked_13 : decode cL_walked 13 = .ok (.iconst 1, 1) := by decide +kernel
theorem dL_walked_14 : decode cL_walked 14 = .ok (.ireturn, 1) := by decide +kernel
theorem dL_walked_15 : decode cL_walked 15 = .ok (.iconst 0, 1) := by decide +kernel
theorem dL_walked_16 : decode cL_walked 16 = .ok (.ireturn, 1) := by decide +kernel
theorem dL_longestFree_0 : decode cL_longestFree 0 = .ok (.aload_n 3, 1) := by decide +kernel
theorem dL_longestFree_1 : decode cL_longestFree 1 = .ok (.iconst 0, 1) := by decide +kernel
theorem dL_longestFree_2 : decode cL_longestFree 2 = .ok (.aload_n 0, 1) := by decide +kernel
theorem dL_longestFree_3 : decode cL_longestFree 3 = .ok (.iload_n 1, 1) := by decide +kernel
theorem dL_longestFree_4 : decode cL_longestFree 4 = .ok (.iload_n 2, 1) := by decide +kernel
theorem dL_longestFree_5 : decode cL_longestFree 5 = .ok (.invokevirtual 81, 3) := by decide +kernel
theorem dL_longestFree_8 : decode cL_longestFree 8 = .ok (.i2l, 1) := by decide +kernel
theorem dL_longestFree_9 : decode cL_longestFree 9 = .ok (.lastore, 1) := by decide +kernel
theorem dL_longestFree_10 : decode cL_longestFree 10 = .ok (.goto 7, 3) := by decide +kernel
theorem dL_longestFree_13 : decode cL_longestFree 13 = .ok (.astore 4, 2) := by decide +kernel
theorem dL_longestFree_15 : decode cL_longestFree 15 = .ok (.iconst 1, 1) := by decide +kernel
theorem dL_longestFree_16 : decode cL_longestFree 16 = .ok (.ireturn, 1) := by decide +kernel
theorem dL_longestFree_17 : decode cL_longestFree 17 = .ok (.iconst 0, 1) := by decide +kernel
theorem dL_longestFree_18 : decode cL_longestFree 18 = .ok (.ireturn, 1) := by decide +kernel
theorem dL_extendable_0 : decode cL_extendable 0 = .ok (.aload_n 2, 1) := by decide +kernel
theorem dL_extendable_1 : decode cL_extendable 1 = .ok (.iconst 0, 1) := by decide +kernel
theorem dL_extendable_2 : decode cL_extendable 2 = .ok (.aload_n 0, 1) := by decide +kernel
theorem dL_extendable_3 : decode cL_extendable 3 = .ok (.iload_n 1, 1) := by decide +kernel
theorem dL_extendable_4 : decode cL_extendable 4 = .ok (.invokevirtual 84, 3) := by decide +kernel
theorem dL_extendable_7 : decode cL_extendable 7 = .ok (.i2l, 1) := by decide +kernel
theorem dL_extendable_8 : decode cL_extendable 8 = .ok (.lastore, 1) := by decide +kernel
theorem dL_extendable_9 : decode cL_extendable 9 = .ok (.goto 6, 3) := by decide +kernel
theorem dL_extendable_12 : decode cL_extendable 12 = .ok (.astore_n 3, 1) := by decide +kernel
theorem dL_extendable_13 : decode cL_extendable 13 = .ok (.iconst 1, 1) := by decide +kernel
theorem dL_extendable_14 : decode cL_extendable 14 = .ok (.ireturn, 1) := by decide +kernel
theorem dL_extendable_15 : decode cL_extendable 15 = .ok (.iconst 0, 1) := by decide +kernel
theorem dL_extendable_16 : decode cL_extendable 16 = .ok (.ireturn, 1) := by decide +kernel
theorem dL_pays_0 : decode cL_pays 0 = .ok (.aload_n 2, 1) := by decide +kernel
theorem dL_pays_1 : decode cL_pays 1 = .ok (.iconst 0, 1) := by decide +kernel
theorem dL_pays_2 : decode cL_pays 2 = .ok (.aload_n 0, 1) := by decide +kernel
theorem dL_pays_3 : decode cL_pays 3 = .ok (.iload_n 1, 1) := by decide +kernel
theorem dL_pays_4 : decode cL_pays 4 = .ok (.invokevirtual 87, 3) := by decide +kernel
theorem dL_pays_7 : decode cL_pays 7 = .ok (.i2l, 1) := by decide +kernel
theorem dL_pays_8 : decode cL_pays 8 = .ok (.lastore, 1) := by decide +kernel
theorem dL_pays_9 : decode cL_pays 9 = .ok (.goto 6, 3) := by decide +kernel
theorem dL_pays_12 : decode cL_pays 12 = .ok (.astore_n 3, 1) := by decide +kernel
theorem dL_pays_13 : decode cL_pays 13 = .ok (.iconst 1, 1) := by decide +kernel
theorem dL_pays_14 : decode cL_pays 14 = .ok (.ireturn, 1) := by decide +kernel
theorem dL_pays_15 : decode cL_pays 15 = .ok (.iconst 0, 1) := by decide +kernel
theorem dL_pays_16 : decode cL_pays 16 = .ok (.ireturn, 1) := by decide +kernel
theorem dL_chance_0 : decode cL_chance 0 = .ok (.aload_n 3, 1) := by decide +kernel
theorem dL_chance_1 : decode cL_chance 1 = .ok (.iconst 0, 1) := by decide +kernel
theorem dL_chance_2 : decode cL_chance 2 = .ok (.aload_n 0, 1) := by decide +kernel
theorem dL_chance_3 : decode cL_chance 3 = .ok (.iload_n 1, 1) := by decide +kernel
theorem dL_chance_4 : decode cL_chance 4 = .ok (.iload_n 2, 1) := by decide +kernel
theorem dL_chance_5 : decode cL_chance 5 = .ok (.invokevirtual 90, 3) := by decide +kernel
theorem dL_chance_8 : decode cL_chance 8 = .ok (.dastore, 1) := by decide +kernel
theorem dL_chance_9 : decode cL_chance 9 = .ok (.goto 7, 3) := by decide +kernel
theorem dL_chance_12 : decode cL_chance 12 = .ok (.astore 4, 2) := by decide +kernel
theorem dL_chance_14 : decode cL_chance 14 = .ok (.iconst 1, 1) := by decide +kernel
theorem dL_chance_15 : decode cL_chance 15 = .ok (.ireturn, 1) := by decide +kernel
theorem dL_chance_16 : decode cL_chance 16 = .ok (.iconst 0, 1) := by decide +kernel
theorem dL_chance_17 : decode cL_chance 17 = .ok (.ireturn, 1) := by decide +kernel
theorem dL_risk_0 : decode cL_risk 0 = .ok (.aload_n 2, 1) := by decide +kernel
theorem dL_risk_1 : decode cL_risk 1 = .ok (.iconst 0, 1) := by decide +kernel
theorem dL_risk_2 : decode cL_risk 2 = .ok (.aload_n 0, 1) := by decide +kernel
theorem dL_risk_3 : decode cL_risk 3 = .ok (.iload_n 1, 1) := by decide +kernel
theorem dL_risk_4 : decode cL_risk 4 = .ok (.invokevirtual 94, 3) := by decide +kernel
theorem dL_risk_7 : decode cL_risk 7 = .ok (.dastore, 1) := by decide +kernel
theorem dL_risk_8 : decode cL_risk 8 = .ok (.goto 6, 3) := by decide +kernel
theorem dL_risk_11 : decode cL_risk 11 = .ok (.astore_n 3, 1) := by decide +kernel
theorem dL_risk_12 : decode cL_risk 12 = .ok (.iconst 1, 1) := by decide +kernel
theorem dL_risk_13 : decode cL_risk 13 = .ok (.ireturn, 1) := by decide +kernel
theorem dL_risk_14 : decode cL_risk 14 = .ok (.iconst 0, 1) := by decide +kernel
theorem dL_risk_15 : decode cL_risk 15 = .ok (.ireturn, 1) := by decide +kernel
theorem dL_expectedWalks_0 : decode cL_expectedWalks 0 = .ok (.aload_n 2, 1) := by decide +kernel
theorem dL_expectedWalks_1 : decode cL_expectedWalks 1 = .ok (.iconst 0, 1) := by decide +kernel
theorem dL_expectedWalks_2 : decode cL_expectedWalks 2 = .ok (.aload_n 0, 1) := by decide +kernel
theorem dL_expectedWalks_3 : decode cL_expectedWalks 3 = .ok (.iload_n 1, 1) := by decide +kernel
theorem dL_expectedWalks_4 : decode cL_expectedWalks 4 = .ok (.invokevirtual 98, 3) := by decide +kernel
theorem dL_expectedWalks_7 : decode cL_expectedWalks 7 = .ok (.dastore, 1) := by decide +kernel
theorem dL_expectedWalks_8 : decode cL_expectedWalks 8 = .ok (.goto 6, 3) := by decide +kernel
theorem dL_expectedWalks_11 : decode cL_expectedWalks 11 = .ok (.astore_n 3, 1) := by decide +kernel
theorem dL_expectedWalks_12 : decode cL_expectedWalks 12 = .ok (.iconst 1, 1) := by decide +kernel
theorem dL_expectedWalks_13 : decode cL_expectedWalks 13 = .ok (.ireturn, 1) := by decide +kernel
theorem dL_expectedWalks_14 : decode cL_expectedWalks 14 = .ok (.iconst 0, 1) := by decide +kernel
theorem dL_expectedWalks_15 : decode cL_expectedWalks 15 = .ok (.ireturn, 1) := by decide +kernel
theorem dL_wouldBe_0 : decode cL_wouldBe 0 = .ok (.aload 6, 2) := by decide +kernel
theorem dL_wouldBe_2 : decode cL_wouldBe 2 = .ok (.iconst 0, 1) := by decide +kernel
theorem dL_wouldBe_3 : decode cL_wouldBe 3 = .ok (.aload_n 0, 1) := by decide +kernel
theorem dL_wouldBe_4 : decode cL_wouldBe 4 = .ok (.iload_n 1, 1) := by decide +kernel
theorem dL_wouldBe_5 : decode cL_wouldBe 5 = .ok (.iload_n 2, 1) := by decide +kernel
theorem dL_wouldBe_6 : decode cL_wouldBe 6 = .ok (.iload_n 3, 1) := by decide +kernel
theorem dL_wouldBe_7 : decode cL_wouldBe 7 = .ok (.iload 4, 2) := by decide +kernel
theorem dL_wouldBe_9 : decode cL_wouldBe 9 = .ok (.iload 5, 2) := by decide +kernel
theorem dL_wouldBe_11 : decode cL_wouldBe 11 = .ok (.invokevirtual 101, 3) := by decide +kernel
theorem dL_wouldBe_14 : decode cL_wouldBe 14 = .ok (.i2l, 1) := by decide +kernel
theorem dL_wouldBe_15 : decode cL_wouldBe 15 = .ok (.lastore, 1) := by decide +kernel
theorem dL_wouldBe_16 : decode cL_wouldBe 16 = .ok (.goto 7, 3) := by decide +kernel
theorem dL_wouldBe_19 : decode cL_wouldBe 19 = .ok (.astore 7, 2) := by decide +kernel
theorem dL_wouldBe_21 : decode cL_wouldBe 21 = .ok (.iconst 1, 1) := by decide +kernel
theorem dL_wouldBe_22 : decode cL_wouldBe 22 = .ok (.ireturn, 1) := by decide +kernel
theorem dL_wouldBe_23 : decode cL_wouldBe 23 = .ok (.iconst 0, 1) := by decide +kernel
theorem dL_wouldBe_24 : decode cL_wouldBe 24 = .ok (.ireturn, 1) := by decide +kernel
theorem dL_bestStay_0 : decode cL_bestStay 0 = .ok (.aload 5, 2) := by decide +kernel
theorem dL_bestStay_2 : decode cL_bestStay 2 = .ok (.iconst 0, 1) := by decide +kernel
theorem dL_bestStay_3 : decode cL_bestStay 3 = .ok (.aload_n 0, 1) := by decide +kernel
theorem dL_bestStay_4 : decode cL_bestStay 4 = .ok (.iload_n 1, 1) := by decide +kernel
theorem dL_bestStay_5 : decode cL_bestStay 5 = .ok (.iload_n 2, 1) := by decide +kernel
theorem dL_bestStay_6 : decode cL_bestStay 6 = .ok (.iload_n 3, 1) := by decide +kernel
theorem dL_bestStay_7 : decode cL_bestStay 7 = .ok (.iload 4, 2) := by decide +kernel
theorem dL_bestStay_9 : decode cL_bestStay 9 = .ok (.invokevirtual 104, 3) := by decide +kernel
theorem dL_bestStay_12 : decode cL_bestStay 12 = .ok (.i2l, 1) := by decide +kernel
theorem dL_bestStay_13 : decode cL_bestStay 13 = .ok (.lastore, 1) := by decide +kernel
theorem dL_bestStay_14 : decode cL_bestStay 14 = .ok (.goto 7, 3) := by decide +kernel
theorem dL_bestStay_17 : decode cL_bestStay 17 = .ok (.astore 6, 2) := by decide +kernel
theorem dL_bestStay_19 : decode cL_bestStay 19 = .ok (.iconst 1, 1) := by decide +kernel
theorem dL_bestStay_20 : decode cL_bestStay 20 = .ok (.ireturn, 1) := by decide +kernel
theorem dL_bestStay_21 : decode cL_bestStay 21 = .ok (.iconst 0, 1) := by decide +kernel
theorem dL_bestStay_22 : decode cL_bestStay 22 = .ok (.ireturn, 1) := by decide +kernel
theorem dL_netWithout_0 : decode cL_netWithout 0 = .ok (.aload_n 2, 1) := by decide +kernel
theorem dL_netWithout_1 : decode cL_netWithout 1 = .ok (.iconst 0, 1) := by decide +kernel
theorem dL_netWithout_2 : decode cL_netWithout 2 = .ok (.aload_n 0, 1) := by decide +kernel
theorem dL_netWithout_3 : decode cL_netWithout 3 = .ok (.iload_n 1, 1) := by decide +kernel
theorem dL_netWithout_4 : decode cL_netWithout 4 = .ok (.invokevirtual 108, 3) := by decide +kernel
theorem dL_netWithout_7 : decode cL_netWithout 7 = .ok (.i2l, 1) := by decide +kernel
theorem dL_netWithout_8 : decode cL_netWithout 8 = .ok (.lastore, 1) := by decide +kernel
theorem dL_netWithout_9 : decode cL_netWithout 9 = .ok (.goto 6, 3) := by decide +kernel
theorem dL_netWithout_12 : decode cL_netWithout 12 = .ok (.astore_n 3, 1) := by decide +kernel
theorem dL_netWithout_13 : decode cL_netWithout 13 = .ok (.iconst 1, 1) := by decide +kernel
theorem dL_netWithout_14 : decode cL_netWithout 14 = .ok (.ireturn, 1) := by decide +kernel
theorem dL_netWithout_15 : decode cL_netWithout 15 = .ok (.iconst 0, 1) := by decide +kernel
theorem dL_netWithout_16 : decode cL_netWithout 16 = .ok (.ireturn, 1) := by decide +kernel
theorem dL_book_0 : decode cL_book 0 = .ok (.aload 7, 2) := by decide +kernel
theorem dL_book_2 : decode cL_book 2 = .ok (.iconst 0, 1) := by decide +kernel
theorem dL_book_3 : decode cL_book 3 = .ok (.aload_n 0, 1) := by decide +kernel
theorem dL_book_4 : decode cL_book 4 = .ok (.iload_n 1, 1) := by decide +kernel
theorem dL_book_5 : decode cL_book 5 = .ok (.iload_n 2, 1) := by decide +kernel
theorem dL_book_6 : decode cL_book 6 = .ok (.iload_n 3, 1) := by decide +kernel
theorem dL_book_7 : decode cL_book 7 = .ok (.iload 4, 2) := by decide +kernel
theorem dL_book_9 : decode cL_book 9 = .ok (.iload 5, 2) := by decide +kernel
theorem dL_book_11 : decode cL_book 11 = .ok (.iload 6, 2) := by decide +kernel
theorem dL_book_13 : decode cL_book 13 = .ok (.invokevirtual 111, 3) := by decide +kernel
theorem dL_book_16 : decode cL_book 16 = .ok (.i2l, 1) := by decide +kernel
theorem dL_book_17 : decode cL_book 17 = .ok (.lastore, 1) := by decide +kernel
theorem dL_book_18 : decode cL_book 18 = .ok (.goto 11, 3) := by decide +kernel
theorem dL_book_21 : decode cL_book 21 = .ok (.astore 8, 2) := by decide +kernel
theorem dL_book_23 : decode cL_book 23 = .ok (.iconst 1, 1) := by decide +kernel
theorem dL_book_24 : decode cL_book 24 = .ok (.ireturn, 1) := by decide +kernel
theorem dL_book_25 : decode cL_book 25 = .ok (.astore 8, 2) := by decide +kernel
theorem dL_book_27 : decode cL_book 27 = .ok (.iconst 2, 1) := by decide +kernel
theorem dL_book_28 : decode cL_book 28 = .ok (.ireturn, 1) := by decide +kernel
theorem dL_book_29 : decode cL_book 29 = .ok (.iconst 0, 1) := by decide +kernel
theorem dL_book_30 : decode cL_book 30 = .ok (.ireturn, 1) := by decide +kernel
theorem dL_cancel_0 : decode cL_cancel 0 = .ok (.aload_n 2, 1) := by decide +kernel
theorem dL_cancel_1 : decode cL_cancel 1 = .ok (.iconst 0, 1) := by decide +kernel
theorem dL_cancel_2 : decode cL_cancel 2 = .ok (.aload_n 0, 1) := by decide +kernel
theorem dL_cancel_3 : decode cL_cancel 3 = .ok (.iload_n 1, 1) := by decide +kernel
theorem dL_cancel_4 : decode cL_cancel 4 = .ok (.invokevirtual 115, 3) := by decide +kernel
theorem dL_cancel_7 : decode cL_cancel 7 = .ok (.i2l, 1) := by decide +kernel
theorem dL_cancel_8 : decode cL_cancel 8 = .ok (.lastore, 1) := by decide +kernel
theorem dL_cancel_9 : decode cL_cancel 9 = .ok (.goto 9, 3) := by decide +kernel
theorem dL_cancel_12 : decode cL_cancel 12 = .ok (.astore_n 3, 1) := by decide +kernel
theorem dL_cancel_13 : decode cL_cancel 13 = .ok (.iconst 1, 1) := by decide +kernel
theorem dL_cancel_14 : decode cL_cancel 14 = .ok (.ireturn, 1) := by decide +kernel
theorem dL_cancel_15 : decode cL_cancel 15 = .ok (.astore_n 3, 1) := by decide +kernel
theorem dL_cancel_16 : decode cL_cancel 16 = .ok (.iconst 2, 1) := by decide +kernel
theorem dL_cancel_17 : decode cL_cancel 17 = .ok (.ireturn, 1) := by decide +kernel
theorem dL_cancel_18 : decode cL_cancel 18 = .ok (.iconst 0, 1) := by decide +kernel
theorem dL_cancel_19 : decode cL_cancel 19 = .ok (.ireturn, 1) := by decide +kernel
theorem dL_setAbsent_0 : decode cL_setAbsent 0 = .ok (.aload_n 3, 1) := by decide +kernel
theorem dL_setAbsent_1 : decode cL_setAbsent 1 = .ok (.iconst 0, 1) := by decide +kernel
theorem dL_setAbsent_2 : decode cL_setAbsent 2 = .ok (.aload_n 0, 1) := by decide +kernel
theorem dL_setAbsent_3 : decode cL_setAbsent 3 = .ok (.iload_n 1, 1) := by decide +kernel
theorem dL_setAbsent_4 : decode cL_setAbsent 4 = .ok (.iload_n 2, 1) := by decide +kernel
theorem dL_setAbsent_5 : decode cL_setAbsent 5 = .ok (.invokevirtual 118, 3) := by decide +kernel
theorem dL_setAbsent_8 : decode cL_setAbsent 8 = .ok (.ifCond .eq 7, 3) := by decide +kernel
theorem dL_setAbsent_11 : decode cL_setAbsent 11 = .ok (.lconst 1, 1) := by decide +kernel
theorem dL_setAbsent_12 : decode cL_setAbsent 12 = .ok (.goto 4, 3) := by decide +kernel
theorem dL_setAbsent_15 : decode cL_setAbsent 15 = .ok (.lconst 0, 1) := by decide +kernel
theorem dL_setAbsent_16 : decode cL_setAbsent 16 = .ok (.lastore, 1) := by decide +kernel
theorem dL_setAbsent_17 : decode cL_setAbsent 17 = .ok (.goto 7, 3) := by decide +kernel
theorem dL_setAbsent_20 : decode cL_setAbsent 20 = .ok (.astore 4, 2) := by decide +kernel
theorem dL_setAbsent_22 : decode cL_setAbsent 22 = .ok (.iconst 1, 1) := by decide +kernel
theorem dL_setAbsent_23 : decode cL_setAbsent 23 = .ok (.ireturn, 1) := by decide +kernel
theorem dL_setAbsent_24 : decode cL_setAbsent 24 = .ok (.iconst 0, 1) := by decide +kernel
theorem dL_setAbsent_25 : decode cL_setAbsent 25 = .ok (.ireturn, 1) := by decide +kernel
theorem dL_setTogether_0 : decode cL_setTogether 0 = .ok (.aload_n 3, 1) := by decide +kernel
theorem dL_setTogether_1 : decode cL_setTogether 1 = .ok (.iconst 0, 1) := by decide +kernel
theorem dL_setTogether_2 : decode cL_setTogether 2 = .ok (.aload_n 0, 1) := by decide +kernel
theorem dL_setTogether_3 : decode cL_setTogether 3 = .ok (.iload_n 1, 1) := by decide +kernel
theorem dL_setTogether_4 : decode cL_setTogether 4 = .ok (.iload_n 2, 1) := by decide +kernel
theorem dL_setTogether_5 : decode cL_setTogether 5 = .ok (.invokevirtual 122, 3) := by decide +kernel
theorem dL_setTogether_8 : decode cL_setTogether 8 = .ok (.ifCond .eq 7, 3) := by decide +kernel
theorem dL_setTogether_11 : decode cL_setTogether 11 = .ok (.lconst 1, 1) := by decide +kernel
theorem dL_setTogether_12 : decode cL_setTogether 12 = .ok (.goto 4, 3) := by decide +kernel
theorem dL_setTogether_15 : decode cL_setTogether 15 = .ok (.lconst 0, 1) := by decide +kernel
theorem dL_setTogether_16 : decode cL_setTogether 16 = .ok (.lastore, 1) := by decide +kernel
theorem dL_setTogether_17 : decode cL_setTogether 17 = .ok (.goto 7, 3) := by decide +kernel
theorem dL_setTogether_20 : decode cL_setTogether 20 = .ok (.astore 4, 2) := by decide +kernel
theorem dL_setTogether_22 : decode cL_setTogether 22 = .ok (.iconst 1, 1) := by decide +kernel
theorem dL_setTogether_23 : decode cL_setTogether 23 = .ok (.ireturn, 1) := by decide +kernel
theorem dL_setTogether_24 : decode cL_setTogether 24 = .ok (.iconst 0, 1) := by decide +kernel
theorem dL_setTogether_25 : decode cL_setTogether 25 = .ok (.ireturn, 1) := by decide +kernel
theorem dL_setOver_0 : decode cL_setOver 0 = .ok (.aload_n 2, 1) := by decide +kernel
theorem dL_setOver_1 : decode cL_setOver 1 = .ok (.iconst 0, 1) := by decide +kernel
theorem dL_setOver_2 : decode cL_setOver 2 = .ok (.aload_n 0, 1) := by decide +kernel
theorem dL_setOver_3 : decode cL_setOver 3 = .ok (.iload_n 1, 1) := by decide +kernel
theorem dL_setOver_4 : decode cL_setOver 4 = .ok (.invokevirtual 125, 3) := by decide +kernel
theorem dL_setOver_7 : decode cL_setOver 7 = .ok (.i2l, 1) := by decide +kernel
theorem dL_setOver_8 : decode cL_setOver 8 = .ok (.lastore, 1) := by decide +kernel
theorem dL_setOver_9 : decode cL_setOver 9 = .ok (.goto 6, 3) := by decide +kernel
theorem dL_setOver_12 : decode cL_setOver 12 = .ok (.astore_n 3, 1) := by decide +kernel
theorem dL_setOver_13 : decode cL_setOver 13 = .ok (.iconst 1, 1) := by decide +kernel
theorem dL_setOver_14 : decode cL_setOver 14 = .ok (.ireturn, 1) := by decide +kernel
theorem dL_setOver_15 : decode cL_setOver 15 = .ok (.iconst 0, 1) := by decide +kernel
theorem dL_setOver_16 : decode cL_setOver 16 = .ok (.ireturn, 1) := by decide +kernel
theorem dL_setWalk_0 : decode cL_setWalk 0 = .ok (.aload_n 2, 1) := by decide +kernel
theorem dL_setWalk_1 : decode cL_setWalk 1 = .ok (.iconst 0, 1) := by decide +kernel
theorem dL_setWalk_2 : decode cL_setWalk 2 = .ok (.aload_n 0, 1) := by decide +kernel
theorem dL_setWalk_3 : decode cL_setWalk 3 = .ok (.iload_n 1, 1) := by decide +kernel
theorem dL_setWalk_4 : decode cL_setWalk 4 = .ok (.invokevirtual 128, 3) := by decide +kernel
theorem dL_setWalk_7 : decode cL_setWalk 7 = .ok (.i2l, 1) := by decide +kernel
theorem dL_setWalk_8 : decode cL_setWalk 8 = .ok (.lastore, 1) := by decide +kernel
theorem dL_setWalk_9 : decode cL_setWalk 9 = .ok (.goto 6, 3) := by decide +kernel
theorem dL_setWalk_12 : decode cL_setWalk 12 = .ok (.astore_n 3, 1) := by decide +kernel
theorem dL_setWalk_13 : decode cL_setWalk 13 = .ok (.iconst 1, 1) := by decide +kernel
theorem dL_setWalk_14 : decode cL_setWalk 14 = .ok (.ireturn, 1) := by decide +kernel
theorem dL_setWalk_15 : decode cL_setWalk 15 = .ok (.iconst 0, 1) := by decide +kernel
theorem dL_setWalk_16 : decode cL_setWalk 16 = .ok (.ireturn, 1) := by decide +kernel
theorem dL_setPrice_0 : decode cL_setPrice 0 = .ok (.aload_n 3, 1) := by decide +kernel
theorem dL_setPrice_1 : decode cL_setPrice 1 = .ok (.iconst 0, 1) := by decide +kernel
theorem dL_setPrice_2 : decode cL_setPrice 2 = .ok (.aload_n 0, 1) := by decide +kernel
theorem dL_setPrice_3 : decode cL_setPrice 3 = .ok (.iload_n 1, 1) := by decide +kernel
theorem dL_setPrice_4 : decode cL_setPrice 4 = .ok (.iload_n 2, 1) := by decide +kernel
theorem dL_setPrice_5 : decode cL_setPrice 5 = .ok (.invokevirtual 131, 3) := by decide +kernel
theorem dL_setPrice_8 : decode cL_setPrice 8 = .ok (.i2l, 1) := by decide +kernel
theorem dL_setPrice_9 : decode cL_setPrice 9 = .ok (.lastore, 1) := by decide +kernel
theorem dL_setPrice_10 : decode cL_setPrice 10 = .ok (.goto 11, 3) := by decide +kernel
theorem dL_setPrice_13 : decode cL_setPrice 13 = .ok (.astore 4, 2) := by decide +kernel
theorem dL_setPrice_15 : decode cL_setPrice 15 = .ok (.iconst 1, 1) := by decide +kernel
theorem dL_setPrice_16 : decode cL_setPrice 16 = .ok (.ireturn, 1) := by decide +kernel
theorem dL_setPrice_17 : decode cL_setPrice 17 = .ok (.astore 4, 2) := by decide +kernel
theorem dL_setPrice_19 : decode cL_setPrice 19 = .ok (.iconst 2, 1) := by decide +kernel
theorem dL_setPrice_20 : decode cL_setPrice 20 = .ok (.ireturn, 1) := by decide +kernel
theorem dL_setPrice_21 : decode cL_setPrice 21 = .ok (.iconst 0, 1) := by decide +kernel
theorem dL_setPrice_22 : decode cL_setPrice 22 = .ok (.ireturn, 1) := by decide +kernel
theorem dL_undo_0 : decode cL_undo 0 = .ok (.aload_n 1, 1) := by decide +kernel
theorem dL_undo_1 : decode cL_undo 1 = .ok (.iconst 0, 1) := by decide +kernel
theorem dL_undo_2 : decode cL_undo 2 = .ok (.aload_n 0, 1) := by decide +kernel
theorem dL_undo_3 : decode cL_undo 3 = .ok (.invokevirtual 134, 3) := by decide +kernel
theorem dL_undo_6 : decode cL_undo 6 = .ok (.i2l, 1) := by decide +kernel
theorem dL_undo_7 : decode cL_undo 7 = .ok (.lastore, 1) := by decide +kernel
theorem dL_undo_8 : decode cL_undo 8 = .ok (.goto 6, 3) := by decide +kernel
theorem dL_undo_11 : decode cL_undo 11 = .ok (.astore_n 2, 1) := by decide +kernel
theorem dL_undo_12 : decode cL_undo 12 = .ok (.iconst 1, 1) := by decide +kernel
theorem dL_undo_13 : decode cL_undo 13 = .ok (.ireturn, 1) := by decide +kernel
theorem dL_undo_14 : decode cL_undo 14 = .ok (.iconst 0, 1) := by decide +kernel
theorem dL_undo_15 : decode cL_undo 15 = .ok (.ireturn, 1) := by decide +kernel
theorem dL_format_0 : decode cL_format 0 = .ok (.aload_n 2, 1) := by decide +kernel
theorem dL_format_1 : decode cL_format 1 = .ok (.iconst 0, 1) := by decide +kernel
theorem dL_format_2 : decode cL_format 2 = .ok (.aload_n 0, 1) := by decide +kernel
theorem dL_format_3 : decode cL_format 3 = .ok (.iload_n 1, 1) := by decide +kernel
theorem dL_format_4 : decode cL_format 4 = .ok (.invokevirtual 137, 3) := by decide +kernel
theorem dL_format_7 : decode cL_format 7 = .ok (.i2l, 1) := by decide +kernel
theorem dL_format_8 : decode cL_format 8 = .ok (.lastore, 1) := by decide +kernel
theorem dL_format_9 : decode cL_format 9 = .ok (.goto 6, 3) := by decide +kernel
theorem dL_format_12 : decode cL_format 12 = .ok (.astore_n 3, 1) := by decide +kernel
theorem dL_format_13 : decode cL_format 13 = .ok (.iconst 1, 1) := by decide +kernel
theorem dL_format_14 : decode cL_format 14 = .ok (.ireturn, 1) := by decide +kernel
theorem dL_format_15 : decode cL_format 15 = .ok (.iconst 0, 1) := by decide +kernel
theorem dL_format_16 : decode cL_format 16 = .ok (.ireturn, 1) := by decide +kernel
theorem dL_formattedCharacter_0 : decode cL_formattedCharacter 0 = .ok (.aload_n 2, 1) := by decide +kernel
theorem dL_formattedCharacter_1 : decode cL_formattedCharacter 1 = .ok (.iconst 0, 1) := by decide +kernel
theorem dL_formattedCharacter_2 : decode cL_formattedCharacter 2 = .ok (.aload_n 0, 1) := by decide +kernel
theorem dL_formattedCharacter_3 : decode cL_formattedCharacter 3 = .ok (.iload_n 1, 1) := by decide +kernel
theorem dL_formattedCharacter_4 : decode cL_formattedCharacter 4 = .ok (.invokevirtual 140, 3) := by decide +kernel
theorem dL_formattedCharacter_7 : decode cL_formattedCharacter 7 = .ok (.i2l, 1) := by decide +kernel
theorem dL_formattedCharacter_8 : decode cL_formattedCharacter 8 = .ok (.lastore, 1) := by decide +kernel
theorem dL_formattedCharacter_9 : decode cL_formattedCharacter 9 = .ok (.goto 6, 3) := by decide +kernel
theorem dL_formattedCharacter_12 : decode cL_formattedCharacter 12 = .ok (.astore_n 3, 1) := by decide +kernel
theorem dL_formattedCharacter_13 : decode cL_formattedCharacter 13 = .ok (.iconst 1, 1) := by decide +kernel
theorem dL_formattedCharacter_14 : decode cL_formattedCharacter 14 = .ok (.ireturn, 1) := by decide +kernel
theorem dL_formattedCharacter_15 : decode cL_formattedCharacter 15 = .ok (.iconst 0, 1) := by decide +kernel
theorem dL_formattedCharacter_16 : decode cL_formattedCharacter 16 = .ok (.ireturn, 1) := by decide +kernel
theorem dL_law_0 : decode cL_law 0 = .ok (.new 8, 3) := by decide +kernel
theorem dL_law_3 : decode cL_law 3 = .ok (.dup, 1) := by decide +kernel
theorem dL_law_4 : decode cL_law 4 = .ok (.invokespecial 144, 3) := by decide +kernel
theorem dL_law_7 : decode cL_law 7 = .ok (.astore_n 1, 1) := by decide +kernel
theorem dL_law_8 : decode cL_law 8 = .ok (.new 145, 3) := by decide +kernel
theorem dL_law_11 : decode cL_law 11 = .ok (.dup, 1) := by decide +kernel
theorem dL_law_12 : decode cL_law 12 = .ok (.invokespecial 147, 3) := by decide +kernel
theorem dL_law_15 : decode cL_law 15 = .ok (.astore_n 2, 1) := by decide +kernel
theorem dL_law_16 : decode cL_law 16 = .ok (.iconst 1, 1) := by decide +kernel
theorem dL_law_17 : decode cL_law 17 = .ok (.newarray .long, 2) := by decide +kernel
theorem dL_law_19 : decode cL_law 19 = .ok (.astore_n 3, 1) := by decide +kernel
theorem dL_law_20 : decode cL_law 20 = .ok (.iconst 1, 1) := by decide +kernel
theorem dL_law_21 : decode cL_law 21 = .ok (.newarray .double, 2) := by decide +kernel
theorem dL_law_23 : decode cL_law 23 = .ok (.astore 4, 2) := by decide +kernel
theorem dL_law_25 : decode cL_law 25 = .ok (.iconst 0, 1) := by decide +kernel
theorem dL_law_26 : decode cL_law 26 = .ok (.istore 5, 2) := by decide +kernel
theorem dL_law_28 : decode cL_law 28 = .ok (.iload 5, 2) := by decide +kernel
theorem dL_law_30 : decode cL_law 30 = .ok (.aload_n 0, 1) := by decide +kernel
theorem dL_law_31 : decode cL_law 31 = .ok (.arraylength, 1) := by decide +kernel
theorem dL_law_32 : decode cL_law 32 = .ok (.bipush 7, 2) := by decide +kernel
theorem dL_law_34 : decode cL_law 34 = .ok (.isub, 1) := by decide +kernel
theorem dL_law_35 : decode cL_law 35 = .ok (.if_icmp .gt 2832, 3) := by decide +kernel
theorem dL_law_38 : decode cL_law 38 = .ok (.aload_n 0, 1) := by decide +kernel
theorem dL_law_39 : decode cL_law 39 = .ok (.iload 5, 2) := by decide +kernel
theorem dL_law_41 : decode cL_law 41 = .ok (.iaload, 1) := by decide +kernel
theorem dL_law_42 : decode cL_law 42 = .ok (.bipush 63, 2) := by decide +kernel
theorem dL_law_44 : decode cL_law 44 = .ok (.iand, 1) := by decide +kernel
theorem dL_law_45 : decode cL_law 45 = .ok (.tableswitch 2816 0 43 #[191, 295, 331, 375, 388, 444, 500, 568, 636, 708, 764, 820, 876, 932, 1000, 1068, 1148, 1216, 1272, 1328, 1384, 1397, 1465, 1478, 1534, 1590, 1603, 1616, 1705, 1782, 1859, 1963, 2055, 2111, 2124, 2242, 2298, 2389, 2480, 2536, 2592, 2660, 2704, 2760], 191) := by decide +kernel
theorem dL_law_236 : decode cL_law 236 = .ok (.aload_n 1, 1) := by decide +kernel
theorem dL_law_237 : decode cL_law 237 = .ok (.aload_n 0, 1) := by decide +kernel
theorem dL_law_238 : decode cL_law 238 = .ok (.iload 5, 2) := by decide +kernel
theorem dL_law_240 : decode cL_law 240 = .ok (.iconst 1, 1) := by decide +kernel
theorem dL_law_241 : decode cL_law 241 = .ok (.iadd, 1) := by decide +kernel
theorem dL_law_242 : decode cL_law 242 = .ok (.iaload, 1) := by decide +kernel
theorem dL_law_243 : decode cL_law 243 = .ok (.aload_n 0, 1) := by decide +kernel
theorem dL_law_244 : decode cL_law 244 = .ok (.iload 5, 2) := by decide +kernel
theorem dL_law_246 : decode cL_law 246 = .ok (.iconst 2, 1) := by decide +kernel
theorem dL_law_247 : decode cL_law 247 = .ok (.iadd, 1) := by decide +kernel
theorem dL_law_248 : decode cL_law 248 = .ok (.iaload, 1) := by decide +kernel
theorem dL_law_249 : decode cL_law 249 = .ok (.aload_n 0, 1) := by decide +kernel
theorem dL_law_250 : decode cL_law 250 = .ok (.iload 5, 2) := by decide +kernel
theorem dL_law_252 : decode cL_law 252 = .ok (.iconst 3, 1) := by decide +kernel
theorem dL_law_253 : decode cL_law 253 = .ok (.iadd, 1) := by decide +kernel
theorem dL_law_254 : decode cL_law 254 = .ok (.iaload, 1) := by decide +kernel
theorem dL_law_255 : decode cL_law 255 = .ok (.aload_n 0, 1) := by decide +kernel
theorem dL_law_256 : decode cL_law 256 = .ok (.iload 5, 2) := by decide +kernel
theorem dL_law_258 : decode cL_law 258 = .ok (.iconst 4, 1) := by decide +kernel
theorem dL_law_259 : decode cL_law 259 = .ok (.iadd, 1) := by decide +kernel
theorem dL_law_260 : decode cL_law 260 = .ok (.iaload, 1) := by decide +kernel
theorem dL_law_261 : decode cL_law 261 = .ok (.aload_n 0, 1) := by decide +kernel
theorem dL_law_262 : decode cL_law 262 = .ok (.iload 5, 2) := by decide +kernel
theorem dL_law_264 : decode cL_law 264 = .ok (.iconst 5, 1) := by decide +kernel
theorem dL_law_265 : decode cL_law 265 = .ok (.iadd, 1) := by decide +kernel
theorem dL_law_266 : decode cL_law 266 = .ok (.iaload, 1) := by decide +kernel
theorem dL_law_267 : decode cL_law 267 = .ok (.aload_n 3, 1) := by decide +kernel
theorem dL_law_268 : decode cL_law 268 = .ok (.invokestatic 148, 3) := by decide +kernel
theorem dL_law_271 : decode cL_law 271 = .ok (.istore 6, 2) := by decide +kernel
theorem dL_law_273 : decode cL_law 273 = .ok (.aload_n 2, 1) := by decide +kernel
theorem dL_law_274 : decode cL_law 274 = .ok (.aload_n 0, 1) := by decide +kernel
theorem dL_law_275 : decode cL_law 275 = .ok (.iload 5, 2) := by decide +kernel
theorem dL_law_277 : decode cL_law 277 = .ok (.iconst 1, 1) := by decide +kernel
theorem dL_law_278 : decode cL_law 278 = .ok (.iadd, 1) := by decide +kernel
theorem dL_law_279 : decode cL_law 279 = .ok (.iaload, 1) := by decide +kernel
theorem dL_law_280 : decode cL_law 280 = .ok (.aload_n 0, 1) := by decide +kernel
theorem dL_law_281 : decode cL_law 281 = .ok (.iload 5, 2) := by decide +kernel
theorem dL_law_283 : decode cL_law 283 = .ok (.iconst 2, 1) := by decide +kernel
theorem dL_law_284 : decode cL_law 284 = .ok (.iadd, 1) := by decide +kernel
theorem dL_law_285 : decode cL_law 285 = .ok (.iaload, 1) := by decide +kernel
theorem dL_law_286 : decode cL_law 286 = .ok (.aload_n 0, 1) := by decide +kernel
theorem dL_law_287 : decode cL_law 287 = .ok (.iload 5, 2) := by decide +kernel
theorem dL_law_289 : decode cL_law 289 = .ok (.iconst 3, 1) := by decide +kernel
theorem dL_law_290 : decode cL_law 290 = .ok (.iadd, 1) := by decide +kernel
theorem dL_law_291 : decode cL_law 291 = .ok (.iaload, 1) := by decide +kernel
theorem dL_law_292 : decode cL_law 292 = .ok (.aload_n 0, 1) := by decide +kernel
theorem dL_law_293 : decode cL_law 293 = .ok (.iload 5, 2) := by decide +kernel
theorem dL_law_295 : decode cL_law 295 = .ok (.iconst 4, 1) := by decide +kernel
theorem dL_law_296 : decode cL_law 296 = .ok (.iadd, 1) := by decide +kernel
theorem dL_law_297 : decode cL_law 297 = .ok (.iaload, 1) := by decide +kernel
theorem dL_law_298 : decode cL_law 298 = .ok (.aload_n 0, 1) := by decide +kernel
theorem dL_law_299 : decode cL_law 299 = .ok (.iload 5, 2) := by decide +kernel
theorem dL_law_301 : decode cL_law 301 = .ok (.iconst 5, 1) := by decide +kernel
theorem dL_law_302 : decode cL_law 302 = .ok (.iadd, 1) := by decide +kernel
theorem dL_law_303 : decode cL_law 303 = .ok (.iaload, 1) := by decide +kernel
theorem dL_law_304 : decode cL_law 304 = .ok (.invokevirtual 153, 3) := by decide +kernel
theorem dL_law_307 : decode cL_law 307 = .ok (.istore 7, 2) := by decide +kernel
theorem dL_law_309 : decode cL_law 309 = .ok (.aload_n 2, 1) := by decide +kernel
theorem dL_law_310 : decode cL_law 310 = .ok (.invokevirtual 154, 3) := by decide +kernel
theorem dL_law_313 : decode cL_law 313 = .ok (.iload 6, 2) := by decide +kernel
theorem dL_law_315 : decode cL_law 315 = .ok (.if_icmp .eq 5, 3) := by decide +kernel
theorem dL_law_318 : decode cL_law 318 = .ok (.iconst 0, 1) := by decide +kernel
theorem dL_law_319 : decode cL_law 319 = .ok (.ireturn, 1) := by decide +kernel
theorem dL_law_320 : decode cL_law 320 = .ok (.iload 6, 2) := by decide +kernel
theorem dL_law_322 : decode cL_law 322 = .ok (.ifCond .ne 15, 3) := by decide +kernel
theorem dL_law_325 : decode cL_law 325 = .ok (.aload_n 3, 1) := by decide +kernel
theorem dL_law_326 : decode cL_law 326 = .ok (.iconst 0, 1) := by decide +kernel
theorem dL_law_327 : decode cL_law 327 = .ok (.laload, 1) := by decide +kernel
theorem dL_law_328 : decode cL_law 328 = .ok (.iload 7, 2) := by decide +kernel
theorem dL_law_330 : decode cL_law 330 = .ok (.i2l, 1) := by decide +kernel
theorem dL_law_331 : decode cL_law 331 = .ok (.lcmp, 1) := by decide +kernel
theorem dL_law_332 : decode cL_law 332 = .ok (.ifCond .eq 5, 3) := by decide +kernel
theorem dL_law_335 : decode cL_law 335 = .ok (.iconst 0, 1) := by decide +kernel
theorem dL_law_336 : decode cL_law 336 = .ok (.ireturn, 1) := by decide +kernel
theorem dL_law_337 : decode cL_law 337 = .ok (.goto 2524, 3) := by decide +kernel
theorem dL_law_340 : decode cL_law 340 = .ok (.aload_n 1, 1) := by decide +kernel
theorem dL_law_341 : decode cL_law 341 = .ok (.aload_n 0, 1) := by decide +kernel
theorem dL_law_342 : decode cL_law 342 = .ok (.iload 5, 2) := by decide +kernel
theorem dL_law_344 : decode cL_law 344 = .ok (.iconst 1, 1) := by decide +kernel
theorem dL_law_345 : decode cL_law 345 = .ok (.iadd, 1) := by decide +kernel
theorem dL_law_346 : decode cL_law 346 = .ok (.iaload, 1) := by decide +kernel
theorem dL_law_347 : decode cL_law 347 = .ok (.invokestatic 157, 3) := by decide +kernel
theorem dL_law_350 : decode cL_law 350 = .ok (.istore 6, 2) := by decide +kernel
theorem dL_law_352 : decode cL_law 352 = .ok (.aload_n 2, 1) := by decide +kernel
theorem dL_law_353 : decode cL_law 353 = .ok (.aload_n 0, 1) := by decide +kernel
theorem dL_law_354 : decode cL_law 354 = .ok (.iload 5, 2) := by decide +kernel
theorem dL_law_356 : decode cL_law 356 = .ok (.iconst 1, 1) := by decide +kernel
theorem dL_law_357 : decode cL_law 357 = .ok (.iadd, 1) := by decide +kernel
theorem dL_law_358 : decode cL_law 358 = .ok (.iaload, 1) := by decide +kernel
theorem dL_law_359 : decode cL_law 359 = .ok (.invokevirtual 160, 3) := by decide +kernel
theorem dL_law_362 : decode cL_law 362 = .ok (.aload_n 2, 1) := by decide +kernel
theorem dL_law_363 : decode cL_law 363 = .ok (.invokevirtual 154, 3) := by decide +kernel
theorem dL_law_366 : decode cL_law 366 = .ok (.iload 6, 2) := by decide +kernel
theorem dL_law_368 : decode cL_law 368 = .ok (.if_icmp .eq 5, 3) := by decide +kernel
theorem dL_law_371 : decode cL_law 371 = .ok (.iconst 0, 1) := by decide +kernel
theorem dL_law_372 : decode cL_law 372 = .ok (.ireturn, 1) := by decide +kernel
theorem dL_law_373 : decode cL_law 373 = .ok (.goto 2488, 3) := by decide +kernel
theorem dL_law_376 : decode cL_law 376 = .ok (.aload_n 1, 1) := by decide +kernel
theorem dL_law_377 : decode cL_law 377 = .ok (.aload_n 3, 1) := by decide +kernel
theorem dL_law_378 : decode cL_law 378 = .ok (.invokestatic 161, 3) := by decide +kernel
theorem dL_law_381 : decode cL_law 381 = .ok (.istore 6, 2) := by decide +kernel
theorem dL_law_383 : decode cL_law 383 = .ok (.aload_n 2, 1) := by decide +kernel
theorem dL_law_384 : decode cL_law 384 = .ok (.invokevirtual 164, 3) := by decide +kernel
theorem dL_law_387 : decode cL_law 387 = .ok (.istore 7, 2) := by decide +kernel
theorem dL_law_389 : decode cL_law 389 = .ok (.aload_n 2, 1) := by decide +kernel
theorem dL_law_390 : decode cL_law 390 = .ok (.invokevirtual 154, 3) := by decide +kernel
theorem dL_law_393 : decode cL_law 393 = .ok (.iload 6, 2) := by decide +kernel
theorem dL_law_395 : decode cL_law 395 = .ok (.if_icmp .eq 5, 3) := by decide +kernel
theorem dL_law_398 : decode cL_law 398 = .ok (.iconst 0, 1) := by decide +kernel
theorem dL_law_399 : decode cL_law 399 = .ok (.ireturn, 1) := by decide +kernel
theorem dL_law_400 : decode cL_law 400 = .ok (.iload 6, 2) := by decide +kernel
theorem dL_law_402 : decode cL_law 402 = .ok (.ifCond .ne 15, 3) := by decide +kernel
theorem dL_law_405 : decode cL_law 405 = .ok (.aload_n 3, 1) := by decide +kernel
theorem dL_law_406 : decode cL_law 406 = .ok (.iconst 0, 1) := by decide +kernel
theorem dL_law_407 : decode cL_law 407 = .ok (.laload, 1) := by decide +kernel
theorem dL_law_408 : decode cL_law 408 = .ok (.iload 7, 2) := by decide +kernel
theorem dL_law_410 : decode cL_law 410 = .ok (.i2l, 1) := by decide +kernel
theorem dL_law_411 : decode cL_law 411 = .ok (.lcmp, 1) := by decide +kernel
theorem dL_law_412 : decode cL_law 412 = .ok (.ifCond .eq 5, 3) := by decide +kernel
theorem dL_law_415 : decode cL_law 415 = .ok (.iconst 0, 1) := by decide +kernel
theorem dL_law_416 : decode cL_law 416 = .ok (.ireturn, 1) := by decide +kernel
theorem dL_law_417 : decode cL_law 417 = .ok (.goto 2444, 3) := by decide +kernel
theorem dL_law_420 : decode cL_law 420 = .ok (.aload_n 1, 1) := by decide +kernel
theorem dL_law_421 : decode cL_law 421 = .ok (.invokevirtual 165, 3) := by decide +kernel
theorem dL_law_424 : decode cL_law 424 = .ok (.aload_n 2, 1) := by decide +kernel
theorem dL_law_425 : decode cL_law 425 = .ok (.invokevirtual 168, 3) := by decide +kernel
theorem dL_law_428 : decode cL_law 428 = .ok (.if_icmp .eq 2433, 3) := by decide +kernel
theorem dL_law_431 : decode cL_law 431 = .ok (.iconst 0, 1) := by decide +kernel
theorem dL_law_432 : decode cL_law 432 = .ok (.ireturn, 1) := by decide +kernel
theorem dL_law_433 : decode cL_law 433 = .ok (.aload_n 1, 1) := by decide +kernel
theorem dL_law_434 : decode cL_law 434 = .ok (.aload_n 0, 1) := by decide +kernel
theorem dL_law_435 : decode cL_law 435 = .ok (.iload 5, 2) := by decide +kernel
theorem dL_law_437 : decode cL_law 437 = .ok (.iconst 1, 1) := by decide +kernel
theorem dL_law_438 : decode cL_law 438 = .ok (.iadd, 1) := by decide +kernel
theorem dL_law_439 : decode cL_law 439 = .ok (.iaload, 1) := by decide +kernel
theorem dL_law_440 : decode cL_law 440 = .ok (.aload_n 3, 1) := by decide +kernel
theorem dL_law_441 : decode cL_law 441 = .ok (.invokestatic 169, 3) := by decide +kernel
theorem dL_law_444 : decode cL_law 444 = .ok (.istore 6, 2) := by decide +kernel
theorem dL_law_446 : decode cL_law 446 = .ok (.aload_n 2, 1) := by decide +kernel
theorem dL_law_447 : decode cL_law 447 = .ok (.aload_n 0, 1) := by decide +kernel
theorem dL_law_448 : decode cL_law 448 = .ok (.iload 5, 2) := by decide +kernel
theorem dL_law_450 : decode cL_law 450 = .ok (.iconst 1, 1) := by decide +kernel
theorem dL_law_451 : decode cL_law 451 = .ok (.iadd, 1) := by decide +kernel
theorem dL_law_452 : decode cL_law 452 = .ok (.iaload, 1) := by decide +kernel
theorem dL_law_453 : decode cL_law 453 = .ok (.invokevirtual 172, 3) := by decide +kernel
theorem dL_law_456 : decode cL_law 456 = .ok (.istore 7, 2) := by decide +kernel
theorem dL_law_458 : decode cL_law 458 = .ok (.aload_n 2, 1) := by decide +kernel
theorem dL_law_459 : decode cL_law 459 = .ok (.invokevirtual 154, 3) := by decide +kernel
theorem dL_law_462 : decode cL_law 462 = .ok (.iload 6, 2) := by decide +kernel
theorem dL_law_464 : decode cL_law 464 = .ok (.if_icmp .eq 5, 3) := by decide +kernel
theorem dL_law_467 : decode cL_law 467 = .ok (.iconst 0, 1) := by decide +kernel
theorem dL_law_468 : decode cL_law 468 = .ok (.ireturn, 1) := by decide +kernel
theorem dL_law_469 : decode cL_law 469 = .ok (.iload 6, 2) := by decide +kernel
theorem dL_law_471 : decode cL_law 471 = .ok (.ifCond .ne 15, 3) := by decide +kernel
theorem dL_law_474 : decode cL_law 474 = .ok (.aload_n 3, 1) := by decide +kernel
theorem dL_law_475 : decode cL_law 475 = .ok (.iconst 0, 1) := by decide +kernel
theorem dL_law_476 : decode cL_law 476 = .ok (.laload, 1) := by decide +kernel
theorem dL_law_477 : decode cL_law 477 = .ok (.iload 7, 2) := by decide +kernel
theorem dL_law_479 : decode cL_law 479 = .ok (.i2l, 1) := by decide +kernel
theorem dL_law_480 : decode cL_law 480 = .ok (.lcmp, 1) := by decide +kernel
theorem dL_law_481 : decode cL_law 481 = .ok (.ifCond .eq 5, 3) := by decide +kernel
theorem dL_law_484 : decode cL_law 484 = .ok (.iconst 0, 1) := by decide +kernel
theorem dL_law_485 : decode cL_law 485 = .ok (.ireturn, 1) := by decide +kernel
theorem dL_law_486 : decode cL_law 486 = .ok (.goto 2375, 3) := by decide +kernel
theorem dL_law_489 : decode cL_law 489 = .ok (.aload_n 1, 1) := by decide +kernel
theorem dL_law_490 : decode cL_law 490 = .ok (.aload_n 0, 1) := by decide +kernel
theorem dL_law_491 : decode cL_law 491 = .ok (.iload 5, 2) := by decide +kernel
theorem dL_law_493 : decode cL_law 493 = .ok (.iconst 1, 1) := by decide +kernel
theorem dL_law_494 : decode cL_law 494 = .ok (.iadd, 1) := by decide +kernel
theorem dL_law_495 : decode cL_law 495 = .ok (.iaload, 1) := by decide +kernel
theorem dL_law_496 : decode cL_law 496 = .ok (.aload_n 3, 1) := by decide +kernel
theorem dL_law_497 : decode cL_law 497 = .ok (.invokestatic 173, 3) := by decide +kernel
theorem dL_law_500 : decode cL_law 500 = .ok (.istore 6, 2) := by decide +kernel
theorem dL_law_502 : decode cL_law 502 = .ok (.aload_n 2, 1) := by decide +kernel
theorem dL_law_503 : decode cL_law 503 = .ok (.aload_n 0, 1) := by decide +kernel
theorem dL_law_504 : decode cL_law 504 = .ok (.iload 5, 2) := by decide +kernel
theorem dL_law_506 : decode cL_law 506 = .ok (.iconst 1, 1) := by decide +kernel
theorem dL_law_507 : decode cL_law 507 = .ok (.iadd, 1) := by decide +kernel
theorem dL_law_508 : decode cL_law 508 = .ok (.iaload, 1) := by decide +kernel
theorem dL_law_509 : decode cL_law 509 = .ok (.invokevirtual 175, 3) := by decide +kernel
theorem dL_law_512 : decode cL_law 512 = .ok (.istore 7, 2) := by decide +kernel
theorem dL_law_514 : decode cL_law 514 = .ok (.aload_n 2, 1) := by decide +kernel
theorem dL_law_515 : decode cL_law 515 = .ok (.invokevirtual 154, 3) := by decide +kernel
theorem dL_law_518 : decode cL_law 518 = .ok (.iload 6, 2) := by decide +kernel
theorem dL_law_520 : decode cL_law 520 = .ok (.if_icmp .eq 5, 3) := by decide +kernel
theorem dL_law_523 : decode cL_law 523 = .ok (.iconst 0, 1) := by decide +kernel
theorem dL_law_524 : decode cL_law 524 = .ok (.ireturn, 1) := by decide +kernel
theorem dL_law_525 : decode cL_law 525 = .ok (.iload 6, 2) := by decide +kernel
theorem dL_law_527 : decode cL_law 527 = .ok (.ifCond .ne 15, 3) := by decide +kernel
theorem dL_law_530 : decode cL_law 530 = .ok (.aload_n 3, 1) := by decide +kernel
theorem dL_law_531 : decode cL_law 531 = .ok (.iconst 0, 1) := by decide +kernel
theorem dL_law_532 : decode cL_law 532 = .ok (.laload, 1) := by decide +kernel
theorem dL_law_533 : decode cL_law 533 = .ok (.iload 7, 2) := by decide +kernel
theorem dL_law_535 : decode cL_law 535 = .ok (.i2l, 1) := by decide +kernel
theorem dL_law_536 : decode cL_law 536 = .ok (.lcmp, 1) := by decide +kernel
theorem dL_law_537 : decode cL_law 537 = .ok (.ifCond .eq 5, 3) := by decide +kernel
theorem dL_law_540 : decode cL_law 540 = .ok (.iconst 0, 1) := by decide +kernel
theorem dL_law_541 : decode cL_law 541 = .ok (.ireturn, 1) := by decide +kernel
theorem dL_law_542 : decode cL_law 542 = .ok (.goto 2319, 3) := by decide +kernel
theorem dL_law_545 : decode cL_law 545 = .ok (.aload_n 1, 1) := by decide +kernel
theorem dL_law_546 : decode cL_law 546 = .ok (.aload_n 0, 1) := by decide +kernel
theorem dL_law_547 : decode cL_law 547 = .ok (.iload 5, 2) := by decide +kernel
theorem dL_law_549 : decode cL_law 549 = .ok (.iconst 1, 1) := by decide +kernel
theorem dL_law_550 : decode cL_law 550 = .ok (.iadd, 1) := by decide +kernel
theorem dL_law_551 : decode cL_law 551 = .ok (.iaload, 1) := by decide +kernel
theorem dL_law_552 : decode cL_law 552 = .ok (.aload_n 0, 1) := by decide +kernel
theorem dL_law_553 : decode cL_law 553 = .ok (.iload 5, 2) := by decide +kernel
theorem dL_law_555 : decode cL_law 555 = .ok (.iconst 2, 1) := by decide +kernel
theorem dL_law_556 : decode cL_law 556 = .ok (.iadd, 1) := by decide +kernel
theorem dL_law_557 : decode cL_law 557 = .ok (.iaload, 1) := by decide +kernel
theorem dL_law_558 : decode cL_law 558 = .ok (.aload_n 3, 1) := by decide +kernel
theorem dL_law_559 : decode cL_law 559 = .ok (.invokestatic 176, 3) := by decide +kernel
theorem dL_law_562 : decode cL_law 562 = .ok (.istore 6, 2) := by decide +kernel
theorem dL_law_564 : decode cL_law 564 = .ok (.aload_n 2, 1) := by decide +kernel
theorem dL_law_565 : decode cL_law 565 = .ok (.aload_n 0, 1) := by decide +kernel
theorem dL_law_566 : decode cL_law 566 = .ok (.iload 5, 2) := by decide +kernel
theorem dL_law_568 : decode cL_law 568 = .ok (.iconst 1, 1) := by decide +kernel
theorem dL_law_569 : decode cL_law 569 = .ok (.iadd, 1) := by decide +kernel
theorem dL_law_570 : decode cL_law 570 = .ok (.iaload, 1) := by decide +kernel
theorem dL_law_571 : decode cL_law 571 = .ok (.aload_n 0, 1) := by decide +kernel
theorem dL_law_572 : decode cL_law 572 = .ok (.iload 5, 2) := by decide +kernel
theorem dL_law_574 : decode cL_law 574 = .ok (.iconst 2, 1) := by decide +kernel
theorem dL_law_575 : decode cL_law 575 = .ok (.iadd, 1) := by decide +kernel
theorem dL_law_576 : decode cL_law 576 = .ok (.iaload, 1) := by decide +kernel
theorem dL_law_577 : decode cL_law 577 = .ok (.invokevirtual 179, 3) := by decide +kernel
theorem dL_law_580 : decode cL_law 580 = .ok (.istore 7, 2) := by decide +kernel
theorem dL_law_582 : decode cL_law 582 = .ok (.aload_n 2, 1) := by decide +kernel
theorem dL_law_583 : decode cL_law 583 = .ok (.invokevirtual 154, 3) := by decide +kernel
theorem dL_law_586 : decode cL_law 586 = .ok (.iload 6, 2) := by decide +kernel
theorem dL_law_588 : decode cL_law 588 = .ok (.if_icmp .eq 5, 3) := by decide +kernel
theorem dL_law_591 : decode cL_law 591 = .ok (.iconst 0, 1) := by decide +kernel
theorem dL_law_592 : decode cL_law 592 = .ok (.ireturn, 1) := by decide +kernel
theorem dL_law_593 : decode cL_law 593 = .ok (.iload 6, 2) := by decide +kernel
theorem dL_law_595 : decode cL_law 595 = .ok (.ifCond .ne 15, 3) := by decide +kernel
theorem dL_law_598 : decode cL_law 598 = .ok (.aload_n 3, 1) := by decide +kernel
theorem dL_law_599 : decode cL_law 599 = .ok (.iconst 0, 1) := by decide +kernel
theorem dL_law_600 : decode cL_law 600 = .ok (.laload, 1) := by decide +kernel
theorem dL_law_601 : decode cL_law 601 = .ok (.iload 7, 2) := by decide +kernel
theorem dL_law_603 : decode cL_law 603 = .ok (.i2l, 1) := by decide +kernel
theorem dL_law_604 : decode cL_law 604 = .ok (.lcmp, 1) := by decide +kernel
theorem dL_law_605 : decode cL_law 605 = .ok (.ifCond .eq 5, 3) := by decide +kernel
theorem dL_law_608 : decode cL_law 608 = .ok (.iconst 0, 1) := by decide +kernel
theorem dL_law_609 : decode cL_law 609 = .ok (.ireturn, 1) := by decide +kernel
theorem dL_law_610 : decode cL_law 610 = .ok (.goto 2251, 3) := by decide +kernel
theorem dL_law_613 : decode cL_law 613 = .ok (.aload_n 1, 1) := by decide +kernel
theorem dL_law_614 : decode cL_law 614 = .ok (.aload_n 0, 1) := by decide +kernel
theorem dL_law_615 : decode cL_law 615 = .ok (.iload 5, 2) := by decide +kernel
theorem dL_law_617 : decode cL_law 617 = .ok (.iconst 1, 1) := by decide +kernel
theorem dL_law_618 : decode cL_law 618 = .ok (.iadd, 1) := by decide +kernel
theorem dL_law_619 : decode cL_law 619 = .ok (.iaload, 1) := by decide +kernel
theorem dL_law_620 : decode cL_law 620 = .ok (.aload_n 0, 1) := by decide +kernel
theorem dL_law_621 : decode cL_law 621 = .ok (.iload 5, 2) := by decide +kernel
theorem dL_law_623 : decode cL_law 623 = .ok (.iconst 2, 1) := by decide +kernel
theorem dL_law_624 : decode cL_law 624 = .ok (.iadd, 1) := by decide +kernel
theorem dL_law_625 : decode cL_law 625 = .ok (.iaload, 1) := by decide +kernel
theorem dL_law_626 : decode cL_law 626 = .ok (.aload_n 3, 1) := by decide +kernel
theorem dL_law_627 : decode cL_law 627 = .ok (.invokestatic 180, 3) := by decide +kernel
theorem dL_law_630 : decode cL_law 630 = .ok (.istore 6, 2) := by decide +kernel
theorem dL_law_632 : decode cL_law 632 = .ok (.aload_n 2, 1) := by decide +kernel
theorem dL_law_633 : decode cL_law 633 = .ok (.aload_n 0, 1) := by decide +kernel
theorem dL_law_634 : decode cL_law 634 = .ok (.iload 5, 2) := by decide +kernel
theorem dL_law_636 : decode cL_law 636 = .ok (.iconst 1, 1) := by decide +kernel
theorem dL_law_637 : decode cL_law 637 = .ok (.iadd, 1) := by decide +kernel
theorem dL_law_638 : decode cL_law 638 = .ok (.iaload, 1) := by decide +kernel
theorem dL_law_639 : decode cL_law 639 = .ok (.aload_n 0, 1) := by decide +kernel
theorem dL_law_640 : decode cL_law 640 = .ok (.iload 5, 2) := by decide +kernel
theorem dL_law_642 : decode cL_law 642 = .ok (.iconst 2, 1) := by decide +kernel
theorem dL_law_643 : decode cL_law 643 = .ok (.iadd, 1) := by decide +kernel
theorem dL_law_644 : decode cL_law 644 = .ok (.iaload, 1) := by decide +kernel
theorem dL_law_645 : decode cL_law 645 = .ok (.invokevirtual 182, 3) := by decide +kernel
theorem dL_law_648 : decode cL_law 648 = .ok (.istore 7, 2) := by decide +kernel
theorem dL_law_650 : decode cL_law 650 = .ok (.aload_n 2, 1) := by decide +kernel
theorem dL_law_651 : decode cL_law 651 = .ok (.invokevirtual 154, 3) := by decide +kernel
theorem dL_law_654 : decode cL_law 654 = .ok (.iload 6, 2) := by decide +kernel
theorem dL_law_656 : decode cL_law 656 = .ok (.if_icmp .eq 5, 3) := by decide +kernel
theorem dL_law_659 : decode cL_law 659 = .ok (.iconst 0, 1) := by decide +kernel
theorem dL_law_660 : decode cL_law 660 = .ok (.ireturn, 1) := by decide +kernel
theorem dL_law_661 : decode cL_law 661 = .ok (.iload 6, 2) := by decide +kernel
theorem dL_law_663 : decode cL_law 663 = .ok (.ifCond .ne 15, 3) := by decide +kernel
theorem dL_law_666 : decode cL_law 666 = .ok (.aload_n 3, 1) := by decide +kernel
theorem dL_law_667 : decode cL_law 667 = .ok (.iconst 0, 1) := by decide +kernel
theorem dL_law_668 : decode cL_law 668 = .ok (.laload, 1) := by decide +kernel
theorem dL_law_669 : decode cL_law 669 = .ok (.iload 7, 2) := by decide +kernel
theorem dL_law_671 : decode cL_law 671 = .ok (.i2l, 1) := by decide +kernel
theorem dL_law_672 : decode cL_law 672 = .ok (.lcmp, 1) := by decide +kernel
theorem dL_law_673 : decode cL_law 673 = .ok (.ifCond .eq 5, 3) := by decide +kernel
theorem dL_law_676 : decode cL_law 676 = .ok (.iconst 0, 1) := by decide +kernel
theorem dL_law_677 : decode cL_law 677 = .ok (.ireturn, 1) := by decide +kernel
theorem dL_law_678 : decode cL_law 678 = .ok (.goto 2183, 3) := by decide +kernel
theorem dL_law_681 : decode cL_law 681 = .ok (.aload_n 1, 1) := by decide +kernel
theorem dL_law_682 : decode cL_law 682 = .ok (.aload_n 0, 1) := by decide +kernel
theorem dL_law_683 : decode cL_law 683 = .ok (.iload 5, 2) := by decide +kernel
theorem dL_law_685 : decode cL_law 685 = .ok (.iconst 1, 1) := by decide +kernel
theorem dL_law_686 : decode cL_law 686 = .ok (.iadd, 1) := by decide +kernel
theorem dL_law_687 : decode cL_law 687 = .ok (.iaload, 1) := by decide +kernel
theorem dL_law_688 : decode cL_law 688 = .ok (.ifCond .eq 7, 3) := by decide +kernel
theorem dL_law_691 : decode cL_law 691 = .ok (.iconst 1, 1) := by decide +kernel
theorem dL_law_692 : decode cL_law 692 = .ok (.goto 4, 3) := by decide +kernel
theorem dL_law_695 : decode cL_law 695 = .ok (.iconst 0, 1) := by decide +kernel
theorem dL_law_696 : decode cL_law 696 = .ok (.aload_n 3, 1) := by decide +kernel
theorem dL_law_697 : decode cL_law 697 = .ok (.invokestatic 183, 3) := by decide +kernel
theorem dL_law_700 : decode cL_law 700 = .ok (.istore 6, 2) := by decide +kernel
theorem dL_law_702 : decode cL_law 702 = .ok (.aload_n 2, 1) := by decide +kernel
theorem dL_law_703 : decode cL_law 703 = .ok (.aload_n 0, 1) := by decide +kernel
theorem dL_law_704 : decode cL_law 704 = .ok (.iload 5, 2) := by decide +kernel
theorem dL_law_706 : decode cL_law 706 = .ok (.iconst 1, 1) := by decide +kernel
theorem dL_law_707 : decode cL_law 707 = .ok (.iadd, 1) := by decide +kernel
theorem dL_law_708 : decode cL_law 708 = .ok (.iaload, 1) := by decide +kernel
theorem dL_law_709 : decode cL_law 709 = .ok (.ifCond .eq 7, 3) := by decide +kernel
theorem dL_law_712 : decode cL_law 712 = .ok (.iconst 1, 1) := by decide +kernel
theorem dL_law_713 : decode cL_law 713 = .ok (.goto 4, 3) := by decide +kernel
theorem dL_law_716 : decode cL_law 716 = .ok (.iconst 0, 1) := by decide +kernel
theorem dL_law_717 : decode cL_law 717 = .ok (.invokevirtual 186, 3) := by decide +kernel
theorem dL_law_720 : decode cL_law 720 = .ok (.istore 7, 2) := by decide +kernel
theorem dL_law_722 : decode cL_law 722 = .ok (.aload_n 2, 1) := by decide +kernel
theorem dL_law_723 : decode cL_law 723 = .ok (.invokevirtual 154, 3) := by decide +kernel
theorem dL_law_726 : decode cL_law 726 = .ok (.iload 6, 2) := by decide +kernel
theorem dL_law_728 : decode cL_law 728 = .ok (.if_icmp .eq 5, 3) := by decide +kernel
theorem dL_law_731 : decode cL_law 731 = .ok (.iconst 0, 1) := by decide +kernel
theorem dL_law_732 : decode cL_law 732 = .ok (.ireturn, 1) := by decide +kernel
theorem dL_law_733 : decode cL_law 733 = .ok (.iload 6, 2) := by decide +kernel
theorem dL_law_735 : decode cL_law 735 = .ok (.ifCond .ne 15, 3) := by decide +kernel
theorem dL_law_738 : decode cL_law 738 = .ok (.aload_n 3, 1) := by decide +kernel
theorem dL_law_739 : decode cL_law 739 = .ok (.iconst 0, 1) := by decide +kernel
theorem dL_law_740 : decode cL_law 740 = .ok (.laload, 1) := by decide +kernel
theorem dL_law_741 : decode cL_law 741 = .ok (.iload 7, 2) := by decide +kernel
theorem dL_law_743 : decode cL_law 743 = .ok (.i2l, 1) := by decide +kernel
theorem dL_law_744 : decode cL_law 744 = .ok (.lcmp, 1) := by decide +kernel
theorem dL_law_745 : decode cL_law 745 = .ok (.ifCond .eq 5, 3) := by decide +kernel
theorem dL_law_748 : decode cL_law 748 = .ok (.iconst 0, 1) := by decide +kernel
theorem dL_law_749 : decode cL_law 749 = .ok (.ireturn, 1) := by decide +kernel
theorem dL_law_750 : decode cL_law 750 = .ok (.goto 2111, 3) := by decide +kernel
theorem dL_law_753 : decode cL_law 753 = .ok (.aload_n 1, 1) := by decide +kernel
theorem dL_law_754 : decode cL_law 754 = .ok (.aload_n 0, 1) := by decide +kernel
theorem dL_law_755 : decode cL_law 755 = .ok (.iload 5, 2) := by decide +kernel
theorem dL_law_757 : decode cL_law 757 = .ok (.iconst 1, 1) := by decide +kernel
theorem dL_law_758 : decode cL_law 758 = .ok (.iadd, 1) := by decide +kernel
theorem dL_law_759 : decode cL_law 759 = .ok (.iaload, 1) := by decide +kernel
theorem dL_law_760 : decode cL_law 760 = .ok (.aload_n 3, 1) := by decide +kernel
theorem dL_law_761 : decode cL_law 761 = .ok (.invokestatic 187, 3) := by decide +kernel
theorem dL_law_764 : decode cL_law 764 = .ok (.istore 6, 2) := by decide +kernel
theorem dL_law_766 : decode cL_law 766 = .ok (.aload_n 2, 1) := by decide +kernel
theorem dL_law_767 : decode cL_law 767 = .ok (.aload_n 0, 1) := by decide +kernel
theorem dL_law_768 : decode cL_law 768 = .ok (.iload 5, 2) := by decide +kernel
theorem dL_law_770 : decode cL_law 770 = .ok (.iconst 1, 1) := by decide +kernel
theorem dL_law_771 : decode cL_law 771 = .ok (.iadd, 1) := by decide +kernel
theorem dL_law_772 : decode cL_law 772 = .ok (.iaload, 1) := by decide +kernel
theorem dL_law_773 : decode cL_law 773 = .ok (.invokevirtual 189, 3) := by decide +kernel
theorem dL_law_776 : decode cL_law 776 = .ok (.istore 7, 2) := by decide +kernel
theorem dL_law_778 : decode cL_law 778 = .ok (.aload_n 2, 1) := by decide +kernel
theorem dL_law_779 : decode cL_law 779 = .ok (.invokevirtual 154, 3) := by decide +kernel
theorem dL_law_782 : decode cL_law 782 = .ok (.iload 6, 2) := by decide +kernel
theorem dL_law_784 : decode cL_law 784 = .ok (.if_icmp .eq 5, 3) := by decide +kernel
theorem dL_law_787 : decode cL_law 787 = .ok (.iconst 0, 1) := by decide +kernel
theorem dL_law_788 : decode cL_law 788 = .ok (.ireturn, 1) := by decide +kernel
theorem dL_law_789 : decode cL_law 789 = .ok (.iload 6, 2) := by decide +kernel
theorem dL_law_791 : decode cL_law 791 = .ok (.ifCond .ne 15, 3) := by decide +kernel
theorem dL_law_794 : decode cL_law 794 = .ok (.aload_n 3, 1) := by decide +kernel
theorem dL_law_795 : decode cL_law 795 = .ok (.iconst 0, 1) := by decide +kernel
theorem dL_law_796 : decode cL_law 796 = .ok (.laload, 1) := by decide +kernel
theorem dL_law_797 : decode cL_law 797 = .ok (.iload 7, 2) := by decide +kernel
theorem dL_law_799 : decode cL_law 799 = .ok (.i2l, 1) := by decide +kernel
theorem dL_law_800 : decode cL_law 800 = .ok (.lcmp, 1) := by decide +kernel
theorem dL_law_801 : decode cL_law 801 = .ok (.ifCond .eq 5, 3) := by decide +kernel
theorem dL_law_804 : decode cL_law 804 = .ok (.iconst 0, 1) := by decide +kernel
theorem dL_law_805 : decode cL_law 805 = .ok (.ireturn, 1) := by decide +kernel
theorem dL_law_806 : decode cL_law 806 = .ok (.goto 2055, 3) := by decide +kernel
theorem dL_law_809 : decode cL_law 809 = .ok (.aload_n 1, 1) := by decide +kernel
theorem dL_law_810 : decode cL_law 810 = .ok (.aload_n 0, 1) := by decide +kernel
theorem dL_law_811 : decode cL_law 811 = .ok (.iload 5, 2) := by decide +kernel
theorem dL_law_813 : decode cL_law 813 = .ok (.iconst 1, 1) := by decide +kernel
theorem dL_law_814 : decode cL_law 814 = .ok (.iadd, 1) := by decide +kernel
theorem dL_law_815 : decode cL_law 815 = .ok (.iaload, 1) := by decide +kernel
theorem dL_law_816 : decode cL_law 816 = .ok (.aload_n 3, 1) := by decide +kernel
theorem dL_law_817 : decode cL_law 817 = .ok (.invokestatic 190, 3) := by decide +kernel
theorem dL_law_820 : decode cL_law 820 = .ok (.istore 6, 2) := by decide +kernel
theorem dL_law_822 : decode cL_law 822 = .ok (.aload_n 2, 1) := by decide +kernel
theorem dL_law_823 : decode cL_law 823 = .ok (.aload_n 0, 1) := by decide +kernel
theorem dL_law_824 : decode cL_law 824 = .ok (.iload 5, 2) := by decide +kernel
theorem dL_law_826 : decode cL_law 826 = .ok (.iconst 1, 1) := by decide +kernel
theorem dL_law_827 : decode cL_law 827 = .ok (.iadd, 1) := by decide +kernel
theorem dL_law_828 : decode cL_law 828 = .ok (.iaload, 1) := by decide +kernel
theorem dL_law_829 : decode cL_law 829 = .ok (.invokevirtual 192, 3) := by decide +kernel
theorem dL_law_832 : decode cL_law 832 = .ok (.istore 7, 2) := by decide +kernel
theorem dL_law_834 : decode cL_law 834 = .ok (.aload_n 2, 1) := by decide +kernel
theorem dL_law_835 : decode cL_law 835 = .ok (.invokevirtual 154, 3) := by decide +kernel
theorem dL_law_838 : decode cL_law 838 = .ok (.iload 6, 2) := by decide +kernel
theorem dL_law_840 : decode cL_law 840 = .ok (.if_icmp .eq 5, 3) := by decide +kernel
theorem dL_law_843 : decode cL_law 843 = .ok (.iconst 0, 1) := by decide +kernel
theorem dL_law_844 : decode cL_law 844 = .ok (.ireturn, 1) := by decide +kernel
theorem dL_law_845 : decode cL_law 845 = .ok (.iload 6, 2) := by decide +kernel
theorem dL_law_847 : decode cL_law 847 = .ok (.ifCond .ne 15, 3) := by decide +kernel
theorem dL_law_850 : decode cL_law 850 = .ok (.aload_n 3, 1) := by decide +kernel
theorem dL_law_851 : decode cL_law 851 = .ok (.iconst 0, 1) := by decide +kernel
theorem dL_law_852 : decode cL_law 852 = .ok (.laload, 1) := by decide +kernel
theorem dL_law_853 : decode cL_law 853 = .ok (.iload 7, 2) := by decide +kernel
theorem dL_law_855 : decode cL_law 855 = .ok (.i2l, 1) := by decide +kernel
theorem dL_law_856 : decode cL_law 856 = .ok (.lcmp, 1) := by decide +kernel
theorem dL_law_857 : decode cL_law 857 = .ok (.ifCond .eq 5, 3) := by decide +kernel
theorem dL_law_860 : decode cL_law 860 = .ok (.iconst 0, 1) := by decide +kernel
theorem dL_law_861 : decode cL_law 861 = .ok (.ireturn, 1) := by decide +kernel
theorem dL_law_862 : decode cL_law 862 = .ok (.goto 1999, 3) := by decide +kernel
theorem dL_law_865 : decode cL_law 865 = .ok (.aload_n 1, 1) := by decide +kernel
theorem dL_law_866 : decode cL_law 866 = .ok (.aload_n 0, 1) := by decide +kernel
theorem dL_law_867 : decode cL_law 867 = .ok (.iload 5, 2) := by decide +kernel
theorem dL_law_869 : decode cL_law 869 = .ok (.iconst 1, 1) := by decide +kernel
theorem dL_law_870 : decode cL_law 870 = .ok (.iadd, 1) := by decide +kernel
theorem dL_law_871 : decode cL_law 871 = .ok (.iaload, 1) := by decide +kernel
theorem dL_law_872 : decode cL_law 872 = .ok (.aload_n 3, 1) := by decide +kernel
theorem dL_law_873 : decode cL_law 873 = .ok (.invokestatic 193, 3) := by decide +kernel
theorem dL_law_876 : decode cL_law 876 = .ok (.istore 6, 2) := by decide +kernel
theorem dL_law_878 : decode cL_law 878 = .ok (.aload_n 2, 1) := by decide +kernel
theorem dL_law_879 : decode cL_law 879 = .ok (.aload_n 0, 1) := by decide +kernel
theorem dL_law_880 : decode cL_law 880 = .ok (.iload 5, 2) := by decide +kernel
theorem dL_law_882 : decode cL_law 882 = .ok (.iconst 1, 1) := by decide +kernel
theorem dL_law_883 : decode cL_law 883 = .ok (.iadd, 1) := by decide +kernel
theorem dL_law_884 : decode cL_law 884 = .ok (.iaload, 1) := by decide +kernel
theorem dL_law_885 : decode cL_law 885 = .ok (.invokevirtual 195, 3) := by decide +kernel
theorem dL_law_888 : decode cL_law 888 = .ok (.istore 7, 2) := by decide +kernel
theorem dL_law_890 : decode cL_law 890 = .ok (.aload_n 2, 1) := by decide +kernel
theorem dL_law_891 : decode cL_law 891 = .ok (.invokevirtual 154, 3) := by decide +kernel
theorem dL_law_894 : decode cL_law 894 = .ok (.iload 6, 2) := by decide +kernel
theorem dL_law_896 : decode cL_law 896 = .ok (.if_icmp .eq 5, 3) := by decide +kernel
theorem dL_law_899 : decode cL_law 899 = .ok (.iconst 0, 1) := by decide +kernel
theorem dL_law_900 : decode cL_law 900 = .ok (.ireturn, 1) := by decide +kernel
theorem dL_law_901 : decode cL_law 901 = .ok (.iload 6, 2) := by decide +kernel
theorem dL_law_903 : decode cL_law 903 = .ok (.ifCond .ne 15, 3) := by decide +kernel
theorem dL_law_906 : decode cL_law 906 = .ok (.aload_n 3, 1) := by decide +kernel
theorem dL_law_907 : decode cL_law 907 = .ok (.iconst 0, 1) := by decide +kernel
theorem dL_law_908 : decode cL_law 908 = .ok (.laload, 1) := by decide +kernel
theorem dL_law_909 : decode cL_law 909 = .ok (.iload 7, 2) := by decide +kernel
theorem dL_law_911 : decode cL_law 911 = .ok (.i2l, 1) := by decide +kernel
theorem dL_law_912 : decode cL_law 912 = .ok (.lcmp, 1) := by decide +kernel
theorem dL_law_913 : decode cL_law 913 = .ok (.ifCond .eq 5, 3) := by decide +kernel
theorem dL_law_916 : decode cL_law 916 = .ok (.iconst 0, 1) := by decide +kernel
theorem dL_law_917 : decode cL_law 917 = .ok (.ireturn, 1) := by decide +kernel
theorem dL_law_918 : decode cL_law 918 = .ok (.goto 1943, 3) := by decide +kernel
theorem dL_law_921 : decode cL_law 921 = .ok (.aload_n 1, 1) := by decide +kernel
theorem dL_law_922 : decode cL_law 922 = .ok (.aload_n 0, 1) := by decide +kernel
theorem dL_law_923 : decode cL_law 923 = .ok (.iload 5, 2) := by decide +kernel
theorem dL_law_925 : decode cL_law 925 = .ok (.iconst 1, 1) := by decide +kernel
theorem dL_law_926 : decode cL_law 926 = .ok (.iadd, 1) := by decide +kernel
theorem dL_law_927 : decode cL_law 927 = .ok (.iaload, 1) := by decide +kernel
theorem dL_law_928 : decode cL_law 928 = .ok (.aload_n 3, 1) := by decide +kernel
theorem dL_law_929 : decode cL_law 929 = .ok (.invokestatic 196, 3) := by decide +kernel
theorem dL_law_932 : decode cL_law 932 = .ok (.istore 6, 2) := by decide +kernel
theorem dL_law_934 : decode cL_law 934 = .ok (.aload_n 2, 1) := by decide +kernel
theorem dL_law_935 : decode cL_law 935 = .ok (.aload_n 0, 1) := by decide +kernel
theorem dL_law_936 : decode cL_law 936 = .ok (.iload 5, 2) := by decide +kernel
theorem dL_law_938 : decode cL_law 938 = .ok (.iconst 1, 1) := by decide +kernel
theorem dL_law_939 : decode cL_law 939 = .ok (.iadd, 1) := by decide +kernel
theorem dL_law_940 : decode cL_law 940 = .ok (.iaload, 1) := by decide +kernel
theorem dL_law_941 : decode cL_law 941 = .ok (.invokevirtual 198, 3) := by decide +kernel
theorem dL_law_944 : decode cL_law 944 = .ok (.istore 7, 2) := by decide +kernel
theorem dL_law_946 : decode cL_law 946 = .ok (.aload_n 2, 1) := by decide +kernel
theorem dL_law_947 : decode cL_law 947 = .ok (.invokevirtual 154, 3) := by decide +kernel
theorem dL_law_950 : decode cL_law 950 = .ok (.iload 6, 2) := by decide +kernel
theorem dL_law_952 : decode cL_law 952 = .ok (.if_icmp .eq 5, 3) := by decide +kernel
theorem dL_law_955 : decode cL_law 955 = .ok (.iconst 0, 1) := by decide +kernel
theorem dL_law_956 : decode cL_law 956 = .ok (.ireturn, 1) := by decide +kernel
theorem dL_law_957 : decode cL_law 957 = .ok (.iload 6, 2) := by decide +kernel
theorem dL_law_959 : decode cL_law 959 = .ok (.ifCond .ne 15, 3) := by decide +kernel
theorem dL_law_962 : decode cL_law 962 = .ok (.aload_n 3, 1) := by decide +kernel
theorem dL_law_963 : decode cL_law 963 = .ok (.iconst 0, 1) := by decide +kernel
theorem dL_law_964 : decode cL_law 964 = .ok (.laload, 1) := by decide +kernel
theorem dL_law_965 : decode cL_law 965 = .ok (.iload 7, 2) := by decide +kernel
theorem dL_law_967 : decode cL_law 967 = .ok (.i2l, 1) := by decide +kernel
theorem dL_law_968 : decode cL_law 968 = .ok (.lcmp, 1) := by decide +kernel
theorem dL_law_969 : decode cL_law 969 = .ok (.ifCond .eq 5, 3) := by decide +kernel
theorem dL_law_972 : decode cL_law 972 = .ok (.iconst 0, 1) := by decide +kernel
theorem dL_law_973 : decode cL_law 973 = .ok (.ireturn, 1) := by decide +kernel
theorem dL_law_974 : decode cL_law 974 = .ok (.goto 1887, 3) := by decide +kernel
theorem dL_law_977 : decode cL_law 977 = .ok (.aload_n 1, 1) := by decide +kernel
theorem dL_law_978 : decode cL_law 978 = .ok (.aload_n 0, 1) := by decide +kernel
theorem dL_law_979 : decode cL_law 979 = .ok (.iload 5, 2) := by decide +kernel
theorem dL_law_981 : decode cL_law 981 = .ok (.iconst 1, 1) := by decide +kernel
theorem dL_law_982 : decode cL_law 982 = .ok (.iadd, 1) := by decide +kernel
theorem dL_law_983 : decode cL_law 983 = .ok (.iaload, 1) := by decide +kernel
theorem dL_law_984 : decode cL_law 984 = .ok (.aload_n 0, 1) := by decide +kernel
theorem dL_law_985 : decode cL_law 985 = .ok (.iload 5, 2) := by decide +kernel
theorem dL_law_987 : decode cL_law 987 = .ok (.iconst 2, 1) := by decide +kernel
theorem dL_law_988 : decode cL_law 988 = .ok (.iadd, 1) := by decide +kernel
theorem dL_law_989 : decode cL_law 989 = .ok (.iaload, 1) := by decide +kernel
theorem dL_law_990 : decode cL_law 990 = .ok (.aload_n 3, 1) := by decide +kernel
theorem dL_law_991 : decode cL_law 991 = .ok (.invokestatic 199, 3) := by decide +kernel
theorem dL_law_994 : decode cL_law 994 = .ok (.istore 6, 2) := by decide +kernel
theorem dL_law_996 : decode cL_law 996 = .ok (.aload_n 2, 1) := by decide +kernel
theorem dL_law_997 : decode cL_law 997 = .ok (.aload_n 0, 1) := by decide +kernel
theorem dL_law_998 : decode cL_law 998 = .ok (.iload 5, 2) := by decide +kernel
theorem dL_law_1000 : decode cL_law 1000 = .ok (.iconst 1, 1) := by decide +kernel
theorem dL_law_1001 : decode cL_law 1001 = .ok (.iadd, 1) := by decide +kernel
theorem dL_law_1002 : decode cL_law 1002 = .ok (.iaload, 1) := by decide +kernel
theorem dL_law_1003 : decode cL_law 1003 = .ok (.aload_n 0, 1) := by decide +kernel
theorem dL_law_1004 : decode cL_law 1004 = .ok (.iload 5, 2) := by decide +kernel
theorem dL_law_1006 : decode cL_law 1006 = .ok (.iconst 2, 1) := by decide +kernel
theorem dL_law_1007 : decode cL_law 1007 = .ok (.iadd, 1) := by decide +kernel
theorem dL_law_1008 : decode cL_law 1008 = .ok (.iaload, 1) := by decide +kernel
theorem dL_law_1009 : decode cL_law 1009 = .ok (.invokevirtual 201, 3) := by decide +kernel
theorem dL_law_1012 : decode cL_law 1012 = .ok (.istore 7, 2) := by decide +kernel
theorem dL_law_1014 : decode cL_law 1014 = .ok (.aload_n 2, 1) := by decide +kernel
theorem dL_law_1015 : decode cL_law 1015 = .ok (.invokevirtual 154, 3) := by decide +kernel
theorem dL_law_1018 : decode cL_law 1018 = .ok (.iload 6, 2) := by decide +kernel
theorem dL_law_1020 : decode cL_law 1020 = .ok (.if_icmp .eq 5, 3) := by decide +kernel
theorem dL_law_1023 : decode cL_law 1023 = .ok (.iconst 0, 1) := by decide +kernel
theorem dL_law_1024 : decode cL_law 1024 = .ok (.ireturn, 1) := by decide +kernel
theorem dL_law_1025 : decode cL_law 1025 = .ok (.iload 6, 2) := by decide +kernel
theorem dL_law_1027 : decode cL_law 1027 = .ok (.ifCond .ne 15, 3) := by decide +kernel
theorem dL_law_1030 : decode cL_law 1030 = .ok (.aload_n 3, 1) := by decide +kernel
theorem dL_law_1031 : decode cL_law 1031 = .ok (.iconst 0, 1) := by decide +kernel
theorem dL_law_1032 : decode cL_law 1032 = .ok (.laload, 1) := by decide +kernel
theorem dL_law_1033 : decode cL_law 1033 = .ok (.iload 7, 2) := by decide +kernel
theorem dL_law_1035 : decode cL_law 1035 = .ok (.i2l, 1) := by decide +kernel
theorem dL_law_1036 : decode cL_law 1036 = .ok (.lcmp, 1) := by decide +kernel
theorem dL_law_1037 : decode cL_law 1037 = .ok (.ifCond .eq 5, 3) := by decide +kernel
theorem dL_law_1040 : decode cL_law 1040 = .ok (.iconst 0, 1) := by decide +kernel
theorem dL_law_1041 : decode cL_law 1041 = .ok (.ireturn, 1) := by decide +kernel
theorem dL_law_1042 : decode cL_law 1042 = .ok (.goto 1819, 3) := by decide +kernel
theorem dL_law_1045 : decode cL_law 1045 = .ok (.aload_n 1, 1) := by decide +kernel
theorem dL_law_1046 : decode cL_law 1046 = .ok (.aload_n 0, 1) := by decide +kernel
theorem dL_law_1047 : decode cL_law 1047 = .ok (.iload 5, 2) := by decide +kernel
theorem dL_law_1049 : decode cL_law 1049 = .ok (.iconst 1, 1) := by decide +kernel
theorem dL_law_1050 : decode cL_law 1050 = .ok (.iadd, 1) := by decide +kernel
theorem dL_law_1051 : decode cL_law 1051 = .ok (.iaload, 1) := by decide +kernel
theorem dL_law_1052 : decode cL_law 1052 = .ok (.aload_n 0, 1) := by decide +kernel
theorem dL_law_1053 : decode cL_law 1053 = .ok (.iload 5, 2) := by decide +kernel
theorem dL_law_1055 : decode cL_law 1055 = .ok (.iconst 2, 1) := by decide +kernel
theorem dL_law_1056 : decode cL_law 1056 = .ok (.iadd, 1) := by decide +kernel
theorem dL_law_1057 : decode cL_law 1057 = .ok (.iaload, 1) := by decide +kernel
theorem dL_law_1058 : decode cL_law 1058 = .ok (.aload_n 3, 1) := by decide +kernel
theorem dL_law_1059 : decode cL_law 1059 = .ok (.invokestatic 202, 3) := by decide +kernel
theorem dL_law_1062 : decode cL_law 1062 = .ok (.istore 6, 2) := by decide +kernel
theorem dL_law_1064 : decode cL_law 1064 = .ok (.aload_n 2, 1) := by decide +kernel
theorem dL_law_1065 : decode cL_law 1065 = .ok (.aload_n 0, 1) := by decide +kernel
theorem dL_law_1066 : decode cL_law 1066 = .ok (.iload 5, 2) := by decide +kernel
theorem dL_law_1068 : decode cL_law 1068 = .ok (.iconst 1, 1) := by decide +kernel
theorem dL_law_1069 : decode cL_law 1069 = .ok (.iadd, 1) := by decide +kernel
theorem dL_law_1070 : decode cL_law 1070 = .ok (.iaload, 1) := by decide +kernel
theorem dL_law_1071 : decode cL_law 1071 = .ok (.aload_n 0, 1) := by decide +kernel
theorem dL_law_1072 : decode cL_law 1072 = .ok (.iload 5, 2) := by decide +kernel
theorem dL_law_1074 : decode cL_law 1074 = .ok (.iconst 2, 1) := by decide +kernel
theorem dL_law_1075 : decode cL_law 1075 = .ok (.iadd, 1) := by decide +kernel
theorem dL_law_1076 : decode cL_law 1076 = .ok (.iaload, 1) := by decide +kernel
theorem dL_law_1077 : decode cL_law 1077 = .ok (.invokevirtual 204, 3) := by decide +kernel
theorem dL_law_1080 : decode cL_law 1080 = .ok (.istore 7, 2) := by decide +kernel
theorem dL_law_1082 : decode cL_law 1082 = .ok (.aload_n 2, 1) := by decide +kernel
theorem dL_law_1083 : decode cL_law 1083 = .ok (.invokevirtual 154, 3) := by decide +kernel
theorem dL_law_1086 : decode cL_law 1086 = .ok (.iload 6, 2) := by decide +kernel
theorem dL_law_1088 : decode cL_law 1088 = .ok (.if_icmp .eq 5, 3) := by decide +kernel
theorem dL_law_1091 : decode cL_law 1091 = .ok (.iconst 0, 1) := by decide +kernel
theorem dL_law_1092 : decode cL_law 1092 = .ok (.ireturn, 1) := by decide +kernel
theorem dL_law_1093 : decode cL_law 1093 = .ok (.iload 6, 2) := by decide +kernel
theorem dL_law_1095 : decode cL_law 1095 = .ok (.ifCond .ne 15, 3) := by decide +kernel
theorem dL_law_1098 : decode cL_law 1098 = .ok (.aload_n 3, 1) := by decide +kernel
theorem dL_law_1099 : decode cL_law 1099 = .ok (.iconst 0, 1) := by decide +kernel
theorem dL_law_1100 : decode cL_law 1100 = .ok (.laload, 1) := by decide +kernel
theorem dL_law_1101 : decode cL_law 1101 = .ok (.iload 7, 2) := by decide +kernel
theorem dL_law_1103 : decode cL_law 1103 = .ok (.i2l, 1) := by decide +kernel
theorem dL_law_1104 : decode cL_law 1104 = .ok (.lcmp, 1) := by decide +kernel
theorem dL_law_1105 : decode cL_law 1105 = .ok (.ifCond .eq 5, 3) := by decide +kernel
theorem dL_law_1108 : decode cL_law 1108 = .ok (.iconst 0, 1) := by decide +kernel
theorem dL_law_1109 : decode cL_law 1109 = .ok (.ireturn, 1) := by decide +kernel
theorem dL_law_1110 : decode cL_law 1110 = .ok (.goto 1751, 3) := by decide +kernel
theorem dL_law_1113 : decode cL_law 1113 = .ok (.aload_n 1, 1) := by decide +kernel
theorem dL_law_1114 : decode cL_law 1114 = .ok (.aload_n 0, 1) := by decide +kernel
theorem dL_law_1115 : decode cL_law 1115 = .ok (.iload 5, 2) := by decide +kernel
theorem dL_law_1117 : decode cL_law 1117 = .ok (.iconst 1, 1) := by decide +kernel
theorem dL_law_1118 : decode cL_law 1118 = .ok (.iadd, 1) := by decide +kernel
theorem dL_law_1119 : decode cL_law 1119 = .ok (.iaload, 1) := by decide +kernel
theorem dL_law_1120 : decode cL_law 1120 = .ok (.aload_n 0, 1) := by decide +kernel
theorem dL_law_1121 : decode cL_law 1121 = .ok (.iload 5, 2) := by decide +kernel
theorem dL_law_1123 : decode cL_law 1123 = .ok (.iconst 2, 1) := by decide +kernel
theorem dL_law_1124 : decode cL_law 1124 = .ok (.iadd, 1) := by decide +kernel
theorem dL_law_1125 : decode cL_law 1125 = .ok (.iaload, 1) := by decide +kernel
theorem dL_law_1126 : decode cL_law 1126 = .ok (.aload_n 0, 1) := by decide +kernel
theorem dL_law_1127 : decode cL_law 1127 = .ok (.iload 5, 2) := by decide +kernel
theorem dL_law_1129 : decode cL_law 1129 = .ok (.iconst 3, 1) := by decide +kernel
theorem dL_law_1130 : decode cL_law 1130 = .ok (.iadd, 1) := by decide +kernel
theorem dL_law_1131 : decode cL_law 1131 = .ok (.iaload, 1) := by decide +kernel
theorem dL_law_1132 : decode cL_law 1132 = .ok (.aload_n 3, 1) := by decide +kernel
theorem dL_law_1133 : decode cL_law 1133 = .ok (.invokestatic 205, 3) := by decide +kernel
theorem dL_law_1136 : decode cL_law 1136 = .ok (.istore 6, 2) := by decide +kernel
theorem dL_law_1138 : decode cL_law 1138 = .ok (.aload_n 2, 1) := by decide +kernel
theorem dL_law_1139 : decode cL_law 1139 = .ok (.aload_n 0, 1) := by decide +kernel
theorem dL_law_1140 : decode cL_law 1140 = .ok (.iload 5, 2) := by decide +kernel
theorem dL_law_1142 : decode cL_law 1142 = .ok (.iconst 1, 1) := by decide +kernel
theorem dL_law_1143 : decode cL_law 1143 = .ok (.iadd, 1) := by decide +kernel
theorem dL_law_1144 : decode cL_law 1144 = .ok (.iaload, 1) := by decide +kernel
theorem dL_law_1145 : decode cL_law 1145 = .ok (.aload_n 0, 1) := by decide +kernel
theorem dL_law_1146 : decode cL_law 1146 = .ok (.iload 5, 2) := by decide +kernel
theorem dL_law_1148 : decode cL_law 1148 = .ok (.iconst 2, 1) := by decide +kernel
theorem dL_law_1149 : decode cL_law 1149 = .ok (.iadd, 1) := by decide +kernel
theorem dL_law_1150 : decode cL_law 1150 = .ok (.iaload, 1) := by decide +kernel
theorem dL_law_1151 : decode cL_law 1151 = .ok (.aload_n 0, 1) := by decide +kernel
theorem dL_law_1152 : decode cL_law 1152 = .ok (.iload 5, 2) := by decide +kernel
theorem dL_law_1154 : decode cL_law 1154 = .ok (.iconst 3, 1) := by decide +kernel
theorem dL_law_1155 : decode cL_law 1155 = .ok (.iadd, 1) := by decide +kernel
theorem dL_law_1156 : decode cL_law 1156 = .ok (.iaload, 1) := by decide +kernel
theorem dL_law_1157 : decode cL_law 1157 = .ok (.invokevirtual 208, 3) := by decide +kernel
theorem dL_law_1160 : decode cL_law 1160 = .ok (.istore 7, 2) := by decide +kernel
theorem dL_law_1162 : decode cL_law 1162 = .ok (.aload_n 2, 1) := by decide +kernel
theorem dL_law_1163 : decode cL_law 1163 = .ok (.invokevirtual 154, 3) := by decide +kernel
theorem dL_law_1166 : decode cL_law 1166 = .ok (.iload 6, 2) := by decide +kernel
theorem dL_law_1168 : decode cL_law 1168 = .ok (.if_icmp .eq 5, 3) := by decide +kernel
theorem dL_law_1171 : decode cL_law 1171 = .ok (.iconst 0, 1) := by decide +kernel
theorem dL_law_1172 : decode cL_law 1172 = .ok (.ireturn, 1) := by decide +kernel
theorem dL_law_1173 : decode cL_law 1173 = .ok (.iload 6, 2) := by decide +kernel
theorem dL_law_1175 : decode cL_law 1175 = .ok (.ifCond .ne 15, 3) := by decide +kernel
theorem dL_law_1178 : decode cL_law 1178 = .ok (.aload_n 3, 1) := by decide +kernel
theorem dL_law_1179 : decode cL_law 1179 = .ok (.iconst 0, 1) := by decide +kernel
theorem dL_law_1180 : decode cL_law 1180 = .ok (.laload, 1) := by decide +kernel
theorem dL_law_1181 : decode cL_law 1181 = .ok (.iload 7, 2) := by decide +kernel
theorem dL_law_1183 : decode cL_law 1183 = .ok (.i2l, 1) := by decide +kernel
theorem dL_law_1184 : decode cL_law 1184 = .ok (.lcmp, 1) := by decide +kernel
theorem dL_law_1185 : decode cL_law 1185 = .ok (.ifCond .eq 5, 3) := by decide +kernel
theorem dL_law_1188 : decode cL_law 1188 = .ok (.iconst 0, 1) := by decide +kernel
theorem dL_law_1189 : decode cL_law 1189 = .ok (.ireturn, 1) := by decide +kernel
theorem dL_law_1190 : decode cL_law 1190 = .ok (.goto 1671, 3) := by decide +kernel
theorem dL_law_1193 : decode cL_law 1193 = .ok (.aload_n 1, 1) := by decide +kernel
theorem dL_law_1194 : decode cL_law 1194 = .ok (.aload_n 0, 1) := by decide +kernel
theorem dL_law_1195 : decode cL_law 1195 = .ok (.iload 5, 2) := by decide +kernel
theorem dL_law_1197 : decode cL_law 1197 = .ok (.iconst 1, 1) := by decide +kernel
theorem dL_law_1198 : decode cL_law 1198 = .ok (.iadd, 1) := by decide +kernel
theorem dL_law_1199 : decode cL_law 1199 = .ok (.iaload, 1) := by decide +kernel
theorem dL_law_1200 : decode cL_law 1200 = .ok (.aload_n 0, 1) := by decide +kernel
theorem dL_law_1201 : decode cL_law 1201 = .ok (.iload 5, 2) := by decide +kernel
theorem dL_law_1203 : decode cL_law 1203 = .ok (.iconst 2, 1) := by decide +kernel
theorem dL_law_1204 : decode cL_law 1204 = .ok (.iadd, 1) := by decide +kernel
theorem dL_law_1205 : decode cL_law 1205 = .ok (.iaload, 1) := by decide +kernel
theorem dL_law_1206 : decode cL_law 1206 = .ok (.aload_n 3, 1) := by decide +kernel
theorem dL_law_1207 : decode cL_law 1207 = .ok (.invokestatic 209, 3) := by decide +kernel
theorem dL_law_1210 : decode cL_law 1210 = .ok (.istore 6, 2) := by decide +kernel
theorem dL_law_1212 : decode cL_law 1212 = .ok (.aload_n 2, 1) := by decide +kernel
theorem dL_law_1213 : decode cL_law 1213 = .ok (.aload_n 0, 1) := by decide +kernel
theorem dL_law_1214 : decode cL_law 1214 = .ok (.iload 5, 2) := by decide +kernel
theorem dL_law_1216 : decode cL_law 1216 = .ok (.iconst 1, 1) := by decide +kernel
theorem dL_law_1217 : decode cL_law 1217 = .ok (.iadd, 1) := by decide +kernel
theorem dL_law_1218 : decode cL_law 1218 = .ok (.iaload, 1) := by decide +kernel
theorem dL_law_1219 : decode cL_law 1219 = .ok (.aload_n 0, 1) := by decide +kernel
theorem dL_law_1220 : decode cL_law 1220 = .ok (.iload 5, 2) := by decide +kernel
theorem dL_law_1222 : decode cL_law 1222 = .ok (.iconst 2, 1) := by decide +kernel
theorem dL_law_1223 : decode cL_law 1223 = .ok (.iadd, 1) := by decide +kernel
theorem dL_law_1224 : decode cL_law 1224 = .ok (.iaload, 1) := by decide +kernel
theorem dL_law_1225 : decode cL_law 1225 = .ok (.invokevirtual 211, 3) := by decide +kernel
theorem dL_law_1228 : decode cL_law 1228 = .ok (.istore 7, 2) := by decide +kernel
theorem dL_law_1230 : decode cL_law 1230 = .ok (.aload_n 2, 1) := by decide +kernel
theorem dL_law_1231 : decode cL_law 1231 = .ok (.invokevirtual 154, 3) := by decide +kernel
theorem dL_law_1234 : decode cL_law 1234 = .ok (.iload 6, 2) := by decide +kernel
theorem dL_law_1236 : decode cL_law 1236 = .ok (.if_icmp .eq 5, 3) := by decide +kernel
theorem dL_law_1239 : decode cL_law 1239 = .ok (.iconst 0, 1) := by decide +kernel
theorem dL_law_1240 : decode cL_law 1240 = .ok (.ireturn, 1) := by decide +kernel
theorem dL_law_1241 : decode cL_law 1241 = .ok (.iload 6, 2) := by decide +kernel
theorem dL_law_1243 : decode cL_law 1243 = .ok (.ifCond .ne 15, 3) := by decide +kernel
theorem dL_law_1246 : decode cL_law 1246 = .ok (.aload_n 3, 1) := by decide +kernel
theorem dL_law_1247 : decode cL_law 1247 = .ok (.iconst 0, 1) := by decide +kernel
theorem dL_law_1248 : decode cL_law 1248 = .ok (.laload, 1) := by decide +kernel
theorem dL_law_1249 : decode cL_law 1249 = .ok (.iload 7, 2) := by decide +kernel
theorem dL_law_1251 : decode cL_law 1251 = .ok (.i2l, 1) := by decide +kernel
theorem dL_law_1252 : decode cL_law 1252 = .ok (.lcmp, 1) := by decide +kernel
theorem dL_law_1253 : decode cL_law 1253 = .ok (.ifCond .eq 5, 3) := by decide +kernel
theorem dL_law_1256 : decode cL_law 1256 = .ok (.iconst 0, 1) := by decide +kernel
theorem dL_law_1257 : decode cL_law 1257 = .ok (.ireturn, 1) := by decide +kernel
theorem dL_law_1258 : decode cL_law 1258 = .ok (.goto 1603, 3) := by decide +kernel
theorem dL_law_1261 : decode cL_law 1261 = .ok (.aload_n 1, 1) := by decide +kernel
theorem dL_law_1262 : decode cL_law 1262 = .ok (.aload_n 0, 1) := by decide +kernel
theorem dL_law_1263 : decode cL_law 1263 = .ok (.iload 5, 2) := by decide +kernel
theorem dL_law_1265 : decode cL_law 1265 = .ok (.iconst 1, 1) := by decide +kernel
theorem dL_law_1266 : decode cL_law 1266 = .ok (.iadd, 1) := by decide +kernel
theorem dL_law_1267 : decode cL_law 1267 = .ok (.iaload, 1) := by decide +kernel
theorem dL_law_1268 : decode cL_law 1268 = .ok (.aload_n 3, 1) := by decide +kernel
theorem dL_law_1269 : decode cL_law 1269 = .ok (.invokestatic 212, 3) := by decide +kernel
theorem dL_law_1272 : decode cL_law 1272 = .ok (.istore 6, 2) := by decide +kernel
theorem dL_law_1274 : decode cL_law 1274 = .ok (.aload_n 2, 1) := by decide +kernel
theorem dL_law_1275 : decode cL_law 1275 = .ok (.aload_n 0, 1) := by decide +kernel
theorem dL_law_1276 : decode cL_law 1276 = .ok (.iload 5, 2) := by decide +kernel
theorem dL_law_1278 : decode cL_law 1278 = .ok (.iconst 1, 1) := by decide +kernel
theorem dL_law_1279 : decode cL_law 1279 = .ok (.iadd, 1) := by decide +kernel
theorem dL_law_1280 : decode cL_law 1280 = .ok (.iaload, 1) := by decide +kernel
theorem dL_law_1281 : decode cL_law 1281 = .ok (.invokevirtual 214, 3) := by decide +kernel
theorem dL_law_1284 : decode cL_law 1284 = .ok (.istore 7, 2) := by decide +kernel
theorem dL_law_1286 : decode cL_law 1286 = .ok (.aload_n 2, 1) := by decide +kernel
theorem dL_law_1287 : decode cL_law 1287 = .ok (.invokevirtual 154, 3) := by decide +kernel
theorem dL_law_1290 : decode cL_law 1290 = .ok (.iload 6, 2) := by decide +kernel
theorem dL_law_1292 : decode cL_law 1292 = .ok (.if_icmp .eq 5, 3) := by decide +kernel
theorem dL_law_1295 : decode cL_law 1295 = .ok (.iconst 0, 1) := by decide +kernel
theorem dL_law_1296 : decode cL_law 1296 = .ok (.ireturn, 1) := by decide +kernel
theorem dL_law_1297 : decode cL_law 1297 = .ok (.iload 6, 2) := by decide +kernel
theorem dL_law_1299 : decode cL_law 1299 = .ok (.ifCond .ne 15, 3) := by decide +kernel
theorem dL_law_1302 : decode cL_law 1302 = .ok (.aload_n 3, 1) := by decide +kernel
theorem dL_law_1303 : decode cL_law 1303 = .ok (.iconst 0, 1) := by decide +kernel
theorem dL_law_1304 : decode cL_law 1304 = .ok (.laload, 1) := by decide +kernel
theorem dL_law_1305 : decode cL_law 1305 = .ok (.iload 7, 2) := by decide +kernel
theorem dL_law_1307 : decode cL_law 1307 = .ok (.i2l, 1) := by decide +kernel
theorem dL_law_1308 : decode cL_law 1308 = .ok (.lcmp, 1) := by decide +kernel
theorem dL_law_1309 : decode cL_law 1309 = .ok (.ifCond .eq 5, 3) := by decide +kernel
theorem dL_law_1312 : decode cL_law 1312 = .ok (.iconst 0, 1) := by decide +kernel
theorem dL_law_1313 : decode cL_law 1313 = .ok (.ireturn, 1) := by decide +kernel
theorem dL_law_1314 : decode cL_law 1314 = .ok (.goto 1547, 3) := by decide +kernel
theorem dL_law_1317 : decode cL_law 1317 = .ok (.aload_n 1, 1) := by decide +kernel
theorem dL_law_1318 : decode cL_law 1318 = .ok (.aload_n 0, 1) := by decide +kernel
theorem dL_law_1319 : decode cL_law 1319 = .ok (.iload 5, 2) := by decide +kernel
theorem dL_law_1321 : decode cL_law 1321 = .ok (.iconst 1, 1) := by decide +kernel
theorem dL_law_1322 : decode cL_law 1322 = .ok (.iadd, 1) := by decide +kernel
theorem dL_law_1323 : decode cL_law 1323 = .ok (.iaload, 1) := by decide +kernel
theorem dL_law_1324 : decode cL_law 1324 = .ok (.aload_n 3, 1) := by decide +kernel
theorem dL_law_1325 : decode cL_law 1325 = .ok (.invokestatic 215, 3) := by decide +kernel
theorem dL_law_1328 : decode cL_law 1328 = .ok (.istore 6, 2) := by decide +kernel
theorem dL_law_1330 : decode cL_law 1330 = .ok (.aload_n 2, 1) := by decide +kernel
theorem dL_law_1331 : decode cL_law 1331 = .ok (.aload_n 0, 1) := by decide +kernel
theorem dL_law_1332 : decode cL_law 1332 = .ok (.iload 5, 2) := by decide +kernel
theorem dL_law_1334 : decode cL_law 1334 = .ok (.iconst 1, 1) := by decide +kernel
theorem dL_law_1335 : decode cL_law 1335 = .ok (.iadd, 1) := by decide +kernel
theorem dL_law_1336 : decode cL_law 1336 = .ok (.iaload, 1) := by decide +kernel
theorem dL_law_1337 : decode cL_law 1337 = .ok (.invokevirtual 217, 3) := by decide +kernel
theorem dL_law_1340 : decode cL_law 1340 = .ok (.istore 7, 2) := by decide +kernel
theorem dL_law_1342 : decode cL_law 1342 = .ok (.aload_n 2, 1) := by decide +kernel
theorem dL_law_1343 : decode cL_law 1343 = .ok (.invokevirtual 154, 3) := by decide +kernel
theorem dL_law_1346 : decode cL_law 1346 = .ok (.iload 6, 2) := by decide +kernel
theorem dL_law_1348 : decode cL_law 1348 = .ok (.if_icmp .eq 5, 3) := by decide +kernel
theorem dL_law_1351 : decode cL_law 1351 = .ok (.iconst 0, 1) := by decide +kernel
theorem dL_law_1352 : decode cL_law 1352 = .ok (.ireturn, 1) := by decide +kernel
theorem dL_law_1353 : decode cL_law 1353 = .ok (.iload 6, 2) := by decide +kernel
theorem dL_law_1355 : decode cL_law 1355 = .ok (.ifCond .ne 15, 3) := by decide +kernel
theorem dL_law_1358 : decode cL_law 1358 = .ok (.aload_n 3, 1) := by decide +kernel
theorem dL_law_1359 : decode cL_law 1359 = .ok (.iconst 0, 1) := by decide +kernel
theorem dL_law_1360 : decode cL_law 1360 = .ok (.laload, 1) := by decide +kernel
theorem dL_law_1361 : decode cL_law 1361 = .ok (.iload 7, 2) := by decide +kernel
theorem dL_law_1363 : decode cL_law 1363 = .ok (.i2l, 1) := by decide +kernel
theorem dL_law_1364 : decode cL_law 1364 = .ok (.lcmp, 1) := by decide +kernel
theorem dL_law_1365 : decode cL_law 1365 = .ok (.ifCond .eq 5, 3) := by decide +kernel
theorem dL_law_1368 : decode cL_law 1368 = .ok (.iconst 0, 1) := by decide +kernel
theorem dL_law_1369 : decode cL_law 1369 = .ok (.ireturn, 1) := by decide +kernel
theorem dL_law_1370 : decode cL_law 1370 = .ok (.goto 1491, 3) := by decide +kernel
theorem dL_law_1373 : decode cL_law 1373 = .ok (.aload_n 1, 1) := by decide +kernel
theorem dL_law_1374 : decode cL_law 1374 = .ok (.aload_n 0, 1) := by decide +kernel
theorem dL_law_1375 : decode cL_law 1375 = .ok (.iload 5, 2) := by decide +kernel
theorem dL_law_1377 : decode cL_law 1377 = .ok (.iconst 1, 1) := by decide +kernel
theorem dL_law_1378 : decode cL_law 1378 = .ok (.iadd, 1) := by decide +kernel
theorem dL_law_1379 : decode cL_law 1379 = .ok (.iaload, 1) := by decide +kernel
theorem dL_law_1380 : decode cL_law 1380 = .ok (.aload_n 3, 1) := by decide +kernel
theorem dL_law_1381 : decode cL_law 1381 = .ok (.invokestatic 218, 3) := by decide +kernel
theorem dL_law_1384 : decode cL_law 1384 = .ok (.istore 6, 2) := by decide +kernel
theorem dL_law_1386 : decode cL_law 1386 = .ok (.aload_n 2, 1) := by decide +kernel
theorem dL_law_1387 : decode cL_law 1387 = .ok (.aload_n 0, 1) := by decide +kernel
theorem dL_law_1388 : decode cL_law 1388 = .ok (.iload 5, 2) := by decide +kernel
theorem dL_law_1390 : decode cL_law 1390 = .ok (.iconst 1, 1) := by decide +kernel
theorem dL_law_1391 : decode cL_law 1391 = .ok (.iadd, 1) := by decide +kernel
theorem dL_law_1392 : decode cL_law 1392 = .ok (.iaload, 1) := by decide +kernel
theorem dL_law_1393 : decode cL_law 1393 = .ok (.invokevirtual 220, 3) := by decide +kernel
theorem dL_law_1396 : decode cL_law 1396 = .ok (.istore 7, 2) := by decide +kernel
theorem dL_law_1398 : decode cL_law 1398 = .ok (.aload_n 2, 1) := by decide +kernel
theorem dL_law_1399 : decode cL_law 1399 = .ok (.invokevirtual 154, 3) := by decide +kernel
theorem dL_law_1402 : decode cL_law 1402 = .ok (.iload 6, 2) := by decide +kernel
theorem dL_law_1404 : decode cL_law 1404 = .ok (.if_icmp .eq 5, 3) := by decide +kernel
theorem dL_law_1407 : decode cL_law 1407 = .ok (.iconst 0, 1) := by decide +kernel
theorem dL_law_1408 : decode cL_law 1408 = .ok (.ireturn, 1) := by decide +kernel
theorem dL_law_1409 : decode cL_law 1409 = .ok (.iload 6, 2) := by decide +kernel
theorem dL_law_1411 : decode cL_law 1411 = .ok (.ifCond .ne 15, 3) := by decide +kernel
theorem dL_law_1414 : decode cL_law 1414 = .ok (.aload_n 3, 1) := by decide +kernel
theorem dL_law_1415 : decode cL_law 1415 = .ok (.iconst 0, 1) := by decide +kernel
theorem dL_law_1416 : decode cL_law 1416 = .ok (.laload, 1) := by decide +kernel
theorem dL_law_1417 : decode cL_law 1417 = .ok (.iload 7, 2) := by decide +kernel
theorem dL_law_1419 : decode cL_law 1419 = .ok (.i2l, 1) := by decide +kernel
theorem dL_law_1420 : decode cL_law 1420 = .ok (.lcmp, 1) := by decide +kernel
theorem dL_law_1421 : decode cL_law 1421 = .ok (.ifCond .eq 5, 3) := by decide +kernel
theorem dL_law_1424 : decode cL_law 1424 = .ok (.iconst 0, 1) := by decide +kernel
theorem dL_law_1425 : decode cL_law 1425 = .ok (.ireturn, 1) := by decide +kernel
theorem dL_law_1426 : decode cL_law 1426 = .ok (.goto 1435, 3) := by decide +kernel
theorem dL_law_1429 : decode cL_law 1429 = .ok (.aload_n 1, 1) := by decide +kernel
theorem dL_law_1430 : decode cL_law 1430 = .ok (.invokevirtual 221, 3) := by decide +kernel
theorem dL_law_1433 : decode cL_law 1433 = .ok (.aload_n 2, 1) := by decide +kernel
theorem dL_law_1434 : decode cL_law 1434 = .ok (.invokevirtual 224, 3) := by decide +kernel
theorem dL_law_1437 : decode cL_law 1437 = .ok (.if_icmp .eq 1424, 3) := by decide +kernel
theorem dL_law_1440 : decode cL_law 1440 = .ok (.iconst 0, 1) := by decide +kernel
theorem dL_law_1441 : decode cL_law 1441 = .ok (.ireturn, 1) := by decide +kernel
theorem dL_law_1442 : decode cL_law 1442 = .ok (.aload_n 1, 1) := by decide +kernel
theorem dL_law_1443 : decode cL_law 1443 = .ok (.aload_n 0, 1) := by decide +kernel
theorem dL_law_1444 : decode cL_law 1444 = .ok (.iload 5, 2) := by decide +kernel
theorem dL_law_1446 : decode cL_law 1446 = .ok (.iconst 1, 1) := by decide +kernel
theorem dL_law_1447 : decode cL_law 1447 = .ok (.iadd, 1) := by decide +kernel
theorem dL_law_1448 : decode cL_law 1448 = .ok (.iaload, 1) := by decide +kernel
theorem dL_law_1449 : decode cL_law 1449 = .ok (.aload_n 0, 1) := by decide +kernel
theorem dL_law_1450 : decode cL_law 1450 = .ok (.iload 5, 2) := by decide +kernel
theorem dL_law_1452 : decode cL_law 1452 = .ok (.iconst 2, 1) := by decide +kernel
theorem dL_law_1453 : decode cL_law 1453 = .ok (.iadd, 1) := by decide +kernel
theorem dL_law_1454 : decode cL_law 1454 = .ok (.iaload, 1) := by decide +kernel
theorem dL_law_1455 : decode cL_law 1455 = .ok (.aload_n 3, 1) := by decide +kernel
theorem dL_law_1456 : decode cL_law 1456 = .ok (.invokestatic 225, 3) := by decide +kernel
theorem dL_law_1459 : decode cL_law 1459 = .ok (.istore 6, 2) := by decide +kernel
theorem dL_law_1461 : decode cL_law 1461 = .ok (.aload_n 2, 1) := by decide +kernel
theorem dL_law_1462 : decode cL_law 1462 = .ok (.aload_n 0, 1) := by decide +kernel
theorem dL_law_1463 : decode cL_law 1463 = .ok (.iload 5, 2) := by decide +kernel
theorem dL_law_1465 : decode cL_law 1465 = .ok (.iconst 1, 1) := by decide +kernel
theorem dL_law_1466 : decode cL_law 1466 = .ok (.iadd, 1) := by decide +kernel
theorem dL_law_1467 : decode cL_law 1467 = .ok (.iaload, 1) := by decide +kernel
theorem dL_law_1468 : decode cL_law 1468 = .ok (.aload_n 0, 1) := by decide +kernel
theorem dL_law_1469 : decode cL_law 1469 = .ok (.iload 5, 2) := by decide +kernel
theorem dL_law_1471 : decode cL_law 1471 = .ok (.iconst 2, 1) := by decide +kernel
theorem dL_law_1472 : decode cL_law 1472 = .ok (.iadd, 1) := by decide +kernel
theorem dL_law_1473 : decode cL_law 1473 = .ok (.iaload, 1) := by decide +kernel
theorem dL_law_1474 : decode cL_law 1474 = .ok (.invokevirtual 227, 3) := by decide +kernel
theorem dL_law_1477 : decode cL_law 1477 = .ok (.istore 7, 2) := by decide +kernel
theorem dL_law_1479 : decode cL_law 1479 = .ok (.aload_n 2, 1) := by decide +kernel
theorem dL_law_1480 : decode cL_law 1480 = .ok (.invokevirtual 154, 3) := by decide +kernel
theorem dL_law_1483 : decode cL_law 1483 = .ok (.iload 6, 2) := by decide +kernel
theorem dL_law_1485 : decode cL_law 1485 = .ok (.if_icmp .eq 5, 3) := by decide +kernel
theorem dL_law_1488 : decode cL_law 1488 = .ok (.iconst 0, 1) := by decide +kernel
theorem dL_law_1489 : decode cL_law 1489 = .ok (.ireturn, 1) := by decide +kernel
theorem dL_law_1490 : decode cL_law 1490 = .ok (.iload 6, 2) := by decide +kernel
theorem dL_law_1492 : decode cL_law 1492 = .ok (.ifCond .ne 15, 3) := by decide +kernel
theorem dL_law_1495 : decode cL_law 1495 = .ok (.aload_n 3, 1) := by decide +kernel
theorem dL_law_1496 : decode cL_law 1496 = .ok (.iconst 0, 1) := by decide +kernel
theorem dL_law_1497 : decode cL_law 1497 = .ok (.laload, 1) := by decide +kernel
theorem dL_law_1498 : decode cL_law 1498 = .ok (.iload 7, 2) := by decide +kernel
theorem dL_law_1500 : decode cL_law 1500 = .ok (.i2l, 1) := by decide +kernel
theorem dL_law_1501 : decode cL_law 1501 = .ok (.lcmp, 1) := by decide +kernel
theorem dL_law_1502 : decode cL_law 1502 = .ok (.ifCond .eq 5, 3) := by decide +kernel
theorem dL_law_1505 : decode cL_law 1505 = .ok (.iconst 0, 1) := by decide +kernel
theorem dL_law_1506 : decode cL_law 1506 = .ok (.ireturn, 1) := by decide +kernel
theorem dL_law_1507 : decode cL_law 1507 = .ok (.goto 1354, 3) := by decide +kernel
theorem dL_law_1510 : decode cL_law 1510 = .ok (.aload_n 1, 1) := by decide +kernel
theorem dL_law_1511 : decode cL_law 1511 = .ok (.invokevirtual 228, 3) := by decide +kernel
theorem dL_law_1514 : decode cL_law 1514 = .ok (.aload_n 2, 1) := by decide +kernel
theorem dL_law_1515 : decode cL_law 1515 = .ok (.invokevirtual 231, 3) := by decide +kernel
theorem dL_law_1518 : decode cL_law 1518 = .ok (.if_icmp .eq 1343, 3) := by decide +kernel
theorem dL_law_1521 : decode cL_law 1521 = .ok (.iconst 0, 1) := by decide +kernel
theorem dL_law_1522 : decode cL_law 1522 = .ok (.ireturn, 1) := by decide +kernel
theorem dL_law_1523 : decode cL_law 1523 = .ok (.aload_n 1, 1) := by decide +kernel
theorem dL_law_1524 : decode cL_law 1524 = .ok (.aload_n 0, 1) := by decide +kernel
theorem dL_law_1525 : decode cL_law 1525 = .ok (.iload 5, 2) := by decide +kernel
theorem dL_law_1527 : decode cL_law 1527 = .ok (.iconst 1, 1) := by decide +kernel
theorem dL_law_1528 : decode cL_law 1528 = .ok (.iadd, 1) := by decide +kernel
theorem dL_law_1529 : decode cL_law 1529 = .ok (.iaload, 1) := by decide +kernel
theorem dL_law_1530 : decode cL_law 1530 = .ok (.aload_n 3, 1) := by decide +kernel
theorem dL_law_1531 : decode cL_law 1531 = .ok (.invokestatic 232, 3) := by decide +kernel
theorem dL_law_1534 : decode cL_law 1534 = .ok (.istore 6, 2) := by decide +kernel
theorem dL_law_1536 : decode cL_law 1536 = .ok (.aload_n 2, 1) := by decide +kernel
theorem dL_law_1537 : decode cL_law 1537 = .ok (.aload_n 0, 1) := by decide +kernel
theorem dL_law_1538 : decode cL_law 1538 = .ok (.iload 5, 2) := by decide +kernel
theorem dL_law_1540 : decode cL_law 1540 = .ok (.iconst 1, 1) := by decide +kernel
theorem dL_law_1541 : decode cL_law 1541 = .ok (.iadd, 1) := by decide +kernel
theorem dL_law_1542 : decode cL_law 1542 = .ok (.iaload, 1) := by decide +kernel
theorem dL_law_1543 : decode cL_law 1543 = .ok (.invokevirtual 234, 3) := by decide +kernel
theorem dL_law_1546 : decode cL_law 1546 = .ok (.istore 7, 2) := by decide +kernel
theorem dL_law_1548 : decode cL_law 1548 = .ok (.aload_n 2, 1) := by decide +kernel
theorem dL_law_1549 : decode cL_law 1549 = .ok (.invokevirtual 154, 3) := by decide +kernel
theorem dL_law_1552 : decode cL_law 1552 = .ok (.iload 6, 2) := by decide +kernel
theorem dL_law_1554 : decode cL_law 1554 = .ok (.if_icmp .eq 5, 3) := by decide +kernel
theorem dL_law_1557 : decode cL_law 1557 = .ok (.iconst 0, 1) := by decide +kernel
theorem dL_law_1558 : decode cL_law 1558 = .ok (.ireturn, 1) := by decide +kernel
theorem dL_law_1559 : decode cL_law 1559 = .ok (.iload 6, 2) := by decide +kernel
theorem dL_law_1561 : decode cL_law 1561 = .ok (.ifCond .ne 15, 3) := by decide +kernel
theorem dL_law_1564 : decode cL_law 1564 = .ok (.aload_n 3, 1) := by decide +kernel
theorem dL_law_1565 : decode cL_law 1565 = .ok (.iconst 0, 1) := by decide +kernel
theorem dL_law_1566 : decode cL_law 1566 = .ok (.laload, 1) := by decide +kernel
theorem dL_law_1567 : decode cL_law 1567 = .ok (.iload 7, 2) := by decide +kernel
theorem dL_law_1569 : decode cL_law 1569 = .ok (.i2l, 1) := by decide +kernel
theorem dL_law_1570 : decode cL_law 1570 = .ok (.lcmp, 1) := by decide +kernel
theorem dL_law_1571 : decode cL_law 1571 = .ok (.ifCond .eq 5, 3) := by decide +kernel
theorem dL_law_1574 : decode cL_law 1574 = .ok (.iconst 0, 1) := by decide +kernel
theorem dL_law_1575 : decode cL_law 1575 = .ok (.ireturn, 1) := by decide +kernel
theorem dL_law_1576 : decode cL_law 1576 = .ok (.goto 1285, 3) := by decide +kernel
theorem dL_law_1579 : decode cL_law 1579 = .ok (.aload_n 1, 1) := by decide +kernel
theorem dL_law_1580 : decode cL_law 1580 = .ok (.aload_n 0, 1) := by decide +kernel
theorem dL_law_1581 : decode cL_law 1581 = .ok (.iload 5, 2) := by decide +kernel
theorem dL_law_1583 : decode cL_law 1583 = .ok (.iconst 1, 1) := by decide +kernel
theorem dL_law_1584 : decode cL_law 1584 = .ok (.iadd, 1) := by decide +kernel
theorem dL_law_1585 : decode cL_law 1585 = .ok (.iaload, 1) := by decide +kernel
theorem dL_law_1586 : decode cL_law 1586 = .ok (.aload_n 3, 1) := by decide +kernel
theorem dL_law_1587 : decode cL_law 1587 = .ok (.invokestatic 235, 3) := by decide +kernel
theorem dL_law_1590 : decode cL_law 1590 = .ok (.istore 6, 2) := by decide +kernel
theorem dL_law_1592 : decode cL_law 1592 = .ok (.aload_n 2, 1) := by decide +kernel
theorem dL_law_1593 : decode cL_law 1593 = .ok (.aload_n 0, 1) := by decide +kernel
theorem dL_law_1594 : decode cL_law 1594 = .ok (.iload 5, 2) := by decide +kernel
theorem dL_law_1596 : decode cL_law 1596 = .ok (.iconst 1, 1) := by decide +kernel
theorem dL_law_1597 : decode cL_law 1597 = .ok (.iadd, 1) := by decide +kernel
theorem dL_law_1598 : decode cL_law 1598 = .ok (.iaload, 1) := by decide +kernel
theorem dL_law_1599 : decode cL_law 1599 = .ok (.invokevirtual 237, 3) := by decide +kernel
theorem dL_law_1602 : decode cL_law 1602 = .ok (.istore 7, 2) := by decide +kernel
theorem dL_law_1604 : decode cL_law 1604 = .ok (.aload_n 2, 1) := by decide +kernel
theorem dL_law_1605 : decode cL_law 1605 = .ok (.invokevirtual 154, 3) := by decide +kernel
theorem dL_law_1608 : decode cL_law 1608 = .ok (.iload 6, 2) := by decide +kernel
theorem dL_law_1610 : decode cL_law 1610 = .ok (.if_icmp .eq 5, 3) := by decide +kernel
theorem dL_law_1613 : decode cL_law 1613 = .ok (.iconst 0, 1) := by decide +kernel
theorem dL_law_1614 : decode cL_law 1614 = .ok (.ireturn, 1) := by decide +kernel
theorem dL_law_1615 : decode cL_law 1615 = .ok (.iload 6, 2) := by decide +kernel
theorem dL_law_1617 : decode cL_law 1617 = .ok (.ifCond .ne 15, 3) := by decide +kernel
theorem dL_law_1620 : decode cL_law 1620 = .ok (.aload_n 3, 1) := by decide +kernel
theorem dL_law_1621 : decode cL_law 1621 = .ok (.iconst 0, 1) := by decide +kernel
theorem dL_law_1622 : decode cL_law 1622 = .ok (.laload, 1) := by decide +kernel
theorem dL_law_1623 : decode cL_law 1623 = .ok (.iload 7, 2) := by decide +kernel
theorem dL_law_1625 : decode cL_law 1625 = .ok (.i2l, 1) := by decide +kernel
theorem dL_law_1626 : decode cL_law 1626 = .ok (.lcmp, 1) := by decide +kernel
theorem dL_law_1627 : decode cL_law 1627 = .ok (.ifCond .eq 5, 3) := by decide +kernel
theorem dL_law_1630 : decode cL_law 1630 = .ok (.iconst 0, 1) := by decide +kernel
theorem dL_law_1631 : decode cL_law 1631 = .ok (.ireturn, 1) := by decide +kernel
theorem dL_law_1632 : decode cL_law 1632 = .ok (.goto 1229, 3) := by decide +kernel
theorem dL_law_1635 : decode cL_law 1635 = .ok (.aload_n 1, 1) := by decide +kernel
theorem dL_law_1636 : decode cL_law 1636 = .ok (.invokevirtual 238, 3) := by decide +kernel
theorem dL_law_1639 : decode cL_law 1639 = .ok (.aload_n 2, 1) := by decide +kernel
theorem dL_law_1640 : decode cL_law 1640 = .ok (.invokevirtual 241, 3) := by decide +kernel
theorem dL_law_1643 : decode cL_law 1643 = .ok (.if_icmp .eq 1218, 3) := by decide +kernel
theorem dL_law_1646 : decode cL_law 1646 = .ok (.iconst 0, 1) := by decide +kernel
theorem dL_law_1647 : decode cL_law 1647 = .ok (.ireturn, 1) := by decide +kernel
theorem dL_law_1648 : decode cL_law 1648 = .ok (.aload_n 1, 1) := by decide +kernel
theorem dL_law_1649 : decode cL_law 1649 = .ok (.invokevirtual 242, 3) := by decide +kernel
theorem dL_law_1652 : decode cL_law 1652 = .ok (.aload_n 2, 1) := by decide +kernel
theorem dL_law_1653 : decode cL_law 1653 = .ok (.invokevirtual 245, 3) := by decide +kernel
theorem dL_law_1656 : decode cL_law 1656 = .ok (.if_icmp .eq 1205, 3) := by decide +kernel
theorem dL_law_1659 : decode cL_law 1659 = .ok (.iconst 0, 1) := by decide +kernel
theorem dL_law_1660 : decode cL_law 1660 = .ok (.ireturn, 1) := by decide +kernel
theorem dL_law_1661 : decode cL_law 1661 = .ok (.aload_n 1, 1) := by decide +kernel
theorem dL_law_1662 : decode cL_law 1662 = .ok (.aload_n 0, 1) := by decide +kernel
theorem dL_law_1663 : decode cL_law 1663 = .ok (.iload 5, 2) := by decide +kernel
theorem dL_law_1665 : decode cL_law 1665 = .ok (.iconst 1, 1) := by decide +kernel
theorem dL_law_1666 : decode cL_law 1666 = .ok (.iadd, 1) := by decide +kernel
theorem dL_law_1667 : decode cL_law 1667 = .ok (.iaload, 1) := by decide +kernel
theorem dL_law_1668 : decode cL_law 1668 = .ok (.aload_n 0, 1) := by decide +kernel
theorem dL_law_1669 : decode cL_law 1669 = .ok (.iload 5, 2) := by decide +kernel
theorem dL_law_1671 : decode cL_law 1671 = .ok (.iconst 2, 1) := by decide +kernel
theorem dL_law_1672 : decode cL_law 1672 = .ok (.iadd, 1) := by decide +kernel
theorem dL_law_1673 : decode cL_law 1673 = .ok (.iaload, 1) := by decide +kernel
theorem dL_law_1674 : decode cL_law 1674 = .ok (.aload 4, 2) := by decide +kernel
theorem dL_law_1676 : decode cL_law 1676 = .ok (.invokestatic 246, 3) := by decide +kernel
theorem dL_law_1679 : decode cL_law 1679 = .ok (.istore 6, 2) := by decide +kernel
theorem dL_law_1681 : decode cL_law 1681 = .ok (.aload_n 2, 1) := by decide +kernel
theorem dL_law_1682 : decode cL_law 1682 = .ok (.aload_n 0, 1) := by decide +kernel
theorem dL_law_1683 : decode cL_law 1683 = .ok (.iload 5, 2) := by decide +kernel
theorem dL_law_1685 : decode cL_law 1685 = .ok (.iconst 1, 1) := by decide +kernel
theorem dL_law_1686 : decode cL_law 1686 = .ok (.iadd, 1) := by decide +kernel
theorem dL_law_1687 : decode cL_law 1687 = .ok (.iaload, 1) := by decide +kernel
theorem dL_law_1688 : decode cL_law 1688 = .ok (.aload_n 0, 1) := by decide +kernel
theorem dL_law_1689 : decode cL_law 1689 = .ok (.iload 5, 2) := by decide +kernel
theorem dL_law_1691 : decode cL_law 1691 = .ok (.iconst 2, 1) := by decide +kernel
theorem dL_law_1692 : decode cL_law 1692 = .ok (.iadd, 1) := by decide +kernel
theorem dL_law_1693 : decode cL_law 1693 = .ok (.iaload, 1) := by decide +kernel
theorem dL_law_1694 : decode cL_law 1694 = .ok (.invokevirtual 249, 3) := by decide +kernel
theorem dL_law_1697 : decode cL_law 1697 = .ok (.dstore 7, 2) := by decide +kernel
theorem dL_law_1699 : decode cL_law 1699 = .ok (.aload_n 2, 1) := by decide +kernel
theorem dL_law_1700 : decode cL_law 1700 = .ok (.invokevirtual 154, 3) := by decide +kernel
theorem dL_law_1703 : decode cL_law 1703 = .ok (.iload 6, 2) := by decide +kernel
theorem dL_law_1705 : decode cL_law 1705 = .ok (.if_icmp .eq 5, 3) := by decide +kernel
theorem dL_law_1708 : decode cL_law 1708 = .ok (.iconst 0, 1) := by decide +kernel
theorem dL_law_1709 : decode cL_law 1709 = .ok (.ireturn, 1) := by decide +kernel
theorem dL_law_1710 : decode cL_law 1710 = .ok (.iload 6, 2) := by decide +kernel
theorem dL_law_1712 : decode cL_law 1712 = .ok (.ifCond .ne 35, 3) := by decide +kernel
theorem dL_law_1715 : decode cL_law 1715 = .ok (.aload 4, 2) := by decide +kernel
theorem dL_law_1717 : decode cL_law 1717 = .ok (.iconst 0, 1) := by decide +kernel
theorem dL_law_1718 : decode cL_law 1718 = .ok (.daload, 1) := by decide +kernel
theorem dL_law_1719 : decode cL_law 1719 = .ok (.dload 7, 2) := by decide +kernel
theorem dL_law_1721 : decode cL_law 1721 = .ok (.dcmp .l, 1) := by decide +kernel
theorem dL_law_1722 : decode cL_law 1722 = .ok (.ifCond .eq 25, 3) := by decide +kernel
theorem dL_law_1725 : decode cL_law 1725 = .ok (.aload 4, 2) := by decide +kernel
theorem dL_law_1727 : decode cL_law 1727 = .ok (.iconst 0, 1) := by decide +kernel
theorem dL_law_1728 : decode cL_law 1728 = .ok (.daload, 1) := by decide +kernel
theorem dL_law_1729 : decode cL_law 1729 = .ok (.aload 4, 2) := by decide +kernel
theorem dL_law_1731 : decode cL_law 1731 = .ok (.iconst 0, 1) := by decide +kernel
theorem dL_law_1732 : decode cL_law 1732 = .ok (.daload, 1) := by decide +kernel
theorem dL_law_1733 : decode cL_law 1733 = .ok (.dcmp .l, 1) := by decide +kernel
theorem dL_law_1734 : decode cL_law 1734 = .ok (.ifCond .eq 11, 3) := by decide +kernel
theorem dL_law_1737 : decode cL_law 1737 = .ok (.dload 7, 2) := by decide +kernel
theorem dL_law_1739 : decode cL_law 1739 = .ok (.dload 7, 2) := by decide +kernel
theorem dL_law_1741 : decode cL_law 1741 = .ok (.dcmp .l, 1) := by decide +kernel
theorem dL_law_1742 : decode cL_law 1742 = .ok (.ifCond .ne 5, 3) := by decide +kernel
theorem dL_law_1745 : decode cL_law 1745 = .ok (.iconst 0, 1) := by decide +kernel
theorem dL_law_1746 : decode cL_law 1746 = .ok (.ireturn, 1) := by decide +kernel
theorem dL_law_1747 : decode cL_law 1747 = .ok (.goto 1114, 3) := by decide +kernel
theorem dL_law_1750 : decode cL_law 1750 = .ok (.aload_n 1, 1) := by decide +kernel
theorem dL_law_1751 : decode cL_law 1751 = .ok (.aload_n 0, 1) := by decide +kernel
theorem dL_law_1752 : decode cL_law 1752 = .ok (.iload 5, 2) := by decide +kernel
theorem dL_law_1754 : decode cL_law 1754 = .ok (.iconst 1, 1) := by decide +kernel
theorem dL_law_1755 : decode cL_law 1755 = .ok (.iadd, 1) := by decide +kernel
theorem dL_law_1756 : decode cL_law 1756 = .ok (.iaload, 1) := by decide +kernel
theorem dL_law_1757 : decode cL_law 1757 = .ok (.aload 4, 2) := by decide +kernel
theorem dL_law_1759 : decode cL_law 1759 = .ok (.invokestatic 250, 3) := by decide +kernel
theorem dL_law_1762 : decode cL_law 1762 = .ok (.istore 6, 2) := by decide +kernel
theorem dL_law_1764 : decode cL_law 1764 = .ok (.aload_n 2, 1) := by decide +kernel
theorem dL_law_1765 : decode cL_law 1765 = .ok (.aload_n 0, 1) := by decide +kernel
theorem dL_law_1766 : decode cL_law 1766 = .ok (.iload 5, 2) := by decide +kernel
theorem dL_law_1768 : decode cL_law 1768 = .ok (.iconst 1, 1) := by decide +kernel
theorem dL_law_1769 : decode cL_law 1769 = .ok (.iadd, 1) := by decide +kernel
theorem dL_law_1770 : decode cL_law 1770 = .ok (.iaload, 1) := by decide +kernel
theorem dL_law_1771 : decode cL_law 1771 = .ok (.invokevirtual 253, 3) := by decide +kernel
theorem dL_law_1774 : decode cL_law 1774 = .ok (.dstore 7, 2) := by decide +kernel
theorem dL_law_1776 : decode cL_law 1776 = .ok (.aload_n 2, 1) := by decide +kernel
theorem dL_law_1777 : decode cL_law 1777 = .ok (.invokevirtual 154, 3) := by decide +kernel
theorem dL_law_1780 : decode cL_law 1780 = .ok (.iload 6, 2) := by decide +kernel
theorem dL_law_1782 : decode cL_law 1782 = .ok (.if_icmp .eq 5, 3) := by decide +kernel
theorem dL_law_1785 : decode cL_law 1785 = .ok (.iconst 0, 1) := by decide +kernel
theorem dL_law_1786 : decode cL_law 1786 = .ok (.ireturn, 1) := by decide +kernel
theorem dL_law_1787 : decode cL_law 1787 = .ok (.iload 6, 2) := by decide +kernel
theorem dL_law_1789 : decode cL_law 1789 = .ok (.ifCond .ne 35, 3) := by decide +kernel
theorem dL_law_1792 : decode cL_law 1792 = .ok (.aload 4, 2) := by decide +kernel
theorem dL_law_1794 : decode cL_law 1794 = .ok (.iconst 0, 1) := by decide +kernel
theorem dL_law_1795 : decode cL_law 1795 = .ok (.daload, 1) := by decide +kernel
theorem dL_law_1796 : decode cL_law 1796 = .ok (.dload 7, 2) := by decide +kernel
theorem dL_law_1798 : decode cL_law 1798 = .ok (.dcmp .l, 1) := by decide +kernel
theorem dL_law_1799 : decode cL_law 1799 = .ok (.ifCond .eq 25, 3) := by decide +kernel
theorem dL_law_1802 : decode cL_law 1802 = .ok (.aload 4, 2) := by decide +kernel
theorem dL_law_1804 : decode cL_law 1804 = .ok (.iconst 0, 1) := by decide +kernel
theorem dL_law_1805 : decode cL_law 1805 = .ok (.daload, 1) := by decide +kernel
theorem dL_law_1806 : decode cL_law 1806 = .ok (.aload 4, 2) := by decide +kernel
theorem dL_law_1808 : decode cL_law 1808 = .ok (.iconst 0, 1) := by decide +kernel
theorem dL_law_1809 : decode cL_law 1809 = .ok (.daload, 1) := by decide +kernel
theorem dL_law_1810 : decode cL_law 1810 = .ok (.dcmp .l, 1) := by decide +kernel
theorem dL_law_1811 : decode cL_law 1811 = .ok (.ifCond .eq 11, 3) := by decide +kernel
theorem dL_law_1814 : decode cL_law 1814 = .ok (.dload 7, 2) := by decide +kernel
theorem dL_law_1816 : decode cL_law 1816 = .ok (.dload 7, 2) := by decide +kernel
theorem dL_law_1818 : decode cL_law 1818 = .ok (.dcmp .l, 1) := by decide +kernel
theorem dL_law_1819 : decode cL_law 1819 = .ok (.ifCond .ne 5, 3) := by decide +kernel
theorem dL_law_1822 : decode cL_law 1822 = .ok (.iconst 0, 1) := by decide +kernel
theorem dL_law_1823 : decode cL_law 1823 = .ok (.ireturn, 1) := by decide +kernel
theorem dL_law_1824 : decode cL_law 1824 = .ok (.goto 1037, 3) := by decide +kernel
theorem dL_law_1827 : decode cL_law 1827 = .ok (.aload_n 1, 1) := by decide +kernel
theorem dL_law_1828 : decode cL_law 1828 = .ok (.aload_n 0, 1) := by decide +kernel
theorem dL_law_1829 : decode cL_law 1829 = .ok (.iload 5, 2) := by decide +kernel
theorem dL_law_1831 : decode cL_law 1831 = .ok (.iconst 1, 1) := by decide +kernel
theorem dL_law_1832 : decode cL_law 1832 = .ok (.iadd, 1) := by decide +kernel
theorem dL_law_1833 : decode cL_law 1833 = .ok (.iaload, 1) := by decide +kernel
theorem dL_law_1834 : decode cL_law 1834 = .ok (.aload 4, 2) := by decide +kernel
theorem dL_law_1836 : decode cL_law 1836 = .ok (.invokestatic 254, 3) := by decide +kernel
theorem dL_law_1839 : decode cL_law 1839 = .ok (.istore 6, 2) := by decide +kernel
theorem dL_law_1841 : decode cL_law 1841 = .ok (.aload_n 2, 1) := by decide +kernel
theorem dL_law_1842 : decode cL_law 1842 = .ok (.aload_n 0, 1) := by decide +kernel
theorem dL_law_1843 : decode cL_law 1843 = .ok (.iload 5, 2) := by decide +kernel
theorem dL_law_1845 : decode cL_law 1845 = .ok (.iconst 1, 1) := by decide +kernel
theorem dL_law_1846 : decode cL_law 1846 = .ok (.iadd, 1) := by decide +kernel
theorem dL_law_1847 : decode cL_law 1847 = .ok (.iaload, 1) := by decide +kernel
theorem dL_law_1848 : decode cL_law 1848 = .ok (.invokevirtual 256, 3) := by decide +kernel
theorem dL_law_1851 : decode cL_law 1851 = .ok (.dstore 7, 2) := by decide +kernel
theorem dL_law_1853 : decode cL_law 1853 = .ok (.aload_n 2, 1) := by decide +kernel
theorem dL_law_1854 : decode cL_law 1854 = .ok (.invokevirtual 154, 3) := by decide +kernel
theorem dL_law_1857 : decode cL_law 1857 = .ok (.iload 6, 2) := by decide +kernel
theorem dL_law_1859 : decode cL_law 1859 = .ok (.if_icmp .eq 5, 3) := by decide +kernel
theorem dL_law_1862 : decode cL_law 1862 = .ok (.iconst 0, 1) := by decide +kernel
theorem dL_law_1863 : decode cL_law 1863 = .ok (.ireturn, 1) := by decide +kernel
theorem dL_law_1864 : decode cL_law 1864 = .ok (.iload 6, 2) := by decide +kernel
theorem dL_law_1866 : decode cL_law 1866 = .ok (.ifCond .ne 35, 3) := by decide +kernel
theorem dL_law_1869 : decode cL_law 1869 = .ok (.aload 4, 2) := by decide +kernel
theorem dL_law_1871 : decode cL_law 1871 = .ok (.iconst 0, 1) := by decide +kernel
theorem dL_law_1872 : decode cL_law 1872 = .ok (.daload, 1) := by decide +kernel
theorem dL_law_1873 : decode cL_law 1873 = .ok (.dload 7, 2) := by decide +kernel
theorem dL_law_1875 : decode cL_law 1875 = .ok (.dcmp .l, 1) := by decide +kernel
theorem dL_law_1876 : decode cL_law 1876 = .ok (.ifCond .eq 25, 3) := by decide +kernel
theorem dL_law_1879 : decode cL_law 1879 = .ok (.aload 4, 2) := by decide +kernel
theorem dL_law_1881 : decode cL_law 1881 = .ok (.iconst 0, 1) := by decide +kernel
theorem dL_law_1882 : decode cL_law 1882 = .ok (.daload, 1) := by decide +kernel
theorem dL_law_1883 : decode cL_law 1883 = .ok (.aload 4, 2) := by decide +kernel
theorem dL_law_1885 : decode cL_law 1885 = .ok (.iconst 0, 1) := by decide +kernel
theorem dL_law_1886 : decode cL_law 1886 = .ok (.daload, 1) := by decide +kernel
theorem dL_law_1887 : decode cL_law 1887 = .ok (.dcmp .l, 1) := by decide +kernel
theorem dL_law_1888 : decode cL_law 1888 = .ok (.ifCond .eq 11, 3) := by decide +kernel
theorem dL_law_1891 : decode cL_law 1891 = .ok (.dload 7, 2) := by decide +kernel
theorem dL_law_1893 : decode cL_law 1893 = .ok (.dload 7, 2) := by decide +kernel
theorem dL_law_1895 : decode cL_law 1895 = .ok (.dcmp .l, 1) := by decide +kernel
theorem dL_law_1896 : decode cL_law 1896 = .ok (.ifCond .ne 5, 3) := by decide +kernel
theorem dL_law_1899 : decode cL_law 1899 = .ok (.iconst 0, 1) := by decide +kernel
theorem dL_law_1900 : decode cL_law 1900 = .ok (.ireturn, 1) := by decide +kernel
theorem dL_law_1901 : decode cL_law 1901 = .ok (.goto 960, 3) := by decide +kernel
theorem dL_law_1904 : decode cL_law 1904 = .ok (.aload_n 1, 1) := by decide +kernel
theorem dL_law_1905 : decode cL_law 1905 = .ok (.aload_n 0, 1) := by decide +kernel
theorem dL_law_1906 : decode cL_law 1906 = .ok (.iload 5, 2) := by decide +kernel
theorem dL_law_1908 : decode cL_law 1908 = .ok (.iconst 1, 1) := by decide +kernel
theorem dL_law_1909 : decode cL_law 1909 = .ok (.iadd, 1) := by decide +kernel
theorem dL_law_1910 : decode cL_law 1910 = .ok (.iaload, 1) := by decide +kernel
theorem dL_law_1911 : decode cL_law 1911 = .ok (.aload_n 0, 1) := by decide +kernel
theorem dL_law_1912 : decode cL_law 1912 = .ok (.iload 5, 2) := by decide +kernel
theorem dL_law_1914 : decode cL_law 1914 = .ok (.iconst 2, 1) := by decide +kernel
theorem dL_law_1915 : decode cL_law 1915 = .ok (.iadd, 1) := by decide +kernel
theorem dL_law_1916 : decode cL_law 1916 = .ok (.iaload, 1) := by decide +kernel
theorem dL_law_1917 : decode cL_law 1917 = .ok (.aload_n 0, 1) := by decide +kernel
theorem dL_law_1918 : decode cL_law 1918 = .ok (.iload 5, 2) := by decide +kernel
theorem dL_law_1920 : decode cL_law 1920 = .ok (.iconst 3, 1) := by decide +kernel
theorem dL_law_1921 : decode cL_law 1921 = .ok (.iadd, 1) := by decide +kernel
theorem dL_law_1922 : decode cL_law 1922 = .ok (.iaload, 1) := by decide +kernel
theorem dL_law_1923 : decode cL_law 1923 = .ok (.aload_n 0, 1) := by decide +kernel
theorem dL_law_1924 : decode cL_law 1924 = .ok (.iload 5, 2) := by decide +kernel
theorem dL_law_1926 : decode cL_law 1926 = .ok (.iconst 4, 1) := by decide +kernel
theorem dL_law_1927 : decode cL_law 1927 = .ok (.iadd, 1) := by decide +kernel
theorem dL_law_1928 : decode cL_law 1928 = .ok (.iaload, 1) := by decide +kernel
theorem dL_law_1929 : decode cL_law 1929 = .ok (.aload_n 0, 1) := by decide +kernel
theorem dL_law_1930 : decode cL_law 1930 = .ok (.iload 5, 2) := by decide +kernel
theorem dL_law_1932 : decode cL_law 1932 = .ok (.iconst 5, 1) := by decide +kernel
theorem dL_law_1933 : decode cL_law 1933 = .ok (.iadd, 1) := by decide +kernel
theorem dL_law_1934 : decode cL_law 1934 = .ok (.iaload, 1) := by decide +kernel
theorem dL_law_1935 : decode cL_law 1935 = .ok (.aload_n 3, 1) := by decide +kernel
theorem dL_law_1936 : decode cL_law 1936 = .ok (.invokestatic 257, 3) := by decide +kernel
theorem dL_law_1939 : decode cL_law 1939 = .ok (.istore 6, 2) := by decide +kernel
theorem dL_law_1941 : decode cL_law 1941 = .ok (.aload_n 2, 1) := by decide +kernel
theorem dL_law_1942 : decode cL_law 1942 = .ok (.aload_n 0, 1) := by decide +kernel
theorem dL_law_1943 : decode cL_law 1943 = .ok (.iload 5, 2) := by decide +kernel
theorem dL_law_1945 : decode cL_law 1945 = .ok (.iconst 1, 1) := by decide +kernel
theorem dL_law_1946 : decode cL_law 1946 = .ok (.iadd, 1) := by decide +kernel
theorem dL_law_1947 : decode cL_law 1947 = .ok (.iaload, 1) := by decide +kernel
theorem dL_law_1948 : decode cL_law 1948 = .ok (.aload_n 0, 1) := by decide +kernel
theorem dL_law_1949 : decode cL_law 1949 = .ok (.iload 5, 2) := by decide +kernel
theorem dL_law_1951 : decode cL_law 1951 = .ok (.iconst 2, 1) := by decide +kernel
theorem dL_law_1952 : decode cL_law 1952 = .ok (.iadd, 1) := by decide +kernel
theorem dL_law_1953 : decode cL_law 1953 = .ok (.iaload, 1) := by decide +kernel
theorem dL_law_1954 : decode cL_law 1954 = .ok (.aload_n 0, 1) := by decide +kernel
theorem dL_law_1955 : decode cL_law 1955 = .ok (.iload 5, 2) := by decide +kernel
theorem dL_law_1957 : decode cL_law 1957 = .ok (.iconst 3, 1) := by decide +kernel
theorem dL_law_1958 : decode cL_law 1958 = .ok (.iadd, 1) := by decide +kernel
theorem dL_law_1959 : decode cL_law 1959 = .ok (.iaload, 1) := by decide +kernel
theorem dL_law_1960 : decode cL_law 1960 = .ok (.aload_n 0, 1) := by decide +kernel
theorem dL_law_1961 : decode cL_law 1961 = .ok (.iload 5, 2) := by decide +kernel
theorem dL_law_1963 : decode cL_law 1963 = .ok (.iconst 4, 1) := by decide +kernel
theorem dL_law_1964 : decode cL_law 1964 = .ok (.iadd, 1) := by decide +kernel
theorem dL_law_1965 : decode cL_law 1965 = .ok (.iaload, 1) := by decide +kernel
theorem dL_law_1966 : decode cL_law 1966 = .ok (.aload_n 0, 1) := by decide +kernel
theorem dL_law_1967 : decode cL_law 1967 = .ok (.iload 5, 2) := by decide +kernel
theorem dL_law_1969 : decode cL_law 1969 = .ok (.iconst 5, 1) := by decide +kernel
theorem dL_law_1970 : decode cL_law 1970 = .ok (.iadd, 1) := by decide +kernel
theorem dL_law_1971 : decode cL_law 1971 = .ok (.iaload, 1) := by decide +kernel
theorem dL_law_1972 : decode cL_law 1972 = .ok (.invokevirtual 259, 3) := by decide +kernel
theorem dL_law_1975 : decode cL_law 1975 = .ok (.istore 7, 2) := by decide +kernel
theorem dL_law_1977 : decode cL_law 1977 = .ok (.aload_n 2, 1) := by decide +kernel
theorem dL_law_1978 : decode cL_law 1978 = .ok (.invokevirtual 154, 3) := by decide +kernel
theorem dL_law_1981 : decode cL_law 1981 = .ok (.iload 6, 2) := by decide +kernel
theorem dL_law_1983 : decode cL_law 1983 = .ok (.if_icmp .eq 5, 3) := by decide +kernel
theorem dL_law_1986 : decode cL_law 1986 = .ok (.iconst 0, 1) := by decide +kernel
theorem dL_law_1987 : decode cL_law 1987 = .ok (.ireturn, 1) := by decide +kernel
theorem dL_law_1988 : decode cL_law 1988 = .ok (.iload 6, 2) := by decide +kernel
theorem dL_law_1990 : decode cL_law 1990 = .ok (.ifCond .ne 15, 3) := by decide +kernel
theorem dL_law_1993 : decode cL_law 1993 = .ok (.aload_n 3, 1) := by decide +kernel
theorem dL_law_1994 : decode cL_law 1994 = .ok (.iconst 0, 1) := by decide +kernel
theorem dL_law_1995 : decode cL_law 1995 = .ok (.laload, 1) := by decide +kernel
theorem dL_law_1996 : decode cL_law 1996 = .ok (.iload 7, 2) := by decide +kernel
theorem dL_law_1998 : decode cL_law 1998 = .ok (.i2l, 1) := by decide +kernel
theorem dL_law_1999 : decode cL_law 1999 = .ok (.lcmp, 1) := by decide +kernel
theorem dL_law_2000 : decode cL_law 2000 = .ok (.ifCond .eq 5, 3) := by decide +kernel
theorem dL_law_2003 : decode cL_law 2003 = .ok (.iconst 0, 1) := by decide +kernel
theorem dL_law_2004 : decode cL_law 2004 = .ok (.ireturn, 1) := by decide +kernel
theorem dL_law_2005 : decode cL_law 2005 = .ok (.goto 856, 3) := by decide +kernel
theorem dL_law_2008 : decode cL_law 2008 = .ok (.aload_n 1, 1) := by decide +kernel
theorem dL_law_2009 : decode cL_law 2009 = .ok (.aload_n 0, 1) := by decide +kernel
theorem dL_law_2010 : decode cL_law 2010 = .ok (.iload 5, 2) := by decide +kernel
theorem dL_law_2012 : decode cL_law 2012 = .ok (.iconst 1, 1) := by decide +kernel
theorem dL_law_2013 : decode cL_law 2013 = .ok (.iadd, 1) := by decide +kernel
theorem dL_law_2014 : decode cL_law 2014 = .ok (.iaload, 1) := by decide +kernel
theorem dL_law_2015 : decode cL_law 2015 = .ok (.aload_n 0, 1) := by decide +kernel
theorem dL_law_2016 : decode cL_law 2016 = .ok (.iload 5, 2) := by decide +kernel
theorem dL_law_2018 : decode cL_law 2018 = .ok (.iconst 2, 1) := by decide +kernel
theorem dL_law_2019 : decode cL_law 2019 = .ok (.iadd, 1) := by decide +kernel
theorem dL_law_2020 : decode cL_law 2020 = .ok (.iaload, 1) := by decide +kernel
theorem dL_law_2021 : decode cL_law 2021 = .ok (.aload_n 0, 1) := by decide +kernel
theorem dL_law_2022 : decode cL_law 2022 = .ok (.iload 5, 2) := by decide +kernel
theorem dL_law_2024 : decode cL_law 2024 = .ok (.iconst 3, 1) := by decide +kernel
theorem dL_law_2025 : decode cL_law 2025 = .ok (.iadd, 1) := by decide +kernel
theorem dL_law_2026 : decode cL_law 2026 = .ok (.iaload, 1) := by decide +kernel
theorem dL_law_2027 : decode cL_law 2027 = .ok (.aload_n 0, 1) := by decide +kernel
theorem dL_law_2028 : decode cL_law 2028 = .ok (.iload 5, 2) := by decide +kernel
theorem dL_law_2030 : decode cL_law 2030 = .ok (.iconst 4, 1) := by decide +kernel
theorem dL_law_2031 : decode cL_law 2031 = .ok (.iadd, 1) := by decide +kernel
theorem dL_law_2032 : decode cL_law 2032 = .ok (.iaload, 1) := by decide +kernel
theorem dL_law_2033 : decode cL_law 2033 = .ok (.aload_n 3, 1) := by decide +kernel
theorem dL_law_2034 : decode cL_law 2034 = .ok (.invokestatic 260, 3) := by decide +kernel
theorem dL_law_2037 : decode cL_law 2037 = .ok (.istore 6, 2) := by decide +kernel
theorem dL_law_2039 : decode cL_law 2039 = .ok (.aload_n 2, 1) := by decide +kernel
theorem dL_law_2040 : decode cL_law 2040 = .ok (.aload_n 0, 1) := by decide +kernel
theorem dL_law_2041 : decode cL_law 2041 = .ok (.iload 5, 2) := by decide +kernel
theorem dL_law_2043 : decode cL_law 2043 = .ok (.iconst 1, 1) := by decide +kernel
theorem dL_law_2044 : decode cL_law 2044 = .ok (.iadd, 1) := by decide +kernel
theorem dL_law_2045 : decode cL_law 2045 = .ok (.iaload, 1) := by decide +kernel
theorem dL_law_2046 : decode cL_law 2046 = .ok (.aload_n 0, 1) := by decide +kernel
theorem dL_law_2047 : decode cL_law 2047 = .ok (.iload 5, 2) := by decide +kernel
theorem dL_law_2049 : decode cL_law 2049 = .ok (.iconst 2, 1) := by decide +kernel
theorem dL_law_2050 : decode cL_law 2050 = .ok (.iadd, 1) := by decide +kernel
theorem dL_law_2051 : decode cL_law 2051 = .ok (.iaload, 1) := by decide +kernel
theorem dL_law_2052 : decode cL_law 2052 = .ok (.aload_n 0, 1) := by decide +kernel
theorem dL_law_2053 : decode cL_law 2053 = .ok (.iload 5, 2) := by decide +kernel
theorem dL_law_2055 : decode cL_law 2055 = .ok (.iconst 3, 1) := by decide +kernel
theorem dL_law_2056 : decode cL_law 2056 = .ok (.iadd, 1) := by decide +kernel
theorem dL_law_2057 : decode cL_law 2057 = .ok (.iaload, 1) := by decide +kernel
theorem dL_law_2058 : decode cL_law 2058 = .ok (.aload_n 0, 1) := by decide +kernel
theorem dL_law_2059 : decode cL_law 2059 = .ok (.iload 5, 2) := by decide +kernel
theorem dL_law_2061 : decode cL_law 2061 = .ok (.iconst 4, 1) := by decide +kernel
theorem dL_law_2062 : decode cL_law 2062 = .ok (.iadd, 1) := by decide +kernel
theorem dL_law_2063 : decode cL_law 2063 = .ok (.iaload, 1) := by decide +kernel
theorem dL_law_2064 : decode cL_law 2064 = .ok (.invokevirtual 263, 3) := by decide +kernel
theorem dL_law_2067 : decode cL_law 2067 = .ok (.istore 7, 2) := by decide +kernel
theorem dL_law_2069 : decode cL_law 2069 = .ok (.aload_n 2, 1) := by decide +kernel
theorem dL_law_2070 : decode cL_law 2070 = .ok (.invokevirtual 154, 3) := by decide +kernel
theorem dL_law_2073 : decode cL_law 2073 = .ok (.iload 6, 2) := by decide +kernel
theorem dL_law_2075 : decode cL_law 2075 = .ok (.if_icmp .eq 5, 3) := by decide +kernel
theorem dL_law_2078 : decode cL_law 2078 = .ok (.iconst 0, 1) := by decide +kernel
theorem dL_law_2079 : decode cL_law 2079 = .ok (.ireturn, 1) := by decide +kernel
theorem dL_law_2080 : decode cL_law 2080 = .ok (.iload 6, 2) := by decide +kernel
theorem dL_law_2082 : decode cL_law 2082 = .ok (.ifCond .ne 15, 3) := by decide +kernel
theorem dL_law_2085 : decode cL_law 2085 = .ok (.aload_n 3, 1) := by decide +kernel
theorem dL_law_2086 : decode cL_law 2086 = .ok (.iconst 0, 1) := by decide +kernel
theorem dL_law_2087 : decode cL_law 2087 = .ok (.laload, 1) := by decide +kernel
theorem dL_law_2088 : decode cL_law 2088 = .ok (.iload 7, 2) := by decide +kernel
theorem dL_law_2090 : decode cL_law 2090 = .ok (.i2l, 1) := by decide +kernel
theorem dL_law_2091 : decode cL_law 2091 = .ok (.lcmp, 1) := by decide +kernel
theorem dL_law_2092 : decode cL_law 2092 = .ok (.ifCond .eq 5, 3) := by decide +kernel
theorem dL_law_2095 : decode cL_law 2095 = .ok (.iconst 0, 1) := by decide +kernel
theorem dL_law_2096 : decode cL_law 2096 = .ok (.ireturn, 1) := by decide +kernel
theorem dL_law_2097 : decode cL_law 2097 = .ok (.goto 764, 3) := by decide +kernel
theorem dL_law_2100 : decode cL_law 2100 = .ok (.aload_n 1, 1) := by decide +kernel
theorem dL_law_2101 : decode cL_law 2101 = .ok (.aload_n 0, 1) := by decide +kernel
theorem dL_law_2102 : decode cL_law 2102 = .ok (.iload 5, 2) := by decide +kernel
theorem dL_law_2104 : decode cL_law 2104 = .ok (.iconst 1, 1) := by decide +kernel
theorem dL_law_2105 : decode cL_law 2105 = .ok (.iadd, 1) := by decide +kernel
theorem dL_law_2106 : decode cL_law 2106 = .ok (.iaload, 1) := by decide +kernel
theorem dL_law_2107 : decode cL_law 2107 = .ok (.aload_n 3, 1) := by decide +kernel
theorem dL_law_2108 : decode cL_law 2108 = .ok (.invokestatic 264, 3) := by decide +kernel
theorem dL_law_2111 : decode cL_law 2111 = .ok (.istore 6, 2) := by decide +kernel
theorem dL_law_2113 : decode cL_law 2113 = .ok (.aload_n 2, 1) := by decide +kernel
theorem dL_law_2114 : decode cL_law 2114 = .ok (.aload_n 0, 1) := by decide +kernel
theorem dL_law_2115 : decode cL_law 2115 = .ok (.iload 5, 2) := by decide +kernel
theorem dL_law_2117 : decode cL_law 2117 = .ok (.iconst 1, 1) := by decide +kernel
theorem dL_law_2118 : decode cL_law 2118 = .ok (.iadd, 1) := by decide +kernel
theorem dL_law_2119 : decode cL_law 2119 = .ok (.iaload, 1) := by decide +kernel
theorem dL_law_2120 : decode cL_law 2120 = .ok (.invokevirtual 266, 3) := by decide +kernel
theorem dL_law_2123 : decode cL_law 2123 = .ok (.istore 7, 2) := by decide +kernel
theorem dL_law_2125 : decode cL_law 2125 = .ok (.aload_n 2, 1) := by decide +kernel
theorem dL_law_2126 : decode cL_law 2126 = .ok (.invokevirtual 154, 3) := by decide +kernel
theorem dL_law_2129 : decode cL_law 2129 = .ok (.iload 6, 2) := by decide +kernel
theorem dL_law_2131 : decode cL_law 2131 = .ok (.if_icmp .eq 5, 3) := by decide +kernel
theorem dL_law_2134 : decode cL_law 2134 = .ok (.iconst 0, 1) := by decide +kernel
theorem dL_law_2135 : decode cL_law 2135 = .ok (.ireturn, 1) := by decide +kernel
theorem dL_law_2136 : decode cL_law 2136 = .ok (.iload 6, 2) := by decide +kernel
theorem dL_law_2138 : decode cL_law 2138 = .ok (.ifCond .ne 15, 3) := by decide +kernel
theorem dL_law_2141 : decode cL_law 2141 = .ok (.aload_n 3, 1) := by decide +kernel
theorem dL_law_2142 : decode cL_law 2142 = .ok (.iconst 0, 1) := by decide +kernel
theorem dL_law_2143 : decode cL_law 2143 = .ok (.laload, 1) := by decide +kernel
theorem dL_law_2144 : decode cL_law 2144 = .ok (.iload 7, 2) := by decide +kernel
theorem dL_law_2146 : decode cL_law 2146 = .ok (.i2l, 1) := by decide +kernel
theorem dL_law_2147 : decode cL_law 2147 = .ok (.lcmp, 1) := by decide +kernel
theorem dL_law_2148 : decode cL_law 2148 = .ok (.ifCond .eq 5, 3) := by decide +kernel
theorem dL_law_2151 : decode cL_law 2151 = .ok (.iconst 0, 1) := by decide +kernel
theorem dL_law_2152 : decode cL_law 2152 = .ok (.ireturn, 1) := by decide +kernel
theorem dL_law_2153 : decode cL_law 2153 = .ok (.goto 708, 3) := by decide +kernel
theorem dL_law_2156 : decode cL_law 2156 = .ok (.aload_n 1, 1) := by decide +kernel
theorem dL_law_2157 : decode cL_law 2157 = .ok (.invokevirtual 267, 3) := by decide +kernel
theorem dL_law_2160 : decode cL_law 2160 = .ok (.aload_n 2, 1) := by decide +kernel
theorem dL_law_2161 : decode cL_law 2161 = .ok (.invokevirtual 270, 3) := by decide +kernel
theorem dL_law_2164 : decode cL_law 2164 = .ok (.if_icmp .eq 697, 3) := by decide +kernel
theorem dL_law_2167 : decode cL_law 2167 = .ok (.iconst 0, 1) := by decide +kernel
theorem dL_law_2168 : decode cL_law 2168 = .ok (.ireturn, 1) := by decide +kernel
theorem dL_law_2169 : decode cL_law 2169 = .ok (.aload_n 1, 1) := by decide +kernel
theorem dL_law_2170 : decode cL_law 2170 = .ok (.aload_n 0, 1) := by decide +kernel
theorem dL_law_2171 : decode cL_law 2171 = .ok (.iload 5, 2) := by decide +kernel
theorem dL_law_2173 : decode cL_law 2173 = .ok (.iconst 1, 1) := by decide +kernel
theorem dL_law_2174 : decode cL_law 2174 = .ok (.iadd, 1) := by decide +kernel
theorem dL_law_2175 : decode cL_law 2175 = .ok (.iaload, 1) := by decide +kernel
theorem dL_law_2176 : decode cL_law 2176 = .ok (.aload_n 0, 1) := by decide +kernel
theorem dL_law_2177 : decode cL_law 2177 = .ok (.iload 5, 2) := by decide +kernel
theorem dL_law_2179 : decode cL_law 2179 = .ok (.iconst 2, 1) := by decide +kernel
theorem dL_law_2180 : decode cL_law 2180 = .ok (.iadd, 1) := by decide +kernel
theorem dL_law_2181 : decode cL_law 2181 = .ok (.iaload, 1) := by decide +kernel
theorem dL_law_2182 : decode cL_law 2182 = .ok (.aload_n 0, 1) := by decide +kernel
theorem dL_law_2183 : decode cL_law 2183 = .ok (.iload 5, 2) := by decide +kernel
theorem dL_law_2185 : decode cL_law 2185 = .ok (.iconst 3, 1) := by decide +kernel
theorem dL_law_2186 : decode cL_law 2186 = .ok (.iadd, 1) := by decide +kernel
theorem dL_law_2187 : decode cL_law 2187 = .ok (.iaload, 1) := by decide +kernel
theorem dL_law_2188 : decode cL_law 2188 = .ok (.aload_n 0, 1) := by decide +kernel
theorem dL_law_2189 : decode cL_law 2189 = .ok (.iload 5, 2) := by decide +kernel
theorem dL_law_2191 : decode cL_law 2191 = .ok (.iconst 4, 1) := by decide +kernel
theorem dL_law_2192 : decode cL_law 2192 = .ok (.iadd, 1) := by decide +kernel
theorem dL_law_2193 : decode cL_law 2193 = .ok (.iaload, 1) := by decide +kernel
theorem dL_law_2194 : decode cL_law 2194 = .ok (.aload_n 0, 1) := by decide +kernel
theorem dL_law_2195 : decode cL_law 2195 = .ok (.iload 5, 2) := by decide +kernel
theorem dL_law_2197 : decode cL_law 2197 = .ok (.iconst 5, 1) := by decide +kernel
theorem dL_law_2198 : decode cL_law 2198 = .ok (.iadd, 1) := by decide +kernel
theorem dL_law_2199 : decode cL_law 2199 = .ok (.iaload, 1) := by decide +kernel
theorem dL_law_2200 : decode cL_law 2200 = .ok (.aload_n 0, 1) := by decide +kernel
theorem dL_law_2201 : decode cL_law 2201 = .ok (.iload 5, 2) := by decide +kernel
theorem dL_law_2203 : decode cL_law 2203 = .ok (.bipush 6, 2) := by decide +kernel
theorem dL_law_2205 : decode cL_law 2205 = .ok (.iadd, 1) := by decide +kernel
theorem dL_law_2206 : decode cL_law 2206 = .ok (.iaload, 1) := by decide +kernel
theorem dL_law_2207 : decode cL_law 2207 = .ok (.aload_n 3, 1) := by decide +kernel
theorem dL_law_2208 : decode cL_law 2208 = .ok (.invokestatic 271, 3) := by decide +kernel
theorem dL_law_2211 : decode cL_law 2211 = .ok (.istore 6, 2) := by decide +kernel
theorem dL_law_2213 : decode cL_law 2213 = .ok (.aload_n 2, 1) := by decide +kernel
theorem dL_law_2214 : decode cL_law 2214 = .ok (.aload_n 0, 1) := by decide +kernel
theorem dL_law_2215 : decode cL_law 2215 = .ok (.iload 5, 2) := by decide +kernel
theorem dL_law_2217 : decode cL_law 2217 = .ok (.iconst 1, 1) := by decide +kernel
theorem dL_law_2218 : decode cL_law 2218 = .ok (.iadd, 1) := by decide +kernel
theorem dL_law_2219 : decode cL_law 2219 = .ok (.iaload, 1) := by decide +kernel
theorem dL_law_2220 : decode cL_law 2220 = .ok (.aload_n 0, 1) := by decide +kernel
theorem dL_law_2221 : decode cL_law 2221 = .ok (.iload 5, 2) := by decide +kernel
theorem dL_law_2223 : decode cL_law 2223 = .ok (.iconst 2, 1) := by decide +kernel
theorem dL_law_2224 : decode cL_law 2224 = .ok (.iadd, 1) := by decide +kernel
theorem dL_law_2225 : decode cL_law 2225 = .ok (.iaload, 1) := by decide +kernel
theorem dL_law_2226 : decode cL_law 2226 = .ok (.aload_n 0, 1) := by decide +kernel
theorem dL_law_2227 : decode cL_law 2227 = .ok (.iload 5, 2) := by decide +kernel
theorem dL_law_2229 : decode cL_law 2229 = .ok (.iconst 3, 1) := by decide +kernel
theorem dL_law_2230 : decode cL_law 2230 = .ok (.iadd, 1) := by decide +kernel
theorem dL_law_2231 : decode cL_law 2231 = .ok (.iaload, 1) := by decide +kernel
theorem dL_law_2232 : decode cL_law 2232 = .ok (.aload_n 0, 1) := by decide +kernel
theorem dL_law_2233 : decode cL_law 2233 = .ok (.iload 5, 2) := by decide +kernel
theorem dL_law_2235 : decode cL_law 2235 = .ok (.iconst 4, 1) := by decide +kernel
theorem dL_law_2236 : decode cL_law 2236 = .ok (.iadd, 1) := by decide +kernel
theorem dL_law_2237 : decode cL_law 2237 = .ok (.iaload, 1) := by decide +kernel
theorem dL_law_2238 : decode cL_law 2238 = .ok (.aload_n 0, 1) := by decide +kernel
theorem dL_law_2239 : decode cL_law 2239 = .ok (.iload 5, 2) := by decide +kernel
theorem dL_law_2241 : decode cL_law 2241 = .ok (.iconst 5, 1) := by decide +kernel
theorem dL_law_2242 : decode cL_law 2242 = .ok (.iadd, 1) := by decide +kernel
theorem dL_law_2243 : decode cL_law 2243 = .ok (.iaload, 1) := by decide +kernel
theorem dL_law_2244 : decode cL_law 2244 = .ok (.aload_n 0, 1) := by decide +kernel
theorem dL_law_2245 : decode cL_law 2245 = .ok (.iload 5, 2) := by decide +kernel
theorem dL_law_2247 : decode cL_law 2247 = .ok (.bipush 6, 2) := by decide +kernel
theorem dL_law_2249 : decode cL_law 2249 = .ok (.iadd, 1) := by decide +kernel
theorem dL_law_2250 : decode cL_law 2250 = .ok (.iaload, 1) := by decide +kernel
theorem dL_law_2251 : decode cL_law 2251 = .ok (.invokevirtual 274, 3) := by decide +kernel
theorem dL_law_2254 : decode cL_law 2254 = .ok (.istore 7, 2) := by decide +kernel
theorem dL_law_2256 : decode cL_law 2256 = .ok (.aload_n 2, 1) := by decide +kernel
theorem dL_law_2257 : decode cL_law 2257 = .ok (.invokevirtual 154, 3) := by decide +kernel
theorem dL_law_2260 : decode cL_law 2260 = .ok (.iload 6, 2) := by decide +kernel
theorem dL_law_2262 : decode cL_law 2262 = .ok (.if_icmp .eq 5, 3) := by decide +kernel
theorem dL_law_2265 : decode cL_law 2265 = .ok (.iconst 0, 1) := by decide +kernel
theorem dL_law_2266 : decode cL_law 2266 = .ok (.ireturn, 1) := by decide +kernel
theorem dL_law_2267 : decode cL_law 2267 = .ok (.iload 6, 2) := by decide +kernel
theorem dL_law_2269 : decode cL_law 2269 = .ok (.ifCond .ne 15, 3) := by decide +kernel
theorem dL_law_2272 : decode cL_law 2272 = .ok (.aload_n 3, 1) := by decide +kernel
theorem dL_law_2273 : decode cL_law 2273 = .ok (.iconst 0, 1) := by decide +kernel
theorem dL_law_2274 : decode cL_law 2274 = .ok (.laload, 1) := by decide +kernel
theorem dL_law_2275 : decode cL_law 2275 = .ok (.iload 7, 2) := by decide +kernel
theorem dL_law_2277 : decode cL_law 2277 = .ok (.i2l, 1) := by decide +kernel
theorem dL_law_2278 : decode cL_law 2278 = .ok (.lcmp, 1) := by decide +kernel
theorem dL_law_2279 : decode cL_law 2279 = .ok (.ifCond .eq 5, 3) := by decide +kernel
theorem dL_law_2282 : decode cL_law 2282 = .ok (.iconst 0, 1) := by decide +kernel
theorem dL_law_2283 : decode cL_law 2283 = .ok (.ireturn, 1) := by decide +kernel
theorem dL_law_2284 : decode cL_law 2284 = .ok (.goto 577, 3) := by decide +kernel
theorem dL_law_2287 : decode cL_law 2287 = .ok (.aload_n 1, 1) := by decide +kernel
theorem dL_law_2288 : decode cL_law 2288 = .ok (.aload_n 0, 1) := by decide +kernel
theorem dL_law_2289 : decode cL_law 2289 = .ok (.iload 5, 2) := by decide +kernel
theorem dL_law_2291 : decode cL_law 2291 = .ok (.iconst 1, 1) := by decide +kernel
theorem dL_law_2292 : decode cL_law 2292 = .ok (.iadd, 1) := by decide +kernel
theorem dL_law_2293 : decode cL_law 2293 = .ok (.iaload, 1) := by decide +kernel
theorem dL_law_2294 : decode cL_law 2294 = .ok (.aload_n 3, 1) := by decide +kernel
theorem dL_law_2295 : decode cL_law 2295 = .ok (.invokestatic 275, 3) := by decide +kernel
theorem dL_law_2298 : decode cL_law 2298 = .ok (.istore 6, 2) := by decide +kernel
theorem dL_law_2300 : decode cL_law 2300 = .ok (.aload_n 2, 1) := by decide +kernel
theorem dL_law_2301 : decode cL_law 2301 = .ok (.aload_n 0, 1) := by decide +kernel
theorem dL_law_2302 : decode cL_law 2302 = .ok (.iload 5, 2) := by decide +kernel
theorem dL_law_2304 : decode cL_law 2304 = .ok (.iconst 1, 1) := by decide +kernel
theorem dL_law_2305 : decode cL_law 2305 = .ok (.iadd, 1) := by decide +kernel
theorem dL_law_2306 : decode cL_law 2306 = .ok (.iaload, 1) := by decide +kernel
theorem dL_law_2307 : decode cL_law 2307 = .ok (.invokevirtual 277, 3) := by decide +kernel
theorem dL_law_2310 : decode cL_law 2310 = .ok (.istore 7, 2) := by decide +kernel
theorem dL_law_2312 : decode cL_law 2312 = .ok (.aload_n 2, 1) := by decide +kernel
theorem dL_law_2313 : decode cL_law 2313 = .ok (.invokevirtual 154, 3) := by decide +kernel
theorem dL_law_2316 : decode cL_law 2316 = .ok (.iload 6, 2) := by decide +kernel
theorem dL_law_2318 : decode cL_law 2318 = .ok (.if_icmp .eq 5, 3) := by decide +kernel
theorem dL_law_2321 : decode cL_law 2321 = .ok (.iconst 0, 1) := by decide +kernel
theorem dL_law_2322 : decode cL_law 2322 = .ok (.ireturn, 1) := by decide +kernel
theorem dL_law_2323 : decode cL_law 2323 = .ok (.iload 6, 2) := by decide +kernel
theorem dL_law_2325 : decode cL_law 2325 = .ok (.ifCond .ne 15, 3) := by decide +kernel
theorem dL_law_2328 : decode cL_law 2328 = .ok (.aload_n 3, 1) := by decide +kernel
theorem dL_law_2329 : decode cL_law 2329 = .ok (.iconst 0, 1) := by decide +kernel
theorem dL_law_2330 : decode cL_law 2330 = .ok (.laload, 1) := by decide +kernel
theorem dL_law_2331 : decode cL_law 2331 = .ok (.iload 7, 2) := by decide +kernel
theorem dL_law_2333 : decode cL_law 2333 = .ok (.i2l, 1) := by decide +kernel
theorem dL_law_2334 : decode cL_law 2334 = .ok (.lcmp, 1) := by decide +kernel
theorem dL_law_2335 : decode cL_law 2335 = .ok (.ifCond .eq 5, 3) := by decide +kernel
theorem dL_law_2338 : decode cL_law 2338 = .ok (.iconst 0, 1) := by decide +kernel
theorem dL_law_2339 : decode cL_law 2339 = .ok (.ireturn, 1) := by decide +kernel
theorem dL_law_2340 : decode cL_law 2340 = .ok (.goto 521, 3) := by decide +kernel
theorem dL_law_2343 : decode cL_law 2343 = .ok (.aload_n 1, 1) := by decide +kernel
theorem dL_law_2344 : decode cL_law 2344 = .ok (.aload_n 0, 1) := by decide +kernel
theorem dL_law_2345 : decode cL_law 2345 = .ok (.iload 5, 2) := by decide +kernel
theorem dL_law_2347 : decode cL_law 2347 = .ok (.iconst 1, 1) := by decide +kernel
theorem dL_law_2348 : decode cL_law 2348 = .ok (.iadd, 1) := by decide +kernel
theorem dL_law_2349 : decode cL_law 2349 = .ok (.iaload, 1) := by decide +kernel
theorem dL_law_2350 : decode cL_law 2350 = .ok (.aload_n 0, 1) := by decide +kernel
theorem dL_law_2351 : decode cL_law 2351 = .ok (.iload 5, 2) := by decide +kernel
theorem dL_law_2353 : decode cL_law 2353 = .ok (.iconst 2, 1) := by decide +kernel
theorem dL_law_2354 : decode cL_law 2354 = .ok (.iadd, 1) := by decide +kernel
theorem dL_law_2355 : decode cL_law 2355 = .ok (.iaload, 1) := by decide +kernel
theorem dL_law_2356 : decode cL_law 2356 = .ok (.ifCond .eq 7, 3) := by decide +kernel
theorem dL_law_2359 : decode cL_law 2359 = .ok (.iconst 1, 1) := by decide +kernel
theorem dL_law_2360 : decode cL_law 2360 = .ok (.goto 4, 3) := by decide +kernel
theorem dL_law_2363 : decode cL_law 2363 = .ok (.iconst 0, 1) := by decide +kernel
theorem dL_law_2364 : decode cL_law 2364 = .ok (.aload_n 3, 1) := by decide +kernel
theorem dL_law_2365 : decode cL_law 2365 = .ok (.invokestatic 278, 3) := by decide +kernel
theorem dL_law_2368 : decode cL_law 2368 = .ok (.istore 6, 2) := by decide +kernel
theorem dL_law_2370 : decode cL_law 2370 = .ok (.aload_n 2, 1) := by decide +kernel
theorem dL_law_2371 : decode cL_law 2371 = .ok (.aload_n 0, 1) := by decide +kernel
theorem dL_law_2372 : decode cL_law 2372 = .ok (.iload 5, 2) := by decide +kernel
theorem dL_law_2374 : decode cL_law 2374 = .ok (.iconst 1, 1) := by decide +kernel
theorem dL_law_2375 : decode cL_law 2375 = .ok (.iadd, 1) := by decide +kernel
theorem dL_law_2376 : decode cL_law 2376 = .ok (.iaload, 1) := by decide +kernel
theorem dL_law_2377 : decode cL_law 2377 = .ok (.aload_n 0, 1) := by decide +kernel
theorem dL_law_2378 : decode cL_law 2378 = .ok (.iload 5, 2) := by decide +kernel
theorem dL_law_2380 : decode cL_law 2380 = .ok (.iconst 2, 1) := by decide +kernel
theorem dL_law_2381 : decode cL_law 2381 = .ok (.iadd, 1) := by decide +kernel
theorem dL_law_2382 : decode cL_law 2382 = .ok (.iaload, 1) := by decide +kernel
theorem dL_law_2383 : decode cL_law 2383 = .ok (.ifCond .eq 7, 3) := by decide +kernel
theorem dL_law_2386 : decode cL_law 2386 = .ok (.iconst 1, 1) := by decide +kernel
theorem dL_law_2387 : decode cL_law 2387 = .ok (.goto 4, 3) := by decide +kernel
theorem dL_law_2390 : decode cL_law 2390 = .ok (.iconst 0, 1) := by decide +kernel
theorem dL_law_2391 : decode cL_law 2391 = .ok (.invokevirtual 281, 3) := by decide +kernel
theorem dL_law_2394 : decode cL_law 2394 = .ok (.istore 7, 2) := by decide +kernel
theorem dL_law_2396 : decode cL_law 2396 = .ok (.aload_n 2, 1) := by decide +kernel
theorem dL_law_2397 : decode cL_law 2397 = .ok (.invokevirtual 154, 3) := by decide +kernel
theorem dL_law_2400 : decode cL_law 2400 = .ok (.iload 6, 2) := by decide +kernel
theorem dL_law_2402 : decode cL_law 2402 = .ok (.if_icmp .eq 5, 3) := by decide +kernel
theorem dL_law_2405 : decode cL_law 2405 = .ok (.iconst 0, 1) := by decide +kernel
theorem dL_law_2406 : decode cL_law 2406 = .ok (.ireturn, 1) := by decide +kernel
theorem dL_law_2407 : decode cL_law 2407 = .ok (.iload 6, 2) := by decide +kernel
theorem dL_law_2409 : decode cL_law 2409 = .ok (.ifCond .ne 22, 3) := by decide +kernel
theorem dL_law_2412 : decode cL_law 2412 = .ok (.aload_n 3, 1) := by decide +kernel
theorem dL_law_2413 : decode cL_law 2413 = .ok (.iconst 0, 1) := by decide +kernel
theorem dL_law_2414 : decode cL_law 2414 = .ok (.laload, 1) := by decide +kernel
theorem dL_law_2415 : decode cL_law 2415 = .ok (.iload 7, 2) := by decide +kernel
theorem dL_law_2417 : decode cL_law 2417 = .ok (.ifCond .eq 7, 3) := by decide +kernel
theorem dL_law_2420 : decode cL_law 2420 = .ok (.lconst 1, 1) := by decide +kernel
theorem dL_law_2421 : decode cL_law 2421 = .ok (.goto 4, 3) := by decide +kernel
theorem dL_law_2424 : decode cL_law 2424 = .ok (.lconst 0, 1) := by decide +kernel
theorem dL_law_2425 : decode cL_law 2425 = .ok (.lcmp, 1) := by decide +kernel
theorem dL_law_2426 : decode cL_law 2426 = .ok (.ifCond .eq 5, 3) := by decide +kernel
theorem dL_law_2429 : decode cL_law 2429 = .ok (.iconst 0, 1) := by decide +kernel
theorem dL_law_2430 : decode cL_law 2430 = .ok (.ireturn, 1) := by decide +kernel
theorem dL_law_2431 : decode cL_law 2431 = .ok (.goto 430, 3) := by decide +kernel
theorem dL_law_2434 : decode cL_law 2434 = .ok (.aload_n 1, 1) := by decide +kernel
theorem dL_law_2435 : decode cL_law 2435 = .ok (.aload_n 0, 1) := by decide +kernel
theorem dL_law_2436 : decode cL_law 2436 = .ok (.iload 5, 2) := by decide +kernel
theorem dL_law_2438 : decode cL_law 2438 = .ok (.iconst 1, 1) := by decide +kernel
theorem dL_law_2439 : decode cL_law 2439 = .ok (.iadd, 1) := by decide +kernel
theorem dL_law_2440 : decode cL_law 2440 = .ok (.iaload, 1) := by decide +kernel
theorem dL_law_2441 : decode cL_law 2441 = .ok (.aload_n 0, 1) := by decide +kernel
theorem dL_law_2442 : decode cL_law 2442 = .ok (.iload 5, 2) := by decide +kernel
theorem dL_law_2444 : decode cL_law 2444 = .ok (.iconst 2, 1) := by decide +kernel
theorem dL_law_2445 : decode cL_law 2445 = .ok (.iadd, 1) := by decide +kernel
theorem dL_law_2446 : decode cL_law 2446 = .ok (.iaload, 1) := by decide +kernel
theorem dL_law_2447 : decode cL_law 2447 = .ok (.ifCond .eq 7, 3) := by decide +kernel
theorem dL_law_2450 : decode cL_law 2450 = .ok (.iconst 1, 1) := by decide +kernel
theorem dL_law_2451 : decode cL_law 2451 = .ok (.goto 4, 3) := by decide +kernel
theorem dL_law_2454 : decode cL_law 2454 = .ok (.iconst 0, 1) := by decide +kernel
theorem dL_law_2455 : decode cL_law 2455 = .ok (.aload_n 3, 1) := by decide +kernel
theorem dL_law_2456 : decode cL_law 2456 = .ok (.invokestatic 282, 3) := by decide +kernel
theorem dL_law_2459 : decode cL_law 2459 = .ok (.istore 6, 2) := by decide +kernel
theorem dL_law_2461 : decode cL_law 2461 = .ok (.aload_n 2, 1) := by decide +kernel
theorem dL_law_2462 : decode cL_law 2462 = .ok (.aload_n 0, 1) := by decide +kernel
theorem dL_law_2463 : decode cL_law 2463 = .ok (.iload 5, 2) := by decide +kernel
theorem dL_law_2465 : decode cL_law 2465 = .ok (.iconst 1, 1) := by decide +kernel
theorem dL_law_2466 : decode cL_law 2466 = .ok (.iadd, 1) := by decide +kernel
theorem dL_law_2467 : decode cL_law 2467 = .ok (.iaload, 1) := by decide +kernel
theorem dL_law_2468 : decode cL_law 2468 = .ok (.aload_n 0, 1) := by decide +kernel
theorem dL_law_2469 : decode cL_law 2469 = .ok (.iload 5, 2) := by decide +kernel
theorem dL_law_2471 : decode cL_law 2471 = .ok (.iconst 2, 1) := by decide +kernel
theorem dL_law_2472 : decode cL_law 2472 = .ok (.iadd, 1) := by decide +kernel
theorem dL_law_2473 : decode cL_law 2473 = .ok (.iaload, 1) := by decide +kernel
theorem dL_law_2474 : decode cL_law 2474 = .ok (.ifCond .eq 7, 3) := by decide +kernel
theorem dL_law_2477 : decode cL_law 2477 = .ok (.iconst 1, 1) := by decide +kernel
theorem dL_law_2478 : decode cL_law 2478 = .ok (.goto 4, 3) := by decide +kernel
theorem dL_law_2481 : decode cL_law 2481 = .ok (.iconst 0, 1) := by decide +kernel
theorem dL_law_2482 : decode cL_law 2482 = .ok (.invokevirtual 284, 3) := by decide +kernel
theorem dL_law_2485 : decode cL_law 2485 = .ok (.istore 7, 2) := by decide +kernel
theorem dL_law_2487 : decode cL_law 2487 = .ok (.aload_n 2, 1) := by decide +kernel
theorem dL_law_2488 : decode cL_law 2488 = .ok (.invokevirtual 154, 3) := by decide +kernel
theorem dL_law_2491 : decode cL_law 2491 = .ok (.iload 6, 2) := by decide +kernel
theorem dL_law_2493 : decode cL_law 2493 = .ok (.if_icmp .eq 5, 3) := by decide +kernel
theorem dL_law_2496 : decode cL_law 2496 = .ok (.iconst 0, 1) := by decide +kernel
theorem dL_law_2497 : decode cL_law 2497 = .ok (.ireturn, 1) := by decide +kernel
theorem dL_law_2498 : decode cL_law 2498 = .ok (.iload 6, 2) := by decide +kernel
theorem dL_law_2500 : decode cL_law 2500 = .ok (.ifCond .ne 22, 3) := by decide +kernel
theorem dL_law_2503 : decode cL_law 2503 = .ok (.aload_n 3, 1) := by decide +kernel
theorem dL_law_2504 : decode cL_law 2504 = .ok (.iconst 0, 1) := by decide +kernel
theorem dL_law_2505 : decode cL_law 2505 = .ok (.laload, 1) := by decide +kernel
theorem dL_law_2506 : decode cL_law 2506 = .ok (.iload 7, 2) := by decide +kernel
theorem dL_law_2508 : decode cL_law 2508 = .ok (.ifCond .eq 7, 3) := by decide +kernel
theorem dL_law_2511 : decode cL_law 2511 = .ok (.lconst 1, 1) := by decide +kernel
theorem dL_law_2512 : decode cL_law 2512 = .ok (.goto 4, 3) := by decide +kernel
theorem dL_law_2515 : decode cL_law 2515 = .ok (.lconst 0, 1) := by decide +kernel
theorem dL_law_2516 : decode cL_law 2516 = .ok (.lcmp, 1) := by decide +kernel
theorem dL_law_2517 : decode cL_law 2517 = .ok (.ifCond .eq 5, 3) := by decide +kernel
theorem dL_law_2520 : decode cL_law 2520 = .ok (.iconst 0, 1) := by decide +kernel
theorem dL_law_2521 : decode cL_law 2521 = .ok (.ireturn, 1) := by decide +kernel
theorem dL_law_2522 : decode cL_law 2522 = .ok (.goto 339, 3) := by decide +kernel
theorem dL_law_2525 : decode cL_law 2525 = .ok (.aload_n 1, 1) := by decide +kernel
theorem dL_law_2526 : decode cL_law 2526 = .ok (.aload_n 0, 1) := by decide +kernel
theorem dL_law_2527 : decode cL_law 2527 = .ok (.iload 5, 2) := by decide +kernel
theorem dL_law_2529 : decode cL_law 2529 = .ok (.iconst 1, 1) := by decide +kernel
theorem dL_law_2530 : decode cL_law 2530 = .ok (.iadd, 1) := by decide +kernel
theorem dL_law_2531 : decode cL_law 2531 = .ok (.iaload, 1) := by decide +kernel
theorem dL_law_2532 : decode cL_law 2532 = .ok (.aload_n 3, 1) := by decide +kernel
theorem dL_law_2533 : decode cL_law 2533 = .ok (.invokestatic 285, 3) := by decide +kernel
theorem dL_law_2536 : decode cL_law 2536 = .ok (.istore 6, 2) := by decide +kernel
theorem dL_law_2538 : decode cL_law 2538 = .ok (.aload_n 2, 1) := by decide +kernel
theorem dL_law_2539 : decode cL_law 2539 = .ok (.aload_n 0, 1) := by decide +kernel
theorem dL_law_2540 : decode cL_law 2540 = .ok (.iload 5, 2) := by decide +kernel
theorem dL_law_2542 : decode cL_law 2542 = .ok (.iconst 1, 1) := by decide +kernel
theorem dL_law_2543 : decode cL_law 2543 = .ok (.iadd, 1) := by decide +kernel
theorem dL_law_2544 : decode cL_law 2544 = .ok (.iaload, 1) := by decide +kernel
theorem dL_law_2545 : decode cL_law 2545 = .ok (.invokevirtual 287, 3) := by decide +kernel
theorem dL_law_2548 : decode cL_law 2548 = .ok (.istore 7, 2) := by decide +kernel
theorem dL_law_2550 : decode cL_law 2550 = .ok (.aload_n 2, 1) := by decide +kernel
theorem dL_law_2551 : decode cL_law 2551 = .ok (.invokevirtual 154, 3) := by decide +kernel
theorem dL_law_2554 : decode cL_law 2554 = .ok (.iload 6, 2) := by decide +kernel
theorem dL_law_2556 : decode cL_law 2556 = .ok (.if_icmp .eq 5, 3) := by decide +kernel
theorem dL_law_2559 : decode cL_law 2559 = .ok (.iconst 0, 1) := by decide +kernel
theorem dL_law_2560 : decode cL_law 2560 = .ok (.ireturn, 1) := by decide +kernel
theorem dL_law_2561 : decode cL_law 2561 = .ok (.iload 6, 2) := by decide +kernel
theorem dL_law_2563 : decode cL_law 2563 = .ok (.ifCond .ne 15, 3) := by decide +kernel
theorem dL_law_2566 : decode cL_law 2566 = .ok (.aload_n 3, 1) := by decide +kernel
theorem dL_law_2567 : decode cL_law 2567 = .ok (.iconst 0, 1) := by decide +kernel
theorem dL_law_2568 : decode cL_law 2568 = .ok (.laload, 1) := by decide +kernel
theorem dL_law_2569 : decode cL_law 2569 = .ok (.iload 7, 2) := by decide +kernel
theorem dL_law_2571 : decode cL_law 2571 = .ok (.i2l, 1) := by decide +kernel
theorem dL_law_2572 : decode cL_law 2572 = .ok (.lcmp, 1) := by decide +kernel
theorem dL_law_2573 : decode cL_law 2573 = .ok (.ifCond .eq 5, 3) := by decide +kernel
theorem dL_law_2576 : decode cL_law 2576 = .ok (.iconst 0, 1) := by decide +kernel
theorem dL_law_2577 : decode cL_law 2577 = .ok (.ireturn, 1) := by decide +kernel
theorem dL_law_2578 : decode cL_law 2578 = .ok (.goto 283, 3) := by decide +kernel
theorem dL_law_2581 : decode cL_law 2581 = .ok (.aload_n 1, 1) := by decide +kernel
theorem dL_law_2582 : decode cL_law 2582 = .ok (.aload_n 0, 1) := by decide +kernel
theorem dL_law_2583 : decode cL_law 2583 = .ok (.iload 5, 2) := by decide +kernel
theorem dL_law_2585 : decode cL_law 2585 = .ok (.iconst 1, 1) := by decide +kernel
theorem dL_law_2586 : decode cL_law 2586 = .ok (.iadd, 1) := by decide +kernel
theorem dL_law_2587 : decode cL_law 2587 = .ok (.iaload, 1) := by decide +kernel
theorem dL_law_2588 : decode cL_law 2588 = .ok (.aload_n 3, 1) := by decide +kernel
theorem dL_law_2589 : decode cL_law 2589 = .ok (.invokestatic 288, 3) := by decide +kernel
theorem dL_law_2592 : decode cL_law 2592 = .ok (.istore 6, 2) := by decide +kernel
theorem dL_law_2594 : decode cL_law 2594 = .ok (.aload_n 2, 1) := by decide +kernel
theorem dL_law_2595 : decode cL_law 2595 = .ok (.aload_n 0, 1) := by decide +kernel
theorem dL_law_2596 : decode cL_law 2596 = .ok (.iload 5, 2) := by decide +kernel
theorem dL_law_2598 : decode cL_law 2598 = .ok (.iconst 1, 1) := by decide +kernel
theorem dL_law_2599 : decode cL_law 2599 = .ok (.iadd, 1) := by decide +kernel
theorem dL_law_2600 : decode cL_law 2600 = .ok (.iaload, 1) := by decide +kernel
theorem dL_law_2601 : decode cL_law 2601 = .ok (.invokevirtual 290, 3) := by decide +kernel
theorem dL_law_2604 : decode cL_law 2604 = .ok (.istore 7, 2) := by decide +kernel
theorem dL_law_2606 : decode cL_law 2606 = .ok (.aload_n 2, 1) := by decide +kernel
theorem dL_law_2607 : decode cL_law 2607 = .ok (.invokevirtual 154, 3) := by decide +kernel
theorem dL_law_2610 : decode cL_law 2610 = .ok (.iload 6, 2) := by decide +kernel
theorem dL_law_2612 : decode cL_law 2612 = .ok (.if_icmp .eq 5, 3) := by decide +kernel
theorem dL_law_2615 : decode cL_law 2615 = .ok (.iconst 0, 1) := by decide +kernel
theorem dL_law_2616 : decode cL_law 2616 = .ok (.ireturn, 1) := by decide +kernel
theorem dL_law_2617 : decode cL_law 2617 = .ok (.iload 6, 2) := by decide +kernel
theorem dL_law_2619 : decode cL_law 2619 = .ok (.ifCond .ne 15, 3) := by decide +kernel
theorem dL_law_2622 : decode cL_law 2622 = .ok (.aload_n 3, 1) := by decide +kernel
theorem dL_law_2623 : decode cL_law 2623 = .ok (.iconst 0, 1) := by decide +kernel
theorem dL_law_2624 : decode cL_law 2624 = .ok (.laload, 1) := by decide +kernel
theorem dL_law_2625 : decode cL_law 2625 = .ok (.iload 7, 2) := by decide +kernel
theorem dL_law_2627 : decode cL_law 2627 = .ok (.i2l, 1) := by decide +kernel
theorem dL_law_2628 : decode cL_law 2628 = .ok (.lcmp, 1) := by decide +kernel
theorem dL_law_2629 : decode cL_law 2629 = .ok (.ifCond .eq 5, 3) := by decide +kernel
theorem dL_law_2632 : decode cL_law 2632 = .ok (.iconst 0, 1) := by decide +kernel
theorem dL_law_2633 : decode cL_law 2633 = .ok (.ireturn, 1) := by decide +kernel
theorem dL_law_2634 : decode cL_law 2634 = .ok (.goto 227, 3) := by decide +kernel
theorem dL_law_2637 : decode cL_law 2637 = .ok (.aload_n 1, 1) := by decide +kernel
theorem dL_law_2638 : decode cL_law 2638 = .ok (.aload_n 0, 1) := by decide +kernel
theorem dL_law_2639 : decode cL_law 2639 = .ok (.iload 5, 2) := by decide +kernel
theorem dL_law_2641 : decode cL_law 2641 = .ok (.iconst 1, 1) := by decide +kernel
theorem dL_law_2642 : decode cL_law 2642 = .ok (.iadd, 1) := by decide +kernel
theorem dL_law_2643 : decode cL_law 2643 = .ok (.iaload, 1) := by decide +kernel
theorem dL_law_2644 : decode cL_law 2644 = .ok (.aload_n 0, 1) := by decide +kernel
theorem dL_law_2645 : decode cL_law 2645 = .ok (.iload 5, 2) := by decide +kernel
theorem dL_law_2647 : decode cL_law 2647 = .ok (.iconst 2, 1) := by decide +kernel
theorem dL_law_2648 : decode cL_law 2648 = .ok (.iadd, 1) := by decide +kernel
theorem dL_law_2649 : decode cL_law 2649 = .ok (.iaload, 1) := by decide +kernel
theorem dL_law_2650 : decode cL_law 2650 = .ok (.aload_n 3, 1) := by decide +kernel
theorem dL_law_2651 : decode cL_law 2651 = .ok (.invokestatic 291, 3) := by decide +kernel
theorem dL_law_2654 : decode cL_law 2654 = .ok (.istore 6, 2) := by decide +kernel
theorem dL_law_2656 : decode cL_law 2656 = .ok (.aload_n 2, 1) := by decide +kernel
theorem dL_law_2657 : decode cL_law 2657 = .ok (.aload_n 0, 1) := by decide +kernel
theorem dL_law_2658 : decode cL_law 2658 = .ok (.iload 5, 2) := by decide +kernel
theorem dL_law_2660 : decode cL_law 2660 = .ok (.iconst 1, 1) := by decide +kernel
theorem dL_law_2661 : decode cL_law 2661 = .ok (.iadd, 1) := by decide +kernel
theorem dL_law_2662 : decode cL_law 2662 = .ok (.iaload, 1) := by decide +kernel
theorem dL_law_2663 : decode cL_law 2663 = .ok (.aload_n 0, 1) := by decide +kernel
theorem dL_law_2664 : decode cL_law 2664 = .ok (.iload 5, 2) := by decide +kernel
theorem dL_law_2666 : decode cL_law 2666 = .ok (.iconst 2, 1) := by decide +kernel
theorem dL_law_2667 : decode cL_law 2667 = .ok (.iadd, 1) := by decide +kernel
theorem dL_law_2668 : decode cL_law 2668 = .ok (.iaload, 1) := by decide +kernel
theorem dL_law_2669 : decode cL_law 2669 = .ok (.invokevirtual 293, 3) := by decide +kernel
theorem dL_law_2672 : decode cL_law 2672 = .ok (.istore 7, 2) := by decide +kernel
theorem dL_law_2674 : decode cL_law 2674 = .ok (.aload_n 2, 1) := by decide +kernel
theorem dL_law_2675 : decode cL_law 2675 = .ok (.invokevirtual 154, 3) := by decide +kernel
theorem dL_law_2678 : decode cL_law 2678 = .ok (.iload 6, 2) := by decide +kernel
theorem dL_law_2680 : decode cL_law 2680 = .ok (.if_icmp .eq 5, 3) := by decide +kernel
theorem dL_law_2683 : decode cL_law 2683 = .ok (.iconst 0, 1) := by decide +kernel
theorem dL_law_2684 : decode cL_law 2684 = .ok (.ireturn, 1) := by decide +kernel
theorem dL_law_2685 : decode cL_law 2685 = .ok (.iload 6, 2) := by decide +kernel
theorem dL_law_2687 : decode cL_law 2687 = .ok (.ifCond .ne 15, 3) := by decide +kernel
theorem dL_law_2690 : decode cL_law 2690 = .ok (.aload_n 3, 1) := by decide +kernel
theorem dL_law_2691 : decode cL_law 2691 = .ok (.iconst 0, 1) := by decide +kernel
theorem dL_law_2692 : decode cL_law 2692 = .ok (.laload, 1) := by decide +kernel
theorem dL_law_2693 : decode cL_law 2693 = .ok (.iload 7, 2) := by decide +kernel
theorem dL_law_2695 : decode cL_law 2695 = .ok (.i2l, 1) := by decide +kernel
theorem dL_law_2696 : decode cL_law 2696 = .ok (.lcmp, 1) := by decide +kernel
theorem dL_law_2697 : decode cL_law 2697 = .ok (.ifCond .eq 5, 3) := by decide +kernel
theorem dL_law_2700 : decode cL_law 2700 = .ok (.iconst 0, 1) := by decide +kernel
theorem dL_law_2701 : decode cL_law 2701 = .ok (.ireturn, 1) := by decide +kernel
theorem dL_law_2702 : decode cL_law 2702 = .ok (.goto 159, 3) := by decide +kernel
theorem dL_law_2705 : decode cL_law 2705 = .ok (.aload_n 1, 1) := by decide +kernel
theorem dL_law_2706 : decode cL_law 2706 = .ok (.aload_n 3, 1) := by decide +kernel
theorem dL_law_2707 : decode cL_law 2707 = .ok (.invokestatic 294, 3) := by decide +kernel
theorem dL_law_2710 : decode cL_law 2710 = .ok (.istore 6, 2) := by decide +kernel
theorem dL_law_2712 : decode cL_law 2712 = .ok (.aload_n 2, 1) := by decide +kernel
theorem dL_law_2713 : decode cL_law 2713 = .ok (.invokevirtual 296, 3) := by decide +kernel
theorem dL_law_2716 : decode cL_law 2716 = .ok (.istore 7, 2) := by decide +kernel
theorem dL_law_2718 : decode cL_law 2718 = .ok (.aload_n 2, 1) := by decide +kernel
theorem dL_law_2719 : decode cL_law 2719 = .ok (.invokevirtual 154, 3) := by decide +kernel
theorem dL_law_2722 : decode cL_law 2722 = .ok (.iload 6, 2) := by decide +kernel
theorem dL_law_2724 : decode cL_law 2724 = .ok (.if_icmp .eq 5, 3) := by decide +kernel
theorem dL_law_2727 : decode cL_law 2727 = .ok (.iconst 0, 1) := by decide +kernel
theorem dL_law_2728 : decode cL_law 2728 = .ok (.ireturn, 1) := by decide +kernel
theorem dL_law_2729 : decode cL_law 2729 = .ok (.iload 6, 2) := by decide +kernel
theorem dL_law_2731 : decode cL_law 2731 = .ok (.ifCond .ne 15, 3) := by decide +kernel
theorem dL_law_2734 : decode cL_law 2734 = .ok (.aload_n 3, 1) := by decide +kernel
theorem dL_law_2735 : decode cL_law 2735 = .ok (.iconst 0, 1) := by decide +kernel
theorem dL_law_2736 : decode cL_law 2736 = .ok (.laload, 1) := by decide +kernel
theorem dL_law_2737 : decode cL_law 2737 = .ok (.iload 7, 2) := by decide +kernel
theorem dL_law_2739 : decode cL_law 2739 = .ok (.i2l, 1) := by decide +kernel
theorem dL_law_2740 : decode cL_law 2740 = .ok (.lcmp, 1) := by decide +kernel
theorem dL_law_2741 : decode cL_law 2741 = .ok (.ifCond .eq 5, 3) := by decide +kernel
theorem dL_law_2744 : decode cL_law 2744 = .ok (.iconst 0, 1) := by decide +kernel
theorem dL_law_2745 : decode cL_law 2745 = .ok (.ireturn, 1) := by decide +kernel
theorem dL_law_2746 : decode cL_law 2746 = .ok (.goto 115, 3) := by decide +kernel
theorem dL_law_2749 : decode cL_law 2749 = .ok (.aload_n 1, 1) := by decide +kernel
theorem dL_law_2750 : decode cL_law 2750 = .ok (.aload_n 0, 1) := by decide +kernel
theorem dL_law_2751 : decode cL_law 2751 = .ok (.iload 5, 2) := by decide +kernel
theorem dL_law_2753 : decode cL_law 2753 = .ok (.iconst 1, 1) := by decide +kernel
theorem dL_law_2754 : decode cL_law 2754 = .ok (.iadd, 1) := by decide +kernel
theorem dL_law_2755 : decode cL_law 2755 = .ok (.iaload, 1) := by decide +kernel
theorem dL_law_2756 : decode cL_law 2756 = .ok (.aload_n 3, 1) := by decide +kernel
theorem dL_law_2757 : decode cL_law 2757 = .ok (.invokestatic 297, 3) := by decide +kernel
theorem dL_law_2760 : decode cL_law 2760 = .ok (.istore 6, 2) := by decide +kernel
theorem dL_law_2762 : decode cL_law 2762 = .ok (.aload_n 2, 1) := by decide +kernel
theorem dL_law_2763 : decode cL_law 2763 = .ok (.aload_n 0, 1) := by decide +kernel
theorem dL_law_2764 : decode cL_law 2764 = .ok (.iload 5, 2) := by decide +kernel
theorem dL_law_2766 : decode cL_law 2766 = .ok (.iconst 1, 1) := by decide +kernel
theorem dL_law_2767 : decode cL_law 2767 = .ok (.iadd, 1) := by decide +kernel
theorem dL_law_2768 : decode cL_law 2768 = .ok (.iaload, 1) := by decide +kernel
theorem dL_law_2769 : decode cL_law 2769 = .ok (.invokevirtual 299, 3) := by decide +kernel
theorem dL_law_2772 : decode cL_law 2772 = .ok (.istore 7, 2) := by decide +kernel
theorem dL_law_2774 : decode cL_law 2774 = .ok (.aload_n 2, 1) := by decide +kernel
theorem dL_law_2775 : decode cL_law 2775 = .ok (.invokevirtual 154, 3) := by decide +kernel
theorem dL_law_2778 : decode cL_law 2778 = .ok (.iload 6, 2) := by decide +kernel
theorem dL_law_2780 : decode cL_law 2780 = .ok (.if_icmp .eq 5, 3) := by decide +kernel
theorem dL_law_2783 : decode cL_law 2783 = .ok (.iconst 0, 1) := by decide +kernel
theorem dL_law_2784 : decode cL_law 2784 = .ok (.ireturn, 1) := by decide +kernel
theorem dL_law_2785 : decode cL_law 2785 = .ok (.iload 6, 2) := by decide +kernel
theorem dL_law_2787 : decode cL_law 2787 = .ok (.ifCond .ne 15, 3) := by decide +kernel
theorem dL_law_2790 : decode cL_law 2790 = .ok (.aload_n 3, 1) := by decide +kernel
theorem dL_law_2791 : decode cL_law 2791 = .ok (.iconst 0, 1) := by decide +kernel
theorem dL_law_2792 : decode cL_law 2792 = .ok (.laload, 1) := by decide +kernel
theorem dL_law_2793 : decode cL_law 2793 = .ok (.iload 7, 2) := by decide +kernel
theorem dL_law_2795 : decode cL_law 2795 = .ok (.i2l, 1) := by decide +kernel
theorem dL_law_2796 : decode cL_law 2796 = .ok (.lcmp, 1) := by decide +kernel
theorem dL_law_2797 : decode cL_law 2797 = .ok (.ifCond .eq 5, 3) := by decide +kernel
theorem dL_law_2800 : decode cL_law 2800 = .ok (.iconst 0, 1) := by decide +kernel
theorem dL_law_2801 : decode cL_law 2801 = .ok (.ireturn, 1) := by decide +kernel
theorem dL_law_2802 : decode cL_law 2802 = .ok (.goto 59, 3) := by decide +kernel
theorem dL_law_2805 : decode cL_law 2805 = .ok (.aload_n 1, 1) := by decide +kernel
theorem dL_law_2806 : decode cL_law 2806 = .ok (.aload_n 0, 1) := by decide +kernel
theorem dL_law_2807 : decode cL_law 2807 = .ok (.iload 5, 2) := by decide +kernel
theorem dL_law_2809 : decode cL_law 2809 = .ok (.iconst 1, 1) := by decide +kernel
theorem dL_law_2810 : decode cL_law 2810 = .ok (.iadd, 1) := by decide +kernel
theorem dL_law_2811 : decode cL_law 2811 = .ok (.iaload, 1) := by decide +kernel
theorem dL_law_2812 : decode cL_law 2812 = .ok (.aload_n 3, 1) := by decide +kernel
theorem dL_law_2813 : decode cL_law 2813 = .ok (.invokestatic 300, 3) := by decide +kernel
theorem dL_law_2816 : decode cL_law 2816 = .ok (.istore 6, 2) := by decide +kernel
theorem dL_law_2818 : decode cL_law 2818 = .ok (.aload_n 2, 1) := by decide +kernel
theorem dL_law_2819 : decode cL_law 2819 = .ok (.aload_n 0, 1) := by decide +kernel
theorem dL_law_2820 : decode cL_law 2820 = .ok (.iload 5, 2) := by decide +kernel
theorem dL_law_2822 : decode cL_law 2822 = .ok (.iconst 1, 1) := by decide +kernel
theorem dL_law_2823 : decode cL_law 2823 = .ok (.iadd, 1) := by decide +kernel
theorem dL_law_2824 : decode cL_law 2824 = .ok (.iaload, 1) := by decide +kernel
theorem dL_law_2825 : decode cL_law 2825 = .ok (.invokevirtual 302, 3) := by decide +kernel
theorem dL_law_2828 : decode cL_law 2828 = .ok (.istore 7, 2) := by decide +kernel
theorem dL_law_2830 : decode cL_law 2830 = .ok (.aload_n 2, 1) := by decide +kernel
theorem dL_law_2831 : decode cL_law 2831 = .ok (.invokevirtual 154, 3) := by decide +kernel
theorem dL_law_2834 : decode cL_law 2834 = .ok (.iload 6, 2) := by decide +kernel
theorem dL_law_2836 : decode cL_law 2836 = .ok (.if_icmp .eq 5, 3) := by decide +kernel
theorem dL_law_2839 : decode cL_law 2839 = .ok (.iconst 0, 1) := by decide +kernel
theorem dL_law_2840 : decode cL_law 2840 = .ok (.ireturn, 1) := by decide +kernel
theorem dL_law_2841 : decode cL_law 2841 = .ok (.iload 6, 2) := by decide +kernel
theorem dL_law_2843 : decode cL_law 2843 = .ok (.ifCond .ne 15, 3) := by decide +kernel
theorem dL_law_2846 : decode cL_law 2846 = .ok (.aload_n 3, 1) := by decide +kernel
theorem dL_law_2847 : decode cL_law 2847 = .ok (.iconst 0, 1) := by decide +kernel
theorem dL_law_2848 : decode cL_law 2848 = .ok (.laload, 1) := by decide +kernel
theorem dL_law_2849 : decode cL_law 2849 = .ok (.iload 7, 2) := by decide +kernel
theorem dL_law_2851 : decode cL_law 2851 = .ok (.i2l, 1) := by decide +kernel
theorem dL_law_2852 : decode cL_law 2852 = .ok (.lcmp, 1) := by decide +kernel
theorem dL_law_2853 : decode cL_law 2853 = .ok (.ifCond .eq 5, 3) := by decide +kernel
theorem dL_law_2856 : decode cL_law 2856 = .ok (.iconst 0, 1) := by decide +kernel
theorem dL_law_2857 : decode cL_law 2857 = .ok (.ireturn, 1) := by decide +kernel
theorem dL_law_2858 : decode cL_law 2858 = .ok (.goto 3, 3) := by decide +kernel
theorem dL_law_2861 : decode cL_law 2861 = .ok (.iinc 5 7, 3) := by decide +kernel
theorem dL_law_2864 : decode cL_law 2864 = .ok (.goto (-2836), 3) := by decide +kernel
theorem dL_law_2867 : decode cL_law 2867 = .ok (.iconst 1, 1) := by decide +kernel
theorem dL_law_2868 : decode cL_law 2868 = .ok (.ireturn, 1) := by decide +kernel
