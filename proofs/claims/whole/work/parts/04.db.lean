theorem dX7_init_0 : decode cX7_init 0 = .ok (.aload_n 0, 1) := by decide +kernel
theorem dX7_init_1 : decode cX7_init 1 = .ok (.invokespecial 3, 3) := by decide +kernel
theorem dX7_init_4 : decode cX7_init 4 = .ok (.aload_n 0, 1) := by decide +kernel
theorem dX7_init_5 : decode cX7_init 5 = .ok (.bipush 8, 2) := by decide +kernel
theorem dX7_init_7 : decode cX7_init 7 = .ok (.newarray .int, 2) := by decide +kernel
theorem dX7_init_9 : decode cX7_init 9 = .ok (.putfield 11, 3) := by decide +kernel
theorem dX7_init_12 : decode cX7_init 12 = .ok (.aload_n 0, 1) := by decide +kernel
theorem dX7_init_13 : decode cX7_init 13 = .ok (.bipush 8, 2) := by decide +kernel
theorem dX7_init_15 : decode cX7_init 15 = .ok (.newarray .int, 2) := by decide +kernel
theorem dX7_init_17 : decode cX7_init 17 = .ok (.putfield 15, 3) := by decide +kernel
theorem dX7_init_20 : decode cX7_init 20 = .ok (.aload_n 0, 1) := by decide +kernel
theorem dX7_init_21 : decode cX7_init 21 = .ok (.bipush 8, 2) := by decide +kernel
theorem dX7_init_23 : decode cX7_init 23 = .ok (.newarray .int, 2) := by decide +kernel
theorem dX7_init_25 : decode cX7_init 25 = .ok (.putfield 18, 3) := by decide +kernel
theorem dX7_init_28 : decode cX7_init 28 = .ok (.aload_n 0, 1) := by decide +kernel
theorem dX7_init_29 : decode cX7_init 29 = .ok (.bipush 8, 2) := by decide +kernel
theorem dX7_init_31 : decode cX7_init 31 = .ok (.newarray .int, 2) := by decide +kernel
theorem dX7_init_33 : decode cX7_init 33 = .ok (.putfield 21, 3) := by decide +kernel
theorem dX7_init_36 : decode cX7_init 36 = .ok (.aload_n 0, 1) := by decide +kernel
theorem dX7_init_37 : decode cX7_init 37 = .ok (.bipush 8, 2) := by decide +kernel
theorem dX7_init_39 : decode cX7_init 39 = .ok (.newarray .int, 2) := by decide +kernel
theorem dX7_init_41 : decode cX7_init 41 = .ok (.putfield 24, 3) := by decide +kernel
theorem dX7_init_44 : decode cX7_init 44 = .ok (.aload_n 0, 1) := by decide +kernel
theorem dX7_init_45 : decode cX7_init 45 = .ok (.bipush 64, 2) := by decide +kernel
theorem dX7_init_47 : decode cX7_init 47 = .ok (.newarray .int, 2) := by decide +kernel
theorem dX7_init_49 : decode cX7_init 49 = .ok (.putfield 27, 3) := by decide +kernel
theorem dX7_init_52 : decode cX7_init 52 = .ok (.aload_n 0, 1) := by decide +kernel
theorem dX7_init_53 : decode cX7_init 53 = .ok (.bipush 78, 2) := by decide +kernel
theorem dX7_init_55 : decode cX7_init 55 = .ok (.newarray .byte, 2) := by decide +kernel
theorem dX7_init_57 : decode cX7_init 57 = .ok (.putfield 30, 3) := by decide +kernel
theorem dX7_init_60 : decode cX7_init 60 = .ok (.aload_n 0, 1) := by decide +kernel
theorem dX7_init_61 : decode cX7_init 61 = .ok (.aload_n 1, 1) := by decide +kernel
theorem dX7_init_62 : decode cX7_init 62 = .ok (.putfield 34, 3) := by decide +kernel
theorem dX7_init_65 : decode cX7_init 65 = .ok (.return_, 1) := by decide +kernel
theorem dX7_load_0 : decode cX7_load 0 = .ok (.iconst 0, 1) := by decide +kernel
theorem dX7_load_1 : decode cX7_load 1 = .ok (.istore_n 1, 1) := by decide +kernel
theorem dX7_load_2 : decode cX7_load 2 = .ok (.iload_n 1, 1) := by decide +kernel
theorem dX7_load_3 : decode cX7_load 3 = .ok (.bipush 8, 2) := by decide +kernel
theorem dX7_load_5 : decode cX7_load 5 = .ok (.if_icmp .ge 33, 3) := by decide +kernel
theorem dX7_load_8 : decode cX7_load 8 = .ok (.aload_n 0, 1) := by decide +kernel
theorem dX7_load_9 : decode cX7_load 9 = .ok (.iload_n 1, 1) := by decide +kernel
theorem dX7_load_10 : decode cX7_load 10 = .ok (.invokevirtual 38, 3) := by decide +kernel
theorem dX7_load_13 : decode cX7_load 13 = .ok (.aload_n 0, 1) := by decide +kernel
theorem dX7_load_14 : decode cX7_load 14 = .ok (.getfield 11, 3) := by decide +kernel
theorem dX7_load_17 : decode cX7_load 17 = .ok (.iload_n 1, 1) := by decide +kernel
theorem dX7_load_18 : decode cX7_load 18 = .ok (.lconst 0, 1) := by decide +kernel
theorem dX7_load_19 : decode cX7_load 19 = .ok (.aload_n 0, 1) := by decide +kernel
theorem dX7_load_20 : decode cX7_load 20 = .ok (.iload_n 1, 1) := by decide +kernel
theorem dX7_load_21 : decode cX7_load 21 = .ok (.sipush 255, 3) := by decide +kernel
theorem dX7_load_24 : decode cX7_load 24 = .ok (.invokevirtual 42, 3) := by decide +kernel
theorem dX7_load_27 : decode cX7_load 27 = .ok (.invokestatic 46, 3) := by decide +kernel
theorem dX7_load_30 : decode cX7_load 30 = .ok (.l2i, 1) := by decide +kernel
theorem dX7_load_31 : decode cX7_load 31 = .ok (.iastore, 1) := by decide +kernel
theorem dX7_load_32 : decode cX7_load 32 = .ok (.iinc 1 1, 3) := by decide +kernel
theorem dX7_load_35 : decode cX7_load 35 = .ok (.goto (-33), 3) := by decide +kernel
theorem dX7_load_38 : decode cX7_load 38 = .ok (.return_, 1) := by decide +kernel
theorem dX7_enter_0 : decode cX7_enter 0 = .ok (.aload_n 0, 1) := by decide +kernel
theorem dX7_enter_1 : decode cX7_enter 1 = .ok (.getfield 15, 3) := by decide +kernel
theorem dX7_enter_4 : decode cX7_enter 4 = .ok (.iload_n 1, 1) := by decide +kernel
theorem dX7_enter_5 : decode cX7_enter 5 = .ok (.iaload, 1) := by decide +kernel
theorem dX7_enter_6 : decode cX7_enter 6 = .ok (.iconst 1, 1) := by decide +kernel
theorem dX7_enter_7 : decode cX7_enter 7 = .ok (.if_icmp .eq 8, 3) := by decide +kernel
theorem dX7_enter_10 : decode cX7_enter 10 = .ok (.aload_n 0, 1) := by decide +kernel
theorem dX7_enter_11 : decode cX7_enter 11 = .ok (.iload_n 1, 1) := by decide +kernel
theorem dX7_enter_12 : decode cX7_enter 12 = .ok (.invokevirtual 52, 3) := by decide +kernel
theorem dX7_enter_15 : decode cX7_enter 15 = .ok (.aload_n 0, 1) := by decide +kernel
theorem dX7_enter_16 : decode cX7_enter 16 = .ok (.getfield 18, 3) := by decide +kernel
theorem dX7_enter_19 : decode cX7_enter 19 = .ok (.iload_n 1, 1) := by decide +kernel
theorem dX7_enter_20 : decode cX7_enter 20 = .ok (.dup2, 1) := by decide +kernel
theorem dX7_enter_21 : decode cX7_enter 21 = .ok (.iaload, 1) := by decide +kernel
theorem dX7_enter_22 : decode cX7_enter 22 = .ok (.iconst 1, 1) := by decide +kernel
theorem dX7_enter_23 : decode cX7_enter 23 = .ok (.iload_n 2, 1) := by decide +kernel
theorem dX7_enter_24 : decode cX7_enter 24 = .ok (.ishl, 1) := by decide +kernel
theorem dX7_enter_25 : decode cX7_enter 25 = .ok (.ior, 1) := by decide +kernel
theorem dX7_enter_26 : decode cX7_enter 26 = .ok (.iastore, 1) := by decide +kernel
theorem dX7_enter_27 : decode cX7_enter 27 = .ok (.aload_n 0, 1) := by decide +kernel
theorem dX7_enter_28 : decode cX7_enter 28 = .ok (.getfield 21, 3) := by decide +kernel
theorem dX7_enter_31 : decode cX7_enter 31 = .ok (.iload_n 1, 1) := by decide +kernel
theorem dX7_enter_32 : decode cX7_enter 32 = .ok (.dup2, 1) := by decide +kernel
theorem dX7_enter_33 : decode cX7_enter 33 = .ok (.iaload, 1) := by decide +kernel
theorem dX7_enter_34 : decode cX7_enter 34 = .ok (.iconst 1, 1) := by decide +kernel
theorem dX7_enter_35 : decode cX7_enter 35 = .ok (.iload_n 2, 1) := by decide +kernel
theorem dX7_enter_36 : decode cX7_enter 36 = .ok (.ishl, 1) := by decide +kernel
theorem dX7_enter_37 : decode cX7_enter 37 = .ok (.ior, 1) := by decide +kernel
theorem dX7_enter_38 : decode cX7_enter 38 = .ok (.iastore, 1) := by decide +kernel
theorem dX7_enter_39 : decode cX7_enter 39 = .ok (.aload_n 0, 1) := by decide +kernel
theorem dX7_enter_40 : decode cX7_enter 40 = .ok (.getfield 27, 3) := by decide +kernel
theorem dX7_enter_43 : decode cX7_enter 43 = .ok (.iload_n 1, 1) := by decide +kernel
theorem dX7_enter_44 : decode cX7_enter 44 = .ok (.bipush 8, 2) := by decide +kernel
theorem dX7_enter_46 : decode cX7_enter 46 = .ok (.imul, 1) := by decide +kernel
theorem dX7_enter_47 : decode cX7_enter 47 = .ok (.iload_n 2, 1) := by decide +kernel
theorem dX7_enter_48 : decode cX7_enter 48 = .ok (.iadd, 1) := by decide +kernel
theorem dX7_enter_49 : decode cX7_enter 49 = .ok (.aload_n 0, 1) := by decide +kernel
theorem dX7_enter_50 : decode cX7_enter 50 = .ok (.getfield 55, 3) := by decide +kernel
theorem dX7_enter_53 : decode cX7_enter 53 = .ok (.iastore, 1) := by decide +kernel
theorem dX7_enter_54 : decode cX7_enter 54 = .ok (.aload_n 0, 1) := by decide +kernel
theorem dX7_enter_55 : decode cX7_enter 55 = .ok (.iload_n 1, 1) := by decide +kernel
theorem dX7_enter_56 : decode cX7_enter 56 = .ok (.invokevirtual 59, 3) := by decide +kernel
theorem dX7_enter_59 : decode cX7_enter 59 = .ok (.ifCond .ne 6, 3) := by decide +kernel
theorem dX7_enter_62 : decode cX7_enter 62 = .ok (.bipush (-3), 2) := by decide +kernel
theorem dX7_enter_64 : decode cX7_enter 64 = .ok (.ireturn, 1) := by decide +kernel
theorem dX7_enter_65 : decode cX7_enter 65 = .ok (.aload_n 0, 1) := by decide +kernel
theorem dX7_enter_66 : decode cX7_enter 66 = .ok (.getfield 15, 3) := by decide +kernel
theorem dX7_enter_69 : decode cX7_enter 69 = .ok (.iload_n 1, 1) := by decide +kernel
theorem dX7_enter_70 : decode cX7_enter 70 = .ok (.iaload, 1) := by decide +kernel
theorem dX7_enter_71 : decode cX7_enter 71 = .ok (.iconst 2, 1) := by decide +kernel
theorem dX7_enter_72 : decode cX7_enter 72 = .ok (.if_icmp .ne 12, 3) := by decide +kernel
theorem dX7_enter_75 : decode cX7_enter 75 = .ok (.aload_n 0, 1) := by decide +kernel
theorem dX7_enter_76 : decode cX7_enter 76 = .ok (.getfield 11, 3) := by decide +kernel
theorem dX7_enter_79 : decode cX7_enter 79 = .ok (.iload_n 1, 1) := by decide +kernel
theorem dX7_enter_80 : decode cX7_enter 80 = .ok (.iaload, 1) := by decide +kernel
theorem dX7_enter_81 : decode cX7_enter 81 = .ok (.goto 4, 3) := by decide +kernel
theorem dX7_enter_84 : decode cX7_enter 84 = .ok (.iconst (-1), 1) := by decide +kernel
theorem dX7_enter_85 : decode cX7_enter 85 = .ok (.ireturn, 1) := by decide +kernel
theorem dX7_depart_0 : decode cX7_depart 0 = .ok (.aload_n 0, 1) := by decide +kernel
theorem dX7_depart_1 : decode cX7_depart 1 = .ok (.iload_n 1, 1) := by decide +kernel
theorem dX7_depart_2 : decode cX7_depart 2 = .ok (.iload_n 2, 1) := by decide +kernel
theorem dX7_depart_3 : decode cX7_depart 3 = .ok (.invokevirtual 63, 3) := by decide +kernel
theorem dX7_depart_6 : decode cX7_depart 6 = .ok (.ifCond .ne 6, 3) := by decide +kernel
theorem dX7_depart_9 : decode cX7_depart 9 = .ok (.bipush (-8), 2) := by decide +kernel
theorem dX7_depart_11 : decode cX7_depart 11 = .ok (.ireturn, 1) := by decide +kernel
theorem dX7_depart_12 : decode cX7_depart 12 = .ok (.aload_n 0, 1) := by decide +kernel
theorem dX7_depart_13 : decode cX7_depart 13 = .ok (.getfield 18, 3) := by decide +kernel
theorem dX7_depart_16 : decode cX7_depart 16 = .ok (.iload_n 1, 1) := by decide +kernel
theorem dX7_depart_17 : decode cX7_depart 17 = .ok (.dup2, 1) := by decide +kernel
theorem dX7_depart_18 : decode cX7_depart 18 = .ok (.iaload, 1) := by decide +kernel
theorem dX7_depart_19 : decode cX7_depart 19 = .ok (.iconst 1, 1) := by decide +kernel
theorem dX7_depart_20 : decode cX7_depart 20 = .ok (.iload_n 2, 1) := by decide +kernel
theorem dX7_depart_21 : decode cX7_depart 21 = .ok (.ishl, 1) := by decide +kernel
theorem dX7_depart_22 : decode cX7_depart 22 = .ok (.iconst (-1), 1) := by decide +kernel
theorem dX7_depart_23 : decode cX7_depart 23 = .ok (.ixor, 1) := by decide +kernel
theorem dX7_depart_24 : decode cX7_depart 24 = .ok (.iand, 1) := by decide +kernel
theorem dX7_depart_25 : decode cX7_depart 25 = .ok (.iastore, 1) := by decide +kernel
theorem dX7_depart_26 : decode cX7_depart 26 = .ok (.aload_n 0, 1) := by decide +kernel
theorem dX7_depart_27 : decode cX7_depart 27 = .ok (.getfield 21, 3) := by decide +kernel
theorem dX7_depart_30 : decode cX7_depart 30 = .ok (.iload_n 1, 1) := by decide +kernel
theorem dX7_depart_31 : decode cX7_depart 31 = .ok (.dup2, 1) := by decide +kernel
theorem dX7_depart_32 : decode cX7_depart 32 = .ok (.iaload, 1) := by decide +kernel
theorem dX7_depart_33 : decode cX7_depart 33 = .ok (.iconst 1, 1) := by decide +kernel
theorem dX7_depart_34 : decode cX7_depart 34 = .ok (.iload_n 2, 1) := by decide +kernel
theorem dX7_depart_35 : decode cX7_depart 35 = .ok (.ishl, 1) := by decide +kernel
theorem dX7_depart_36 : decode cX7_depart 36 = .ok (.iconst (-1), 1) := by decide +kernel
theorem dX7_depart_37 : decode cX7_depart 37 = .ok (.ixor, 1) := by decide +kernel
theorem dX7_depart_38 : decode cX7_depart 38 = .ok (.iand, 1) := by decide +kernel
theorem dX7_depart_39 : decode cX7_depart 39 = .ok (.iastore, 1) := by decide +kernel
theorem dX7_depart_40 : decode cX7_depart 40 = .ok (.aload_n 0, 1) := by decide +kernel
theorem dX7_depart_41 : decode cX7_depart 41 = .ok (.getfield 18, 3) := by decide +kernel
theorem dX7_depart_44 : decode cX7_depart 44 = .ok (.iload_n 1, 1) := by decide +kernel
theorem dX7_depart_45 : decode cX7_depart 45 = .ok (.iaload, 1) := by decide +kernel
theorem dX7_depart_46 : decode cX7_depart 46 = .ok (.ifCond .ne 11, 3) := by decide +kernel
theorem dX7_depart_49 : decode cX7_depart 49 = .ok (.aload_n 0, 1) := by decide +kernel
theorem dX7_depart_50 : decode cX7_depart 50 = .ok (.iload_n 1, 1) := by decide +kernel
theorem dX7_depart_51 : decode cX7_depart 51 = .ok (.invokevirtual 38, 3) := by decide +kernel
theorem dX7_depart_54 : decode cX7_depart 54 = .ok (.goto 18, 3) := by decide +kernel
theorem dX7_depart_57 : decode cX7_depart 57 = .ok (.aload_n 0, 1) := by decide +kernel
theorem dX7_depart_58 : decode cX7_depart 58 = .ok (.getfield 15, 3) := by decide +kernel
theorem dX7_depart_61 : decode cX7_depart 61 = .ok (.iload_n 1, 1) := by decide +kernel
theorem dX7_depart_62 : decode cX7_depart 62 = .ok (.iaload, 1) := by decide +kernel
theorem dX7_depart_63 : decode cX7_depart 63 = .ok (.iconst 2, 1) := by decide +kernel
theorem dX7_depart_64 : decode cX7_depart 64 = .ok (.if_icmp .ne 8, 3) := by decide +kernel
theorem dX7_depart_67 : decode cX7_depart 67 = .ok (.aload_n 0, 1) := by decide +kernel
theorem dX7_depart_68 : decode cX7_depart 68 = .ok (.iload_n 1, 1) := by decide +kernel
theorem dX7_depart_69 : decode cX7_depart 69 = .ok (.invokevirtual 52, 3) := by decide +kernel
theorem dX7_depart_72 : decode cX7_depart 72 = .ok (.aload_n 0, 1) := by decide +kernel
theorem dX7_depart_73 : decode cX7_depart 73 = .ok (.iload_n 1, 1) := by decide +kernel
theorem dX7_depart_74 : decode cX7_depart 74 = .ok (.invokevirtual 59, 3) := by decide +kernel
theorem dX7_depart_77 : decode cX7_depart 77 = .ok (.ifCond .eq 7, 3) := by decide +kernel
theorem dX7_depart_80 : decode cX7_depart 80 = .ok (.iconst 1, 1) := by decide +kernel
theorem dX7_depart_81 : decode cX7_depart 81 = .ok (.goto 5, 3) := by decide +kernel
theorem dX7_depart_84 : decode cX7_depart 84 = .ok (.bipush (-3), 2) := by decide +kernel
theorem dX7_depart_86 : decode cX7_depart 86 = .ok (.ireturn, 1) := by decide +kernel
theorem dX7_hear_0 : decode cX7_hear 0 = .ok (.aload_n 0, 1) := by decide +kernel
theorem dX7_hear_1 : decode cX7_hear 1 = .ok (.iload_n 1, 1) := by decide +kernel
theorem dX7_hear_2 : decode cX7_hear 2 = .ok (.iload_n 2, 1) := by decide +kernel
theorem dX7_hear_3 : decode cX7_hear 3 = .ok (.iload_n 3, 1) := by decide +kernel
theorem dX7_hear_4 : decode cX7_hear 4 = .ok (.invokevirtual 67, 3) := by decide +kernel
theorem dX7_hear_7 : decode cX7_hear 7 = .ok (.istore 4, 2) := by decide +kernel
theorem dX7_hear_9 : decode cX7_hear 9 = .ok (.iload 4, 2) := by decide +kernel
theorem dX7_hear_11 : decode cX7_hear 11 = .ok (.ifCond .eq 6, 3) := by decide +kernel
theorem dX7_hear_14 : decode cX7_hear 14 = .ok (.iload 4, 2) := by decide +kernel
theorem dX7_hear_16 : decode cX7_hear 16 = .ok (.ireturn, 1) := by decide +kernel
theorem dX7_hear_17 : decode cX7_hear 17 = .ok (.aload_n 0, 1) := by decide +kernel
theorem dX7_hear_18 : decode cX7_hear 18 = .ok (.getfield 27, 3) := by decide +kernel
theorem dX7_hear_21 : decode cX7_hear 21 = .ok (.iload_n 1, 1) := by decide +kernel
theorem dX7_hear_22 : decode cX7_hear 22 = .ok (.bipush 8, 2) := by decide +kernel
theorem dX7_hear_24 : decode cX7_hear 24 = .ok (.imul, 1) := by decide +kernel
theorem dX7_hear_25 : decode cX7_hear 25 = .ok (.iload_n 2, 1) := by decide +kernel
theorem dX7_hear_26 : decode cX7_hear 26 = .ok (.iadd, 1) := by decide +kernel
theorem dX7_hear_27 : decode cX7_hear 27 = .ok (.aload_n 0, 1) := by decide +kernel
theorem dX7_hear_28 : decode cX7_hear 28 = .ok (.getfield 55, 3) := by decide +kernel
theorem dX7_hear_31 : decode cX7_hear 31 = .ok (.iastore, 1) := by decide +kernel
theorem dX7_hear_32 : decode cX7_hear 32 = .ok (.aload_n 0, 1) := by decide +kernel
theorem dX7_hear_33 : decode cX7_hear 33 = .ok (.getfield 21, 3) := by decide +kernel
theorem dX7_hear_36 : decode cX7_hear 36 = .ok (.iload_n 1, 1) := by decide +kernel
theorem dX7_hear_37 : decode cX7_hear 37 = .ok (.iaload, 1) := by decide +kernel
theorem dX7_hear_38 : decode cX7_hear 38 = .ok (.iload_n 2, 1) := by decide +kernel
theorem dX7_hear_39 : decode cX7_hear 39 = .ok (.ishr, 1) := by decide +kernel
theorem dX7_hear_40 : decode cX7_hear 40 = .ok (.iconst 1, 1) := by decide +kernel
theorem dX7_hear_41 : decode cX7_hear 41 = .ok (.iand, 1) := by decide +kernel
theorem dX7_hear_42 : decode cX7_hear 42 = .ok (.iconst 1, 1) := by decide +kernel
theorem dX7_hear_43 : decode cX7_hear 43 = .ok (.if_icmp .ne 7, 3) := by decide +kernel
theorem dX7_hear_46 : decode cX7_hear 46 = .ok (.iconst 0, 1) := by decide +kernel
theorem dX7_hear_47 : decode cX7_hear 47 = .ok (.goto 4, 3) := by decide +kernel
theorem dX7_hear_50 : decode cX7_hear 50 = .ok (.iconst 1, 1) := by decide +kernel
theorem dX7_hear_51 : decode cX7_hear 51 = .ok (.ireturn, 1) := by decide +kernel
theorem dX7_refusal_0 : decode cX7_refusal 0 = .ok (.aload_n 0, 1) := by decide +kernel
theorem dX7_refusal_1 : decode cX7_refusal 1 = .ok (.iload_n 1, 1) := by decide +kernel
theorem dX7_refusal_2 : decode cX7_refusal 2 = .ok (.iload_n 2, 1) := by decide +kernel
theorem dX7_refusal_3 : decode cX7_refusal 3 = .ok (.invokevirtual 63, 3) := by decide +kernel
theorem dX7_refusal_6 : decode cX7_refusal 6 = .ok (.ifCond .ne 6, 3) := by decide +kernel
theorem dX7_refusal_9 : decode cX7_refusal 9 = .ok (.bipush (-8), 2) := by decide +kernel
theorem dX7_refusal_11 : decode cX7_refusal 11 = .ok (.ireturn, 1) := by decide +kernel
theorem dX7_refusal_12 : decode cX7_refusal 12 = .ok (.iload_n 3, 1) := by decide +kernel
theorem dX7_refusal_13 : decode cX7_refusal 13 = .ok (.aload_n 0, 1) := by decide +kernel
theorem dX7_refusal_14 : decode cX7_refusal 14 = .ok (.getfield 11, 3) := by decide +kernel
theorem dX7_refusal_17 : decode cX7_refusal 17 = .ok (.iload_n 1, 1) := by decide +kernel
theorem dX7_refusal_18 : decode cX7_refusal 18 = .ok (.iaload, 1) := by decide +kernel
theorem dX7_refusal_19 : decode cX7_refusal 19 = .ok (.if_icmp .ne 7, 3) := by decide +kernel
theorem dX7_refusal_22 : decode cX7_refusal 22 = .ok (.iconst 0, 1) := by decide +kernel
theorem dX7_refusal_23 : decode cX7_refusal 23 = .ok (.goto 5, 3) := by decide +kernel
theorem dX7_refusal_26 : decode cX7_refusal 26 = .ok (.bipush (-9), 2) := by decide +kernel
theorem dX7_refusal_28 : decode cX7_refusal 28 = .ok (.ireturn, 1) := by decide +kernel
theorem dX7_commitOffset_0 : decode cX7_commitOffset 0 = .ok (.aload_n 0, 1) := by decide +kernel
theorem dX7_commitOffset_1 : decode cX7_commitOffset 1 = .ok (.getfield 15, 3) := by decide +kernel
theorem dX7_commitOffset_4 : decode cX7_commitOffset 4 = .ok (.iload_n 1, 1) := by decide +kernel
theorem dX7_commitOffset_5 : decode cX7_commitOffset 5 = .ok (.iaload, 1) := by decide +kernel
theorem dX7_commitOffset_6 : decode cX7_commitOffset 6 = .ok (.iconst 2, 1) := by decide +kernel
theorem dX7_commitOffset_7 : decode cX7_commitOffset 7 = .ok (.if_icmp .eq 6, 3) := by decide +kernel
theorem dX7_commitOffset_10 : decode cX7_commitOffset 10 = .ok (.bipush (-10), 2) := by decide +kernel
theorem dX7_commitOffset_12 : decode cX7_commitOffset 12 = .ok (.ireturn, 1) := by decide +kernel
theorem dX7_commitOffset_13 : decode cX7_commitOffset 13 = .ok (.aload_n 0, 1) := by decide +kernel
theorem dX7_commitOffset_14 : decode cX7_commitOffset 14 = .ok (.iload_n 1, 1) := by decide +kernel
theorem dX7_commitOffset_15 : decode cX7_commitOffset 15 = .ok (.iload_n 2, 1) := by decide +kernel
theorem dX7_commitOffset_16 : decode cX7_commitOffset 16 = .ok (.invokevirtual 71, 3) := by decide +kernel
theorem dX7_commitOffset_19 : decode cX7_commitOffset 19 = .ok (.iload_n 3, 1) := by decide +kernel
theorem dX7_commitOffset_20 : decode cX7_commitOffset 20 = .ok (.ishr, 1) := by decide +kernel
theorem dX7_commitOffset_21 : decode cX7_commitOffset 21 = .ok (.iconst 1, 1) := by decide +kernel
theorem dX7_commitOffset_22 : decode cX7_commitOffset 22 = .ok (.iand, 1) := by decide +kernel
theorem dX7_commitOffset_23 : decode cX7_commitOffset 23 = .ok (.ifCond .ne 6, 3) := by decide +kernel
theorem dX7_commitOffset_26 : decode cX7_commitOffset 26 = .ok (.bipush (-11), 2) := by decide +kernel
theorem dX7_commitOffset_28 : decode cX7_commitOffset 28 = .ok (.ireturn, 1) := by decide +kernel
theorem dX7_commitOffset_29 : decode cX7_commitOffset 29 = .ok (.aload_n 0, 1) := by decide +kernel
theorem dX7_commitOffset_30 : decode cX7_commitOffset 30 = .ok (.getfield 34, 3) := by decide +kernel
theorem dX7_commitOffset_33 : decode cX7_commitOffset 33 = .ok (.getfield 75, 3) := by decide +kernel
theorem dX7_commitOffset_36 : decode cX7_commitOffset 36 = .ok (.iload_n 3, 1) := by decide +kernel
theorem dX7_commitOffset_37 : decode cX7_commitOffset 37 = .ok (.aaload, 1) := by decide +kernel
theorem dX7_commitOffset_38 : decode cX7_commitOffset 38 = .ok (.lload 4, 2) := by decide +kernel
theorem dX7_commitOffset_40 : decode cX7_commitOffset 40 = .ok (.invokevirtual 81, 3) := by decide +kernel
theorem dX7_commitOffset_43 : decode cX7_commitOffset 43 = .ok (.ifCond .ne 6, 3) := by decide +kernel
theorem dX7_commitOffset_46 : decode cX7_commitOffset 46 = .ok (.bipush (-12), 2) := by decide +kernel
theorem dX7_commitOffset_48 : decode cX7_commitOffset 48 = .ok (.ireturn, 1) := by decide +kernel
theorem dX7_commitOffset_49 : decode cX7_commitOffset 49 = .ok (.aload_n 0, 1) := by decide +kernel
theorem dX7_commitOffset_50 : decode cX7_commitOffset 50 = .ok (.getfield 34, 3) := by decide +kernel
theorem dX7_commitOffset_53 : decode cX7_commitOffset 53 = .ok (.aload_n 0, 1) := by decide +kernel
theorem dX7_commitOffset_54 : decode cX7_commitOffset 54 = .ok (.getfield 34, 3) := by decide +kernel
theorem dX7_commitOffset_57 : decode cX7_commitOffset 57 = .ok (.invokevirtual 87, 3) := by decide +kernel
theorem dX7_commitOffset_60 : decode cX7_commitOffset 60 = .ok (.aload_n 0, 1) := by decide +kernel
theorem dX7_commitOffset_61 : decode cX7_commitOffset 61 = .ok (.iload_n 1, 1) := by decide +kernel
theorem dX7_commitOffset_62 : decode cX7_commitOffset 62 = .ok (.iload_n 3, 1) := by decide +kernel
theorem dX7_commitOffset_63 : decode cX7_commitOffset 63 = .ok (.lload 4, 2) := by decide +kernel
theorem dX7_commitOffset_65 : decode cX7_commitOffset 65 = .ok (.invokevirtual 91, 3) := by decide +kernel
theorem dX7_commitOffset_68 : decode cX7_commitOffset 68 = .ok (.bipush 78, 2) := by decide +kernel
theorem dX7_commitOffset_70 : decode cX7_commitOffset 70 = .ok (.invokevirtual 95, 3) := by decide +kernel
theorem dX7_commitOffset_73 : decode cX7_commitOffset 73 = .ok (.lstore 6, 2) := by decide +kernel
theorem dX7_commitOffset_75 : decode cX7_commitOffset 75 = .ok (.lload 6, 2) := by decide +kernel
theorem dX7_commitOffset_77 : decode cX7_commitOffset 77 = .ok (.lconst 0, 1) := by decide +kernel
theorem dX7_commitOffset_78 : decode cX7_commitOffset 78 = .ok (.lcmp, 1) := by decide +kernel
theorem dX7_commitOffset_79 : decode cX7_commitOffset 79 = .ok (.ifCond .ge 7, 3) := by decide +kernel
theorem dX7_commitOffset_82 : decode cX7_commitOffset 82 = .ok (.lload 6, 2) := by decide +kernel
theorem dX7_commitOffset_84 : decode cX7_commitOffset 84 = .ok (.l2i, 1) := by decide +kernel
theorem dX7_commitOffset_85 : decode cX7_commitOffset 85 = .ok (.ireturn, 1) := by decide +kernel
theorem dX7_commitOffset_86 : decode cX7_commitOffset 86 = .ok (.aload_n 0, 1) := by decide +kernel
theorem dX7_commitOffset_87 : decode cX7_commitOffset 87 = .ok (.getfield 27, 3) := by decide +kernel
theorem dX7_commitOffset_90 : decode cX7_commitOffset 90 = .ok (.iload_n 1, 1) := by decide +kernel
theorem dX7_commitOffset_91 : decode cX7_commitOffset 91 = .ok (.bipush 8, 2) := by decide +kernel
theorem dX7_commitOffset_93 : decode cX7_commitOffset 93 = .ok (.imul, 1) := by decide +kernel
theorem dX7_commitOffset_94 : decode cX7_commitOffset 94 = .ok (.iload_n 2, 1) := by decide +kernel
theorem dX7_commitOffset_95 : decode cX7_commitOffset 95 = .ok (.iadd, 1) := by decide +kernel
theorem dX7_commitOffset_96 : decode cX7_commitOffset 96 = .ok (.aload_n 0, 1) := by decide +kernel
theorem dX7_commitOffset_97 : decode cX7_commitOffset 97 = .ok (.getfield 55, 3) := by decide +kernel
theorem dX7_commitOffset_100 : decode cX7_commitOffset 100 = .ok (.iastore, 1) := by decide +kernel
theorem dX7_commitOffset_101 : decode cX7_commitOffset 101 = .ok (.iconst 0, 1) := by decide +kernel
theorem dX7_commitOffset_102 : decode cX7_commitOffset 102 = .ok (.ireturn, 1) := by decide +kernel
theorem dX7_shareOf_0 : decode cX7_shareOf 0 = .ok (.aload_n 0, 1) := by decide +kernel
theorem dX7_shareOf_1 : decode cX7_shareOf 1 = .ok (.getfield 15, 3) := by decide +kernel
theorem dX7_shareOf_4 : decode cX7_shareOf 4 = .ok (.iload_n 1, 1) := by decide +kernel
theorem dX7_shareOf_5 : decode cX7_shareOf 5 = .ok (.iaload, 1) := by decide +kernel
theorem dX7_shareOf_6 : decode cX7_shareOf 6 = .ok (.iconst 2, 1) := by decide +kernel
theorem dX7_shareOf_7 : decode cX7_shareOf 7 = .ok (.if_icmp .ne 12, 3) := by decide +kernel
theorem dX7_shareOf_10 : decode cX7_shareOf 10 = .ok (.aload_n 0, 1) := by decide +kernel
theorem dX7_shareOf_11 : decode cX7_shareOf 11 = .ok (.iload_n 1, 1) := by decide +kernel
theorem dX7_shareOf_12 : decode cX7_shareOf 12 = .ok (.iload_n 2, 1) := by decide +kernel
theorem dX7_shareOf_13 : decode cX7_shareOf 13 = .ok (.invokevirtual 63, 3) := by decide +kernel
theorem dX7_shareOf_16 : decode cX7_shareOf 16 = .ok (.ifCond .ne 5, 3) := by decide +kernel
theorem dX7_shareOf_19 : decode cX7_shareOf 19 = .ok (.iconst 0, 1) := by decide +kernel
theorem dX7_shareOf_20 : decode cX7_shareOf 20 = .ok (.ireturn, 1) := by decide +kernel
theorem dX7_shareOf_21 : decode cX7_shareOf 21 = .ok (.aload_n 0, 1) := by decide +kernel
theorem dX7_shareOf_22 : decode cX7_shareOf 22 = .ok (.getfield 18, 3) := by decide +kernel
theorem dX7_shareOf_25 : decode cX7_shareOf 25 = .ok (.iload_n 1, 1) := by decide +kernel
theorem dX7_shareOf_26 : decode cX7_shareOf 26 = .ok (.iaload, 1) := by decide +kernel
theorem dX7_shareOf_27 : decode cX7_shareOf 27 = .ok (.invokestatic 99, 3) := by decide +kernel
theorem dX7_shareOf_30 : decode cX7_shareOf 30 = .ok (.istore_n 3, 1) := by decide +kernel
theorem dX7_shareOf_31 : decode cX7_shareOf 31 = .ok (.aload_n 0, 1) := by decide +kernel
theorem dX7_shareOf_32 : decode cX7_shareOf 32 = .ok (.getfield 18, 3) := by decide +kernel
theorem dX7_shareOf_35 : decode cX7_shareOf 35 = .ok (.iload_n 1, 1) := by decide +kernel
theorem dX7_shareOf_36 : decode cX7_shareOf 36 = .ok (.iaload, 1) := by decide +kernel
theorem dX7_shareOf_37 : decode cX7_shareOf 37 = .ok (.iconst 1, 1) := by decide +kernel
theorem dX7_shareOf_38 : decode cX7_shareOf 38 = .ok (.iload_n 2, 1) := by decide +kernel
theorem dX7_shareOf_39 : decode cX7_shareOf 39 = .ok (.ishl, 1) := by decide +kernel
theorem dX7_shareOf_40 : decode cX7_shareOf 40 = .ok (.iconst 1, 1) := by decide +kernel
theorem dX7_shareOf_41 : decode cX7_shareOf 41 = .ok (.isub, 1) := by decide +kernel
theorem dX7_shareOf_42 : decode cX7_shareOf 42 = .ok (.iand, 1) := by decide +kernel
theorem dX7_shareOf_43 : decode cX7_shareOf 43 = .ok (.invokestatic 99, 3) := by decide +kernel
theorem dX7_shareOf_46 : decode cX7_shareOf 46 = .ok (.istore 4, 2) := by decide +kernel
theorem dX7_shareOf_48 : decode cX7_shareOf 48 = .ok (.iconst 0, 1) := by decide +kernel
theorem dX7_shareOf_49 : decode cX7_shareOf 49 = .ok (.istore 5, 2) := by decide +kernel
theorem dX7_shareOf_51 : decode cX7_shareOf 51 = .ok (.iconst 0, 1) := by decide +kernel
theorem dX7_shareOf_52 : decode cX7_shareOf 52 = .ok (.istore 6, 2) := by decide +kernel
theorem dX7_shareOf_54 : decode cX7_shareOf 54 = .ok (.iload 6, 2) := by decide +kernel
theorem dX7_shareOf_56 : decode cX7_shareOf 56 = .ok (.aload_n 0, 1) := by decide +kernel
theorem dX7_shareOf_57 : decode cX7_shareOf 57 = .ok (.getfield 34, 3) := by decide +kernel
theorem dX7_shareOf_60 : decode cX7_shareOf 60 = .ok (.getfield 75, 3) := by decide +kernel
theorem dX7_shareOf_63 : decode cX7_shareOf 63 = .ok (.arraylength, 1) := by decide +kernel
theorem dX7_shareOf_64 : decode cX7_shareOf 64 = .ok (.iconst 1, 1) := by decide +kernel
theorem dX7_shareOf_65 : decode cX7_shareOf 65 = .ok (.isub, 1) := by decide +kernel
theorem dX7_shareOf_66 : decode cX7_shareOf 66 = .ok (.if_icmp .ge 27, 3) := by decide +kernel
theorem dX7_shareOf_69 : decode cX7_shareOf 69 = .ok (.iload 6, 2) := by decide +kernel
theorem dX7_shareOf_71 : decode cX7_shareOf 71 = .ok (.iload_n 3, 1) := by decide +kernel
theorem dX7_shareOf_72 : decode cX7_shareOf 72 = .ok (.irem, 1) := by decide +kernel
theorem dX7_shareOf_73 : decode cX7_shareOf 73 = .ok (.iload 4, 2) := by decide +kernel
theorem dX7_shareOf_75 : decode cX7_shareOf 75 = .ok (.if_icmp .ne 12, 3) := by decide +kernel
theorem dX7_shareOf_78 : decode cX7_shareOf 78 = .ok (.iload 5, 2) := by decide +kernel
theorem dX7_shareOf_80 : decode cX7_shareOf 80 = .ok (.iconst 1, 1) := by decide +kernel
theorem dX7_shareOf_81 : decode cX7_shareOf 81 = .ok (.iload 6, 2) := by decide +kernel
theorem dX7_shareOf_83 : decode cX7_shareOf 83 = .ok (.ishl, 1) := by decide +kernel
theorem dX7_shareOf_84 : decode cX7_shareOf 84 = .ok (.ior, 1) := by decide +kernel
theorem dX7_shareOf_85 : decode cX7_shareOf 85 = .ok (.istore 5, 2) := by decide +kernel
theorem dX7_shareOf_87 : decode cX7_shareOf 87 = .ok (.iinc 6 1, 3) := by decide +kernel
theorem dX7_shareOf_90 : decode cX7_shareOf 90 = .ok (.goto (-36), 3) := by decide +kernel
theorem dX7_shareOf_93 : decode cX7_shareOf 93 = .ok (.iload 5, 2) := by decide +kernel
theorem dX7_shareOf_95 : decode cX7_shareOf 95 = .ok (.ireturn, 1) := by decide +kernel
theorem dX7_ticksLeft_0 : decode cX7_ticksLeft 0 = .ok (.aload_n 0, 1) := by decide +kernel
theorem dX7_ticksLeft_1 : decode cX7_ticksLeft 1 = .ok (.getfield 15, 3) := by decide +kernel
theorem dX7_ticksLeft_4 : decode cX7_ticksLeft 4 = .ok (.iload_n 1, 1) := by decide +kernel
theorem dX7_ticksLeft_5 : decode cX7_ticksLeft 5 = .ok (.iaload, 1) := by decide +kernel
theorem dX7_ticksLeft_6 : decode cX7_ticksLeft 6 = .ok (.iconst 1, 1) := by decide +kernel
theorem dX7_ticksLeft_7 : decode cX7_ticksLeft 7 = .ok (.if_icmp .ne 21, 3) := by decide +kernel
theorem dX7_ticksLeft_10 : decode cX7_ticksLeft 10 = .ok (.iconst 0, 1) := by decide +kernel
theorem dX7_ticksLeft_11 : decode cX7_ticksLeft 11 = .ok (.aload_n 0, 1) := by decide +kernel
theorem dX7_ticksLeft_12 : decode cX7_ticksLeft 12 = .ok (.getfield 24, 3) := by decide +kernel
theorem dX7_ticksLeft_15 : decode cX7_ticksLeft 15 = .ok (.iload_n 1, 1) := by decide +kernel
theorem dX7_ticksLeft_16 : decode cX7_ticksLeft 16 = .ok (.iaload, 1) := by decide +kernel
theorem dX7_ticksLeft_17 : decode cX7_ticksLeft 17 = .ok (.aload_n 0, 1) := by decide +kernel
theorem dX7_ticksLeft_18 : decode cX7_ticksLeft 18 = .ok (.getfield 55, 3) := by decide +kernel
theorem dX7_ticksLeft_21 : decode cX7_ticksLeft 21 = .ok (.isub, 1) := by decide +kernel
theorem dX7_ticksLeft_22 : decode cX7_ticksLeft 22 = .ok (.invokestatic 105, 3) := by decide +kernel
theorem dX7_ticksLeft_25 : decode cX7_ticksLeft 25 = .ok (.goto 4, 3) := by decide +kernel
theorem dX7_ticksLeft_28 : decode cX7_ticksLeft 28 = .ok (.iconst 0, 1) := by decide +kernel
theorem dX7_ticksLeft_29 : decode cX7_ticksLeft 29 = .ok (.ireturn, 1) := by decide +kernel
theorem dX7_tick_0 : decode cX7_tick 0 = .ok (.aload_n 0, 1) := by decide +kernel
theorem dX7_tick_1 : decode cX7_tick 1 = .ok (.dup, 1) := by decide +kernel
theorem dX7_tick_2 : decode cX7_tick 2 = .ok (.getfield 55, 3) := by decide +kernel
theorem dX7_tick_5 : decode cX7_tick 5 = .ok (.iconst 1, 1) := by decide +kernel
theorem dX7_tick_6 : decode cX7_tick 6 = .ok (.iadd, 1) := by decide +kernel
theorem dX7_tick_7 : decode cX7_tick 7 = .ok (.putfield 55, 3) := by decide +kernel
theorem dX7_tick_10 : decode cX7_tick 10 = .ok (.iconst 0, 1) := by decide +kernel
theorem dX7_tick_11 : decode cX7_tick 11 = .ok (.istore_n 1, 1) := by decide +kernel
theorem dX7_tick_12 : decode cX7_tick 12 = .ok (.iload_n 1, 1) := by decide +kernel
theorem dX7_tick_13 : decode cX7_tick 13 = .ok (.bipush 8, 2) := by decide +kernel
theorem dX7_tick_15 : decode cX7_tick 15 = .ok (.if_icmp .ge 24, 3) := by decide +kernel
theorem dX7_tick_18 : decode cX7_tick 18 = .ok (.aload_n 0, 1) := by decide +kernel
theorem dX7_tick_19 : decode cX7_tick 19 = .ok (.iload_n 1, 1) := by decide +kernel
theorem dX7_tick_20 : decode cX7_tick 20 = .ok (.invokevirtual 107, 3) := by decide +kernel
theorem dX7_tick_23 : decode cX7_tick 23 = .ok (.aload_n 0, 1) := by decide +kernel
theorem dX7_tick_24 : decode cX7_tick 24 = .ok (.iload_n 1, 1) := by decide +kernel
theorem dX7_tick_25 : decode cX7_tick 25 = .ok (.invokevirtual 59, 3) := by decide +kernel
theorem dX7_tick_28 : decode cX7_tick 28 = .ok (.ifCond .ne 5, 3) := by decide +kernel
theorem dX7_tick_31 : decode cX7_tick 31 = .ok (.iconst 0, 1) := by decide +kernel
theorem dX7_tick_32 : decode cX7_tick 32 = .ok (.ireturn, 1) := by decide +kernel
theorem dX7_tick_33 : decode cX7_tick 33 = .ok (.iinc 1 1, 3) := by decide +kernel
theorem dX7_tick_36 : decode cX7_tick 36 = .ok (.goto (-24), 3) := by decide +kernel
theorem dX7_tick_39 : decode cX7_tick 39 = .ok (.iconst 1, 1) := by decide +kernel
theorem dX7_tick_40 : decode cX7_tick 40 = .ok (.ireturn, 1) := by decide +kernel
theorem dX7_dropSilent_0 : decode cX7_dropSilent 0 = .ok (.aload_n 0, 1) := by decide +kernel
theorem dX7_dropSilent_1 : decode cX7_dropSilent 1 = .ok (.getfield 15, 3) := by decide +kernel
theorem dX7_dropSilent_4 : decode cX7_dropSilent 4 = .ok (.iload_n 1, 1) := by decide +kernel
theorem dX7_dropSilent_5 : decode cX7_dropSilent 5 = .ok (.iaload, 1) := by decide +kernel
theorem dX7_dropSilent_6 : decode cX7_dropSilent 6 = .ok (.iconst 2, 1) := by decide +kernel
theorem dX7_dropSilent_7 : decode cX7_dropSilent 7 = .ok (.if_icmp .eq 4, 3) := by decide +kernel
theorem dX7_dropSilent_10 : decode cX7_dropSilent 10 = .ok (.return_, 1) := by decide +kernel
theorem dX7_dropSilent_11 : decode cX7_dropSilent 11 = .ok (.iconst 0, 1) := by decide +kernel
theorem dX7_dropSilent_12 : decode cX7_dropSilent 12 = .ok (.istore_n 2, 1) := by decide +kernel
theorem dX7_dropSilent_13 : decode cX7_dropSilent 13 = .ok (.iconst 0, 1) := by decide +kernel
theorem dX7_dropSilent_14 : decode cX7_dropSilent 14 = .ok (.istore_n 3, 1) := by decide +kernel
theorem dX7_dropSilent_15 : decode cX7_dropSilent 15 = .ok (.iload_n 3, 1) := by decide +kernel
theorem dX7_dropSilent_16 : decode cX7_dropSilent 16 = .ok (.bipush 8, 2) := by decide +kernel
theorem dX7_dropSilent_18 : decode cX7_dropSilent 18 = .ok (.if_icmp .ge 45, 3) := by decide +kernel
theorem dX7_dropSilent_21 : decode cX7_dropSilent 21 = .ok (.aload_n 0, 1) := by decide +kernel
theorem dX7_dropSilent_22 : decode cX7_dropSilent 22 = .ok (.iload_n 1, 1) := by decide +kernel
theorem dX7_dropSilent_23 : decode cX7_dropSilent 23 = .ok (.iload_n 3, 1) := by decide +kernel
theorem dX7_dropSilent_24 : decode cX7_dropSilent 24 = .ok (.invokevirtual 63, 3) := by decide +kernel
theorem dX7_dropSilent_27 : decode cX7_dropSilent 27 = .ok (.ifCond .eq 30, 3) := by decide +kernel
theorem dX7_dropSilent_30 : decode cX7_dropSilent 30 = .ok (.aload_n 0, 1) := by decide +kernel
theorem dX7_dropSilent_31 : decode cX7_dropSilent 31 = .ok (.getfield 55, 3) := by decide +kernel
theorem dX7_dropSilent_34 : decode cX7_dropSilent 34 = .ok (.aload_n 0, 1) := by decide +kernel
theorem dX7_dropSilent_35 : decode cX7_dropSilent 35 = .ok (.getfield 27, 3) := by decide +kernel
theorem dX7_dropSilent_38 : decode cX7_dropSilent 38 = .ok (.iload_n 1, 1) := by decide +kernel
theorem dX7_dropSilent_39 : decode cX7_dropSilent 39 = .ok (.bipush 8, 2) := by decide +kernel
theorem dX7_dropSilent_41 : decode cX7_dropSilent 41 = .ok (.imul, 1) := by decide +kernel
theorem dX7_dropSilent_42 : decode cX7_dropSilent 42 = .ok (.iload_n 3, 1) := by decide +kernel
theorem dX7_dropSilent_43 : decode cX7_dropSilent 43 = .ok (.iadd, 1) := by decide +kernel
theorem dX7_dropSilent_44 : decode cX7_dropSilent 44 = .ok (.iaload, 1) := by decide +kernel
theorem dX7_dropSilent_45 : decode cX7_dropSilent 45 = .ok (.isub, 1) := by decide +kernel
theorem dX7_dropSilent_46 : decode cX7_dropSilent 46 = .ok (.bipush 30, 2) := by decide +kernel
theorem dX7_dropSilent_48 : decode cX7_dropSilent 48 = .ok (.if_icmp .ge 9, 3) := by decide +kernel
theorem dX7_dropSilent_51 : decode cX7_dropSilent 51 = .ok (.iload_n 2, 1) := by decide +kernel
theorem dX7_dropSilent_52 : decode cX7_dropSilent 52 = .ok (.iconst 1, 1) := by decide +kernel
theorem dX7_dropSilent_53 : decode cX7_dropSilent 53 = .ok (.iload_n 3, 1) := by decide +kernel
theorem dX7_dropSilent_54 : decode cX7_dropSilent 54 = .ok (.ishl, 1) := by decide +kernel
theorem dX7_dropSilent_55 : decode cX7_dropSilent 55 = .ok (.ior, 1) := by decide +kernel
theorem dX7_dropSilent_56 : decode cX7_dropSilent 56 = .ok (.istore_n 2, 1) := by decide +kernel
theorem dX7_dropSilent_57 : decode cX7_dropSilent 57 = .ok (.iinc 3 1, 3) := by decide +kernel
theorem dX7_dropSilent_60 : decode cX7_dropSilent 60 = .ok (.goto (-45), 3) := by decide +kernel
theorem dX7_dropSilent_63 : decode cX7_dropSilent 63 = .ok (.iload_n 2, 1) := by decide +kernel
theorem dX7_dropSilent_64 : decode cX7_dropSilent 64 = .ok (.ifCond .ne 11, 3) := by decide +kernel
theorem dX7_dropSilent_67 : decode cX7_dropSilent 67 = .ok (.aload_n 0, 1) := by decide +kernel
theorem dX7_dropSilent_68 : decode cX7_dropSilent 68 = .ok (.iload_n 1, 1) := by decide +kernel
theorem dX7_dropSilent_69 : decode cX7_dropSilent 69 = .ok (.invokevirtual 38, 3) := by decide +kernel
theorem dX7_dropSilent_72 : decode cX7_dropSilent 72 = .ok (.goto 25, 3) := by decide +kernel
theorem dX7_dropSilent_75 : decode cX7_dropSilent 75 = .ok (.iload_n 2, 1) := by decide +kernel
theorem dX7_dropSilent_76 : decode cX7_dropSilent 76 = .ok (.aload_n 0, 1) := by decide +kernel
theorem dX7_dropSilent_77 : decode cX7_dropSilent 77 = .ok (.getfield 18, 3) := by decide +kernel
theorem dX7_dropSilent_80 : decode cX7_dropSilent 80 = .ok (.iload_n 1, 1) := by decide +kernel
theorem dX7_dropSilent_81 : decode cX7_dropSilent 81 = .ok (.iaload, 1) := by decide +kernel
theorem dX7_dropSilent_82 : decode cX7_dropSilent 82 = .ok (.if_icmp .eq 15, 3) := by decide +kernel
theorem dX7_dropSilent_85 : decode cX7_dropSilent 85 = .ok (.aload_n 0, 1) := by decide +kernel
theorem dX7_dropSilent_86 : decode cX7_dropSilent 86 = .ok (.getfield 18, 3) := by decide +kernel
theorem dX7_dropSilent_89 : decode cX7_dropSilent 89 = .ok (.iload_n 1, 1) := by decide +kernel
theorem dX7_dropSilent_90 : decode cX7_dropSilent 90 = .ok (.iload_n 2, 1) := by decide +kernel
theorem dX7_dropSilent_91 : decode cX7_dropSilent 91 = .ok (.iastore, 1) := by decide +kernel
theorem dX7_dropSilent_92 : decode cX7_dropSilent 92 = .ok (.aload_n 0, 1) := by decide +kernel
theorem dX7_dropSilent_93 : decode cX7_dropSilent 93 = .ok (.iload_n 1, 1) := by decide +kernel
theorem dX7_dropSilent_94 : decode cX7_dropSilent 94 = .ok (.invokevirtual 52, 3) := by decide +kernel
theorem dX7_dropSilent_97 : decode cX7_dropSilent 97 = .ok (.return_, 1) := by decide +kernel
theorem dX7_hasMember_0 : decode cX7_hasMember 0 = .ok (.aload_n 0, 1) := by decide +kernel
theorem dX7_hasMember_1 : decode cX7_hasMember 1 = .ok (.getfield 18, 3) := by decide +kernel
theorem dX7_hasMember_4 : decode cX7_hasMember 4 = .ok (.iload_n 1, 1) := by decide +kernel
theorem dX7_hasMember_5 : decode cX7_hasMember 5 = .ok (.iaload, 1) := by decide +kernel
theorem dX7_hasMember_6 : decode cX7_hasMember 6 = .ok (.iload_n 2, 1) := by decide +kernel
theorem dX7_hasMember_7 : decode cX7_hasMember 7 = .ok (.ishr, 1) := by decide +kernel
theorem dX7_hasMember_8 : decode cX7_hasMember 8 = .ok (.iconst 1, 1) := by decide +kernel
theorem dX7_hasMember_9 : decode cX7_hasMember 9 = .ok (.iand, 1) := by decide +kernel
theorem dX7_hasMember_10 : decode cX7_hasMember 10 = .ok (.iconst 1, 1) := by decide +kernel
theorem dX7_hasMember_11 : decode cX7_hasMember 11 = .ok (.if_icmp .ne 7, 3) := by decide +kernel
theorem dX7_hasMember_14 : decode cX7_hasMember 14 = .ok (.iconst 1, 1) := by decide +kernel
theorem dX7_hasMember_15 : decode cX7_hasMember 15 = .ok (.goto 4, 3) := by decide +kernel
theorem dX7_hasMember_18 : decode cX7_hasMember 18 = .ok (.iconst 0, 1) := by decide +kernel
theorem dX7_hasMember_19 : decode cX7_hasMember 19 = .ok (.ireturn, 1) := by decide +kernel
theorem dX7_makeEmpty_0 : decode cX7_makeEmpty 0 = .ok (.aload_n 0, 1) := by decide +kernel
theorem dX7_makeEmpty_1 : decode cX7_makeEmpty 1 = .ok (.getfield 15, 3) := by decide +kernel
theorem dX7_makeEmpty_4 : decode cX7_makeEmpty 4 = .ok (.iload_n 1, 1) := by decide +kernel
theorem dX7_makeEmpty_5 : decode cX7_makeEmpty 5 = .ok (.iconst 0, 1) := by decide +kernel
theorem dX7_makeEmpty_6 : decode cX7_makeEmpty 6 = .ok (.iastore, 1) := by decide +kernel
theorem dX7_makeEmpty_7 : decode cX7_makeEmpty 7 = .ok (.aload_n 0, 1) := by decide +kernel
theorem dX7_makeEmpty_8 : decode cX7_makeEmpty 8 = .ok (.getfield 18, 3) := by decide +kernel
theorem dX7_makeEmpty_11 : decode cX7_makeEmpty 11 = .ok (.iload_n 1, 1) := by decide +kernel
theorem dX7_makeEmpty_12 : decode cX7_makeEmpty 12 = .ok (.iconst 0, 1) := by decide +kernel
theorem dX7_makeEmpty_13 : decode cX7_makeEmpty 13 = .ok (.iastore, 1) := by decide +kernel
theorem dX7_makeEmpty_14 : decode cX7_makeEmpty 14 = .ok (.aload_n 0, 1) := by decide +kernel
theorem dX7_makeEmpty_15 : decode cX7_makeEmpty 15 = .ok (.getfield 21, 3) := by decide +kernel
theorem dX7_makeEmpty_18 : decode cX7_makeEmpty 18 = .ok (.iload_n 1, 1) := by decide +kernel
theorem dX7_makeEmpty_19 : decode cX7_makeEmpty 19 = .ok (.iconst 0, 1) := by decide +kernel
theorem dX7_makeEmpty_20 : decode cX7_makeEmpty 20 = .ok (.iastore, 1) := by decide +kernel
theorem dX7_makeEmpty_21 : decode cX7_makeEmpty 21 = .ok (.return_, 1) := by decide +kernel
theorem dX7_mix_0 : decode cX7_mix 0 = .ok (.aload_n 0, 1) := by decide +kernel
theorem dX7_mix_1 : decode cX7_mix 1 = .ok (.getfield 15, 3) := by decide +kernel
theorem dX7_mix_4 : decode cX7_mix 4 = .ok (.iload_n 1, 1) := by decide +kernel
theorem dX7_mix_5 : decode cX7_mix 5 = .ok (.iconst 1, 1) := by decide +kernel
theorem dX7_mix_6 : decode cX7_mix 6 = .ok (.iastore, 1) := by decide +kernel
theorem dX7_mix_7 : decode cX7_mix 7 = .ok (.aload_n 0, 1) := by decide +kernel
theorem dX7_mix_8 : decode cX7_mix 8 = .ok (.getfield 21, 3) := by decide +kernel
theorem dX7_mix_11 : decode cX7_mix 11 = .ok (.iload_n 1, 1) := by decide +kernel
theorem dX7_mix_12 : decode cX7_mix 12 = .ok (.iconst 0, 1) := by decide +kernel
theorem dX7_mix_13 : decode cX7_mix 13 = .ok (.iastore, 1) := by decide +kernel
theorem dX7_mix_14 : decode cX7_mix 14 = .ok (.aload_n 0, 1) := by decide +kernel
theorem dX7_mix_15 : decode cX7_mix 15 = .ok (.getfield 24, 3) := by decide +kernel
theorem dX7_mix_18 : decode cX7_mix 18 = .ok (.iload_n 1, 1) := by decide +kernel
theorem dX7_mix_19 : decode cX7_mix 19 = .ok (.aload_n 0, 1) := by decide +kernel
theorem dX7_mix_20 : decode cX7_mix 20 = .ok (.getfield 55, 3) := by decide +kernel
theorem dX7_mix_23 : decode cX7_mix 23 = .ok (.bipush 20, 2) := by decide +kernel
theorem dX7_mix_25 : decode cX7_mix 25 = .ok (.iadd, 1) := by decide +kernel
theorem dX7_mix_26 : decode cX7_mix 26 = .ok (.iastore, 1) := by decide +kernel
theorem dX7_mix_27 : decode cX7_mix 27 = .ok (.return_, 1) := by decide +kernel
theorem dX7_settle_0 : decode cX7_settle 0 = .ok (.aload_n 0, 1) := by decide +kernel
theorem dX7_settle_1 : decode cX7_settle 1 = .ok (.getfield 21, 3) := by decide +kernel
theorem dX7_settle_4 : decode cX7_settle 4 = .ok (.iload_n 1, 1) := by decide +kernel
theorem dX7_settle_5 : decode cX7_settle 5 = .ok (.iaload, 1) := by decide +kernel
theorem dX7_settle_6 : decode cX7_settle 6 = .ok (.aload_n 0, 1) := by decide +kernel
theorem dX7_settle_7 : decode cX7_settle 7 = .ok (.getfield 18, 3) := by decide +kernel
theorem dX7_settle_10 : decode cX7_settle 10 = .ok (.iload_n 1, 1) := by decide +kernel
theorem dX7_settle_11 : decode cX7_settle 11 = .ok (.iaload, 1) := by decide +kernel
theorem dX7_settle_12 : decode cX7_settle 12 = .ok (.if_icmp .eq 16, 3) := by decide +kernel
theorem dX7_settle_15 : decode cX7_settle 15 = .ok (.aload_n 0, 1) := by decide +kernel
theorem dX7_settle_16 : decode cX7_settle 16 = .ok (.getfield 55, 3) := by decide +kernel
theorem dX7_settle_19 : decode cX7_settle 19 = .ok (.aload_n 0, 1) := by decide +kernel
theorem dX7_settle_20 : decode cX7_settle 20 = .ok (.getfield 24, 3) := by decide +kernel
theorem dX7_settle_23 : decode cX7_settle 23 = .ok (.iload_n 1, 1) := by decide +kernel
theorem dX7_settle_24 : decode cX7_settle 24 = .ok (.iaload, 1) := by decide +kernel
theorem dX7_settle_25 : decode cX7_settle 25 = .ok (.if_icmp .lt 7, 3) := by decide +kernel
theorem dX7_settle_28 : decode cX7_settle 28 = .ok (.iconst 1, 1) := by decide +kernel
theorem dX7_settle_29 : decode cX7_settle 29 = .ok (.goto 4, 3) := by decide +kernel
theorem dX7_settle_32 : decode cX7_settle 32 = .ok (.iconst 0, 1) := by decide +kernel
theorem dX7_settle_33 : decode cX7_settle 33 = .ok (.istore_n 2, 1) := by decide +kernel
theorem dX7_settle_34 : decode cX7_settle 34 = .ok (.aload_n 0, 1) := by decide +kernel
theorem dX7_settle_35 : decode cX7_settle 35 = .ok (.getfield 15, 3) := by decide +kernel
theorem dX7_settle_38 : decode cX7_settle 38 = .ok (.iload_n 1, 1) := by decide +kernel
theorem dX7_settle_39 : decode cX7_settle 39 = .ok (.iaload, 1) := by decide +kernel
theorem dX7_settle_40 : decode cX7_settle 40 = .ok (.iconst 1, 1) := by decide +kernel
theorem dX7_settle_41 : decode cX7_settle 41 = .ok (.if_icmp .ne 7, 3) := by decide +kernel
theorem dX7_settle_44 : decode cX7_settle 44 = .ok (.iload_n 2, 1) := by decide +kernel
theorem dX7_settle_45 : decode cX7_settle 45 = .ok (.ifCond .ne 5, 3) := by decide +kernel
theorem dX7_settle_48 : decode cX7_settle 48 = .ok (.iconst 1, 1) := by decide +kernel
theorem dX7_settle_49 : decode cX7_settle 49 = .ok (.ireturn, 1) := by decide +kernel
theorem dX7_settle_50 : decode cX7_settle 50 = .ok (.aload_n 0, 1) := by decide +kernel
theorem dX7_settle_51 : decode cX7_settle 51 = .ok (.getfield 21, 3) := by decide +kernel
theorem dX7_settle_54 : decode cX7_settle 54 = .ok (.iload_n 1, 1) := by decide +kernel
theorem dX7_settle_55 : decode cX7_settle 55 = .ok (.iaload, 1) := by decide +kernel
theorem dX7_settle_56 : decode cX7_settle 56 = .ok (.ifCond .ne 10, 3) := by decide +kernel
theorem dX7_settle_59 : decode cX7_settle 59 = .ok (.aload_n 0, 1) := by decide +kernel
theorem dX7_settle_60 : decode cX7_settle 60 = .ok (.iload_n 1, 1) := by decide +kernel
theorem dX7_settle_61 : decode cX7_settle 61 = .ok (.invokevirtual 38, 3) := by decide +kernel
theorem dX7_settle_64 : decode cX7_settle 64 = .ok (.iconst 1, 1) := by decide +kernel
theorem dX7_settle_65 : decode cX7_settle 65 = .ok (.ireturn, 1) := by decide +kernel
theorem dX7_settle_66 : decode cX7_settle 66 = .ok (.aload_n 0, 1) := by decide +kernel
theorem dX7_settle_67 : decode cX7_settle 67 = .ok (.iload_n 1, 1) := by decide +kernel
theorem dX7_settle_68 : decode cX7_settle 68 = .ok (.sipush 255, 3) := by decide +kernel
theorem dX7_settle_71 : decode cX7_settle 71 = .ok (.aload_n 0, 1) := by decide +kernel
theorem dX7_settle_72 : decode cX7_settle 72 = .ok (.getfield 11, 3) := by decide +kernel
theorem dX7_settle_75 : decode cX7_settle 75 = .ok (.iload_n 1, 1) := by decide +kernel
theorem dX7_settle_76 : decode cX7_settle 76 = .ok (.iaload, 1) := by decide +kernel
theorem dX7_settle_77 : decode cX7_settle 77 = .ok (.iconst 1, 1) := by decide +kernel
theorem dX7_settle_78 : decode cX7_settle 78 = .ok (.iadd, 1) := by decide +kernel
theorem dX7_settle_79 : decode cX7_settle 79 = .ok (.i2l, 1) := by decide +kernel
theorem dX7_settle_80 : decode cX7_settle 80 = .ok (.invokevirtual 91, 3) := by decide +kernel
theorem dX7_settle_83 : decode cX7_settle 83 = .ok (.astore_n 3, 1) := by decide +kernel
theorem dX7_settle_84 : decode cX7_settle 84 = .ok (.aload_n 0, 1) := by decide +kernel
theorem dX7_settle_85 : decode cX7_settle 85 = .ok (.getfield 34, 3) := by decide +kernel
theorem dX7_settle_88 : decode cX7_settle 88 = .ok (.aload_n 0, 1) := by decide +kernel
theorem dX7_settle_89 : decode cX7_settle 89 = .ok (.getfield 34, 3) := by decide +kernel
theorem dX7_settle_92 : decode cX7_settle 92 = .ok (.invokevirtual 87, 3) := by decide +kernel
theorem dX7_settle_95 : decode cX7_settle 95 = .ok (.aload_n 3, 1) := by decide +kernel
theorem dX7_settle_96 : decode cX7_settle 96 = .ok (.bipush 78, 2) := by decide +kernel
theorem dX7_settle_98 : decode cX7_settle 98 = .ok (.invokevirtual 95, 3) := by decide +kernel
theorem dX7_settle_101 : decode cX7_settle 101 = .ok (.lstore 4, 2) := by decide +kernel
theorem dX7_settle_103 : decode cX7_settle 103 = .ok (.lload 4, 2) := by decide +kernel
theorem dX7_settle_105 : decode cX7_settle 105 = .ok (.ldc2_w 110, 3) := by decide +kernel
theorem dX7_settle_108 : decode cX7_settle 108 = .ok (.lcmp, 1) := by decide +kernel
theorem dX7_settle_109 : decode cX7_settle 109 = .ok (.ifCond .ne 5, 3) := by decide +kernel
theorem dX7_settle_112 : decode cX7_settle 112 = .ok (.iconst 0, 1) := by decide +kernel
theorem dX7_settle_113 : decode cX7_settle 113 = .ok (.ireturn, 1) := by decide +kernel
theorem dX7_settle_114 : decode cX7_settle 114 = .ok (.lload 4, 2) := by decide +kernel
theorem dX7_settle_116 : decode cX7_settle 116 = .ok (.ldc2_w 112, 3) := by decide +kernel
theorem dX7_settle_119 : decode cX7_settle 119 = .ok (.lcmp, 1) := by decide +kernel
theorem dX7_settle_120 : decode cX7_settle 120 = .ok (.ifCond .eq 54, 3) := by decide +kernel
theorem dX7_settle_123 : decode cX7_settle 123 = .ok (.aload_n 0, 1) := by decide +kernel
theorem dX7_settle_124 : decode cX7_settle 124 = .ok (.getfield 11, 3) := by decide +kernel
theorem dX7_settle_127 : decode cX7_settle 127 = .ok (.iload_n 1, 1) := by decide +kernel
theorem dX7_settle_128 : decode cX7_settle 128 = .ok (.dup2, 1) := by decide +kernel
theorem dX7_settle_129 : decode cX7_settle 129 = .ok (.iaload, 1) := by decide +kernel
theorem dX7_settle_130 : decode cX7_settle 130 = .ok (.iconst 1, 1) := by decide +kernel
theorem dX7_settle_131 : decode cX7_settle 131 = .ok (.iadd, 1) := by decide +kernel
theorem dX7_settle_132 : decode cX7_settle 132 = .ok (.iastore, 1) := by decide +kernel
theorem dX7_settle_133 : decode cX7_settle 133 = .ok (.aload_n 0, 1) := by decide +kernel
theorem dX7_settle_134 : decode cX7_settle 134 = .ok (.getfield 15, 3) := by decide +kernel
theorem dX7_settle_137 : decode cX7_settle 137 = .ok (.iload_n 1, 1) := by decide +kernel
theorem dX7_settle_138 : decode cX7_settle 138 = .ok (.iconst 2, 1) := by decide +kernel
theorem dX7_settle_139 : decode cX7_settle 139 = .ok (.iastore, 1) := by decide +kernel
theorem dX7_settle_140 : decode cX7_settle 140 = .ok (.aload_n 0, 1) := by decide +kernel
theorem dX7_settle_141 : decode cX7_settle 141 = .ok (.getfield 18, 3) := by decide +kernel
theorem dX7_settle_144 : decode cX7_settle 144 = .ok (.iload_n 1, 1) := by decide +kernel
theorem dX7_settle_145 : decode cX7_settle 145 = .ok (.aload_n 0, 1) := by decide +kernel
theorem dX7_settle_146 : decode cX7_settle 146 = .ok (.getfield 21, 3) := by decide +kernel
theorem dX7_settle_149 : decode cX7_settle 149 = .ok (.iload_n 1, 1) := by decide +kernel
theorem dX7_settle_150 : decode cX7_settle 150 = .ok (.iaload, 1) := by decide +kernel
theorem dX7_settle_151 : decode cX7_settle 151 = .ok (.iastore, 1) := by decide +kernel
theorem dX7_settle_152 : decode cX7_settle 152 = .ok (.aload_n 0, 1) := by decide +kernel
theorem dX7_settle_153 : decode cX7_settle 153 = .ok (.getfield 27, 3) := by decide +kernel
theorem dX7_settle_156 : decode cX7_settle 156 = .ok (.iload_n 1, 1) := by decide +kernel
theorem dX7_settle_157 : decode cX7_settle 157 = .ok (.bipush 8, 2) := by decide +kernel
theorem dX7_settle_159 : decode cX7_settle 159 = .ok (.imul, 1) := by decide +kernel
theorem dX7_settle_160 : decode cX7_settle 160 = .ok (.iload_n 1, 1) := by decide +kernel
theorem dX7_settle_161 : decode cX7_settle 161 = .ok (.bipush 8, 2) := by decide +kernel
theorem dX7_settle_163 : decode cX7_settle 163 = .ok (.imul, 1) := by decide +kernel
theorem dX7_settle_164 : decode cX7_settle 164 = .ok (.bipush 8, 2) := by decide +kernel
theorem dX7_settle_166 : decode cX7_settle 166 = .ok (.iadd, 1) := by decide +kernel
theorem dX7_settle_167 : decode cX7_settle 167 = .ok (.aload_n 0, 1) := by decide +kernel
theorem dX7_settle_168 : decode cX7_settle 168 = .ok (.getfield 55, 3) := by decide +kernel
theorem dX7_settle_171 : decode cX7_settle 171 = .ok (.invokestatic 114, 3) := by decide +kernel
theorem dX7_settle_174 : decode cX7_settle 174 = .ok (.iconst 1, 1) := by decide +kernel
theorem dX7_settle_175 : decode cX7_settle 175 = .ok (.ireturn, 1) := by decide +kernel
theorem dX7_filledNote_0 : decode cX7_filledNote 0 = .ok (.aload_n 0, 1) := by decide +kernel
theorem dX7_filledNote_1 : decode cX7_filledNote 1 = .ok (.getfield 30, 3) := by decide +kernel
theorem dX7_filledNote_4 : decode cX7_filledNote 4 = .ok (.iconst 0, 1) := by decide +kernel
theorem dX7_filledNote_5 : decode cX7_filledNote 5 = .ok (.iconst 1, 1) := by decide +kernel
theorem dX7_filledNote_6 : decode cX7_filledNote 6 = .ok (.aload_n 0, 1) := by decide +kernel
theorem dX7_filledNote_7 : decode cX7_filledNote 7 = .ok (.getfield 55, 3) := by decide +kernel
theorem dX7_filledNote_10 : decode cX7_filledNote 10 = .ok (.i2l, 1) := by decide +kernel
theorem dX7_filledNote_11 : decode cX7_filledNote 11 = .ok (.aload_n 0, 1) := by decide +kernel
theorem dX7_filledNote_12 : decode cX7_filledNote 12 = .ok (.getfield 55, 3) := by decide +kernel
theorem dX7_filledNote_15 : decode cX7_filledNote 15 = .ok (.i2l, 1) := by decide +kernel
theorem dX7_filledNote_16 : decode cX7_filledNote 16 = .ok (.invokestatic 120, 3) := by decide +kernel
theorem dX7_filledNote_19 : decode cX7_filledNote 19 = .ok (.aload_n 0, 1) := by decide +kernel
theorem dX7_filledNote_20 : decode cX7_filledNote 20 = .ok (.getfield 30, 3) := by decide +kernel
theorem dX7_filledNote_23 : decode cX7_filledNote 23 = .ok (.iconst 0, 1) := by decide +kernel
theorem dX7_filledNote_24 : decode cX7_filledNote 24 = .ok (.ldc2_w 126, 3) := by decide +kernel
theorem dX7_filledNote_27 : decode cX7_filledNote 27 = .ok (.iconst (-1), 1) := by decide +kernel
theorem dX7_filledNote_28 : decode cX7_filledNote 28 = .ok (.iconst (-1), 1) := by decide +kernel
theorem dX7_filledNote_29 : decode cX7_filledNote 29 = .ok (.invokestatic 128, 3) := by decide +kernel
theorem dX7_filledNote_32 : decode cX7_filledNote 32 = .ok (.aload_n 0, 1) := by decide +kernel
theorem dX7_filledNote_33 : decode cX7_filledNote 33 = .ok (.getfield 30, 3) := by decide +kernel
theorem dX7_filledNote_36 : decode cX7_filledNote 36 = .ok (.bipush 61, 2) := by decide +kernel
theorem dX7_filledNote_38 : decode cX7_filledNote 38 = .ok (.ldc2_w 132, 3) := by decide +kernel
theorem dX7_filledNote_41 : decode cX7_filledNote 41 = .ok (.invokestatic 134, 3) := by decide +kernel
theorem dX7_filledNote_44 : decode cX7_filledNote 44 = .ok (.istore 5, 2) := by decide +kernel
theorem dX7_filledNote_46 : decode cX7_filledNote 46 = .ok (.aload_n 0, 1) := by decide +kernel
theorem dX7_filledNote_47 : decode cX7_filledNote 47 = .ok (.getfield 30, 3) := by decide +kernel
theorem dX7_filledNote_50 : decode cX7_filledNote 50 = .ok (.iload 5, 2) := by decide +kernel
theorem dX7_filledNote_52 : decode cX7_filledNote 52 = .ok (.iconst 3, 1) := by decide +kernel
theorem dX7_filledNote_53 : decode cX7_filledNote 53 = .ok (.lconst 0, 1) := by decide +kernel
theorem dX7_filledNote_54 : decode cX7_filledNote 54 = .ok (.invokestatic 140, 3) := by decide +kernel
theorem dX7_filledNote_57 : decode cX7_filledNote 57 = .ok (.aload_n 0, 1) := by decide +kernel
theorem dX7_filledNote_58 : decode cX7_filledNote 58 = .ok (.getfield 30, 3) := by decide +kernel
theorem dX7_filledNote_61 : decode cX7_filledNote 61 = .ok (.bipush 65, 2) := by decide +kernel
theorem dX7_filledNote_63 : decode cX7_filledNote 63 = .ok (.ldc2_w 144, 3) := by decide +kernel
theorem dX7_filledNote_66 : decode cX7_filledNote 66 = .ok (.invokestatic 134, 3) := by decide +kernel
theorem dX7_filledNote_69 : decode cX7_filledNote 69 = .ok (.pop, 1) := by decide +kernel
theorem dX7_filledNote_70 : decode cX7_filledNote 70 = .ok (.aload_n 0, 1) := by decide +kernel
theorem dX7_filledNote_71 : decode cX7_filledNote 71 = .ok (.getfield 30, 3) := by decide +kernel
theorem dX7_filledNote_74 : decode cX7_filledNote 74 = .ok (.bipush 66, 2) := by decide +kernel
theorem dX7_filledNote_76 : decode cX7_filledNote 76 = .ok (.iload_n 1, 1) := by decide +kernel
theorem dX7_filledNote_77 : decode cX7_filledNote 77 = .ok (.i2b, 1) := by decide +kernel
theorem dX7_filledNote_78 : decode cX7_filledNote 78 = .ok (.bastore, 1) := by decide +kernel
theorem dX7_filledNote_79 : decode cX7_filledNote 79 = .ok (.aload_n 0, 1) := by decide +kernel
theorem dX7_filledNote_80 : decode cX7_filledNote 80 = .ok (.getfield 30, 3) := by decide +kernel
theorem dX7_filledNote_83 : decode cX7_filledNote 83 = .ok (.bipush 67, 2) := by decide +kernel
theorem dX7_filledNote_85 : decode cX7_filledNote 85 = .ok (.iload_n 2, 1) := by decide +kernel
theorem dX7_filledNote_86 : decode cX7_filledNote 86 = .ok (.i2b, 1) := by decide +kernel
theorem dX7_filledNote_87 : decode cX7_filledNote 87 = .ok (.bastore, 1) := by decide +kernel
theorem dX7_filledNote_88 : decode cX7_filledNote 88 = .ok (.aload_n 0, 1) := by decide +kernel
theorem dX7_filledNote_89 : decode cX7_filledNote 89 = .ok (.getfield 30, 3) := by decide +kernel
theorem dX7_filledNote_92 : decode cX7_filledNote 92 = .ok (.bipush 68, 2) := by decide +kernel
theorem dX7_filledNote_94 : decode cX7_filledNote 94 = .ok (.ldc2_w 146, 3) := by decide +kernel
theorem dX7_filledNote_97 : decode cX7_filledNote 97 = .ok (.invokestatic 134, 3) := by decide +kernel
theorem dX7_filledNote_100 : decode cX7_filledNote 100 = .ok (.pop, 1) := by decide +kernel
theorem dX7_filledNote_101 : decode cX7_filledNote 101 = .ok (.aload_n 0, 1) := by decide +kernel
theorem dX7_filledNote_102 : decode cX7_filledNote 102 = .ok (.getfield 30, 3) := by decide +kernel
theorem dX7_filledNote_105 : decode cX7_filledNote 105 = .ok (.bipush 69, 2) := by decide +kernel
theorem dX7_filledNote_107 : decode cX7_filledNote 107 = .ok (.bipush 8, 2) := by decide +kernel
theorem dX7_filledNote_109 : decode cX7_filledNote 109 = .ok (.lload_n 3, 1) := by decide +kernel
theorem dX7_filledNote_110 : decode cX7_filledNote 110 = .ok (.invokestatic 140, 3) := by decide +kernel
theorem dX7_filledNote_113 : decode cX7_filledNote 113 = .ok (.aload_n 0, 1) := by decide +kernel
theorem dX7_filledNote_114 : decode cX7_filledNote 114 = .ok (.getfield 30, 3) := by decide +kernel
theorem dX7_filledNote_117 : decode cX7_filledNote 117 = .ok (.bipush 77, 2) := by decide +kernel
theorem dX7_filledNote_119 : decode cX7_filledNote 119 = .ok (.iconst 0, 1) := by decide +kernel
theorem dX7_filledNote_120 : decode cX7_filledNote 120 = .ok (.bastore, 1) := by decide +kernel
theorem dX7_filledNote_121 : decode cX7_filledNote 121 = .ok (.aload_n 0, 1) := by decide +kernel
theorem dX7_filledNote_122 : decode cX7_filledNote 122 = .ok (.getfield 30, 3) := by decide +kernel
theorem dX7_filledNote_125 : decode cX7_filledNote 125 = .ok (.iconst 0, 1) := by decide +kernel
theorem dX7_filledNote_126 : decode cX7_filledNote 126 = .ok (.bipush 78, 2) := by decide +kernel
theorem dX7_filledNote_128 : decode cX7_filledNote 128 = .ok (.invokestatic 148, 3) := by decide +kernel
theorem dX7_filledNote_131 : decode cX7_filledNote 131 = .ok (.aload_n 0, 1) := by decide +kernel
theorem dX7_filledNote_132 : decode cX7_filledNote 132 = .ok (.getfield 30, 3) := by decide +kernel
theorem dX7_filledNote_135 : decode cX7_filledNote 135 = .ok (.areturn, 1) := by decide +kernel
theorem dX7_latestNote_0 : decode cX7_latestNote 0 = .ok (.aload_n 0, 1) := by decide +kernel
theorem dX7_latestNote_1 : decode cX7_latestNote 1 = .ok (.getfield 34, 3) := by decide +kernel
theorem dX7_latestNote_4 : decode cX7_latestNote 4 = .ok (.invokevirtual 87, 3) := by decide +kernel
theorem dX7_latestNote_7 : decode cX7_latestNote 7 = .ok (.astore_n 3, 1) := by decide +kernel
theorem dX7_latestNote_8 : decode cX7_latestNote 8 = .ok (.aload_n 0, 1) := by decide +kernel
theorem dX7_latestNote_9 : decode cX7_latestNote 9 = .ok (.getfield 34, 3) := by decide +kernel
theorem dX7_latestNote_12 : decode cX7_latestNote 12 = .ok (.getfield 152, 3) := by decide +kernel
theorem dX7_latestNote_15 : decode cX7_latestNote 15 = .ok (.getfield 156, 3) := by decide +kernel
theorem dX7_latestNote_18 : decode cX7_latestNote 18 = .ok (.astore 4, 2) := by decide +kernel
theorem dX7_latestNote_20 : decode cX7_latestNote 20 = .ok (.aload_n 3, 1) := by decide +kernel
theorem dX7_latestNote_21 : decode cX7_latestNote 21 = .ok (.getfield 161, 3) := by decide +kernel
theorem dX7_latestNote_24 : decode cX7_latestNote 24 = .ok (.iconst 1, 1) := by decide +kernel
theorem dX7_latestNote_25 : decode cX7_latestNote 25 = .ok (.isub, 1) := by decide +kernel
theorem dX7_latestNote_26 : decode cX7_latestNote 26 = .ok (.istore 5, 2) := by decide +kernel
theorem dX7_latestNote_28 : decode cX7_latestNote 28 = .ok (.iload 5, 2) := by decide +kernel
theorem dX7_latestNote_30 : decode cX7_latestNote 30 = .ok (.ifCond .lt 61, 3) := by decide +kernel
theorem dX7_latestNote_33 : decode cX7_latestNote 33 = .ok (.aload_n 3, 1) := by decide +kernel
theorem dX7_latestNote_34 : decode cX7_latestNote 34 = .ok (.getfield 164, 3) := by decide +kernel
theorem dX7_latestNote_37 : decode cX7_latestNote 37 = .ok (.iload 5, 2) := by decide +kernel
theorem dX7_latestNote_39 : decode cX7_latestNote 39 = .ok (.iaload, 1) := by decide +kernel
theorem dX7_latestNote_40 : decode cX7_latestNote 40 = .ok (.bipush 66, 2) := by decide +kernel
theorem dX7_latestNote_42 : decode cX7_latestNote 42 = .ok (.iadd, 1) := by decide +kernel
theorem dX7_latestNote_43 : decode cX7_latestNote 43 = .ok (.istore 6, 2) := by decide +kernel
theorem dX7_latestNote_45 : decode cX7_latestNote 45 = .ok (.aload 4, 2) := by decide +kernel
theorem dX7_latestNote_47 : decode cX7_latestNote 47 = .ok (.iload 6, 2) := by decide +kernel
theorem dX7_latestNote_49 : decode cX7_latestNote 49 = .ok (.baload, 1) := by decide +kernel
theorem dX7_latestNote_50 : decode cX7_latestNote 50 = .ok (.iload_n 1, 1) := by decide +kernel
theorem dX7_latestNote_51 : decode cX7_latestNote 51 = .ok (.i2b, 1) := by decide +kernel
theorem dX7_latestNote_52 : decode cX7_latestNote 52 = .ok (.if_icmp .ne 33, 3) := by decide +kernel
theorem dX7_latestNote_55 : decode cX7_latestNote 55 = .ok (.aload 4, 2) := by decide +kernel
theorem dX7_latestNote_57 : decode cX7_latestNote 57 = .ok (.iload 6, 2) := by decide +kernel
theorem dX7_latestNote_59 : decode cX7_latestNote 59 = .ok (.iconst 1, 1) := by decide +kernel
theorem dX7_latestNote_60 : decode cX7_latestNote 60 = .ok (.iadd, 1) := by decide +kernel
theorem dX7_latestNote_61 : decode cX7_latestNote 61 = .ok (.baload, 1) := by decide +kernel
theorem dX7_latestNote_62 : decode cX7_latestNote 62 = .ok (.iload_n 2, 1) := by decide +kernel
theorem dX7_latestNote_63 : decode cX7_latestNote 63 = .ok (.i2b, 1) := by decide +kernel
theorem dX7_latestNote_64 : decode cX7_latestNote 64 = .ok (.if_icmp .ne 21, 3) := by decide +kernel
theorem dX7_latestNote_67 : decode cX7_latestNote 67 = .ok (.aload 4, 2) := by decide +kernel
theorem dX7_latestNote_69 : decode cX7_latestNote 69 = .ok (.aload_n 3, 1) := by decide +kernel
theorem dX7_latestNote_70 : decode cX7_latestNote 70 = .ok (.getfield 164, 3) := by decide +kernel
theorem dX7_latestNote_73 : decode cX7_latestNote 73 = .ok (.iload 5, 2) := by decide +kernel
theorem dX7_latestNote_75 : decode cX7_latestNote 75 = .ok (.iaload, 1) := by decide +kernel
theorem dX7_latestNote_76 : decode cX7_latestNote 76 = .ok (.bipush 69, 2) := by decide +kernel
theorem dX7_latestNote_78 : decode cX7_latestNote 78 = .ok (.iadd, 1) := by decide +kernel
theorem dX7_latestNote_79 : decode cX7_latestNote 79 = .ok (.bipush 8, 2) := by decide +kernel
theorem dX7_latestNote_81 : decode cX7_latestNote 81 = .ok (.invokestatic 167, 3) := by decide +kernel
theorem dX7_latestNote_84 : decode cX7_latestNote 84 = .ok (.lreturn, 1) := by decide +kernel
theorem dX7_latestNote_85 : decode cX7_latestNote 85 = .ok (.iinc 5 (-1), 3) := by decide +kernel
theorem dX7_latestNote_88 : decode cX7_latestNote 88 = .ok (.goto (-60), 3) := by decide +kernel
theorem dX7_latestNote_91 : decode cX7_latestNote 91 = .ok (.ldc2_w 126, 3) := by decide +kernel
theorem dX7_latestNote_94 : decode cX7_latestNote 94 = .ok (.lreturn, 1) := by decide +kernel
theorem dX8_init_0 : decode cX8_init 0 = .ok (.aload_n 0, 1) := by decide +kernel
theorem dX8_init_1 : decode cX8_init 1 = .ok (.invokespecial 3, 3) := by decide +kernel
theorem dX8_init_4 : decode cX8_init 4 = .ok (.aload_n 0, 1) := by decide +kernel
theorem dX8_init_5 : decode cX8_init 5 = .ok (.bipush 60, 2) := by decide +kernel
theorem dX8_init_7 : decode cX8_init 7 = .ok (.newarray .int, 2) := by decide +kernel
theorem dX8_init_9 : decode cX8_init 9 = .ok (.putfield 9, 3) := by decide +kernel
theorem dX8_init_12 : decode cX8_init 12 = .ok (.aload_n 0, 1) := by decide +kernel
theorem dX8_init_13 : decode cX8_init 13 = .ok (.bipush 60, 2) := by decide +kernel
theorem dX8_init_15 : decode cX8_init 15 = .ok (.newarray .int, 2) := by decide +kernel
theorem dX8_init_17 : decode cX8_init 17 = .ok (.putfield 15, 3) := by decide +kernel
theorem dX8_init_20 : decode cX8_init 20 = .ok (.aload_n 0, 1) := by decide +kernel
theorem dX8_init_21 : decode cX8_init 21 = .ok (.bipush 60, 2) := by decide +kernel
theorem dX8_init_23 : decode cX8_init 23 = .ok (.newarray .int, 2) := by decide +kernel
theorem dX8_init_25 : decode cX8_init 25 = .ok (.putfield 18, 3) := by decide +kernel
theorem dX8_init_28 : decode cX8_init 28 = .ok (.aload_n 0, 1) := by decide +kernel
theorem dX8_init_29 : decode cX8_init 29 = .ok (.iload_n 1, 1) := by decide +kernel
theorem dX8_init_30 : decode cX8_init 30 = .ok (.putfield 21, 3) := by decide +kernel
theorem dX8_init_33 : decode cX8_init 33 = .ok (.aload_n 0, 1) := by decide +kernel
theorem dX8_init_34 : decode cX8_init 34 = .ok (.iload_n 2, 1) := by decide +kernel
theorem dX8_init_35 : decode cX8_init 35 = .ok (.newarray .int, 2) := by decide +kernel
theorem dX8_init_37 : decode cX8_init 37 = .ok (.putfield 25, 3) := by decide +kernel
theorem dX8_init_40 : decode cX8_init 40 = .ok (.return_, 1) := by decide +kernel
theorem dX8_holds_0 : decode cX8_holds 0 = .ok (.lload_n 1, 1) := by decide +kernel
theorem dX8_holds_1 : decode cX8_holds 1 = .ok (.aload_n 0, 1) := by decide +kernel
theorem dX8_holds_2 : decode cX8_holds 2 = .ok (.getfield 28, 3) := by decide +kernel
theorem dX8_holds_5 : decode cX8_holds 5 = .ok (.aload_n 0, 1) := by decide +kernel
theorem dX8_holds_6 : decode cX8_holds 6 = .ok (.getfield 32, 3) := by decide +kernel
theorem dX8_holds_9 : decode cX8_holds 9 = .ok (.invokestatic 35, 3) := by decide +kernel
theorem dX8_holds_12 : decode cX8_holds 12 = .ok (.ireturn, 1) := by decide +kernel
theorem dX8_countBytes_0 : decode cX8_countBytes 0 = .ok (.lconst 0, 1) := by decide +kernel
theorem dX8_countBytes_1 : decode cX8_countBytes 1 = .ok (.lstore_n 1, 1) := by decide +kernel
theorem dX8_countBytes_2 : decode cX8_countBytes 2 = .ok (.iconst 0, 1) := by decide +kernel
theorem dX8_countBytes_3 : decode cX8_countBytes 3 = .ok (.istore_n 3, 1) := by decide +kernel
theorem dX8_countBytes_4 : decode cX8_countBytes 4 = .ok (.iload_n 3, 1) := by decide +kernel
theorem dX8_countBytes_5 : decode cX8_countBytes 5 = .ok (.aload_n 0, 1) := by decide +kernel
theorem dX8_countBytes_6 : decode cX8_countBytes 6 = .ok (.getfield 39, 3) := by decide +kernel
theorem dX8_countBytes_9 : decode cX8_countBytes 9 = .ok (.if_icmp .ge 19, 3) := by decide +kernel
theorem dX8_countBytes_12 : decode cX8_countBytes 12 = .ok (.lload_n 1, 1) := by decide +kernel
theorem dX8_countBytes_13 : decode cX8_countBytes 13 = .ok (.aload_n 0, 1) := by decide +kernel
theorem dX8_countBytes_14 : decode cX8_countBytes 14 = .ok (.getfield 15, 3) := by decide +kernel
theorem dX8_countBytes_17 : decode cX8_countBytes 17 = .ok (.iload_n 3, 1) := by decide +kernel
theorem dX8_countBytes_18 : decode cX8_countBytes 18 = .ok (.iaload, 1) := by decide +kernel
theorem dX8_countBytes_19 : decode cX8_countBytes 19 = .ok (.i2l, 1) := by decide +kernel
theorem dX8_countBytes_20 : decode cX8_countBytes 20 = .ok (.ladd, 1) := by decide +kernel
theorem dX8_countBytes_21 : decode cX8_countBytes 21 = .ok (.lstore_n 1, 1) := by decide +kernel
theorem dX8_countBytes_22 : decode cX8_countBytes 22 = .ok (.iinc 3 1, 3) := by decide +kernel
theorem dX8_countBytes_25 : decode cX8_countBytes 25 = .ok (.goto (-21), 3) := by decide +kernel
theorem dX8_countBytes_28 : decode cX8_countBytes 28 = .ok (.lload_n 1, 1) := by decide +kernel
theorem dX8_countBytes_29 : decode cX8_countBytes 29 = .ok (.lreturn, 1) := by decide +kernel
theorem dX8_clear_0 : decode cX8_clear 0 = .ok (.aload_n 0, 1) := by decide +kernel
theorem dX8_clear_1 : decode cX8_clear 1 = .ok (.iconst 0, 1) := by decide +kernel
theorem dX8_clear_2 : decode cX8_clear 2 = .ok (.putfield 39, 3) := by decide +kernel
theorem dX8_clear_5 : decode cX8_clear 5 = .ok (.aload_n 0, 1) := by decide +kernel
theorem dX8_clear_6 : decode cX8_clear 6 = .ok (.iconst 0, 1) := by decide +kernel
theorem dX8_clear_7 : decode cX8_clear 7 = .ok (.putfield 42, 3) := by decide +kernel
theorem dX8_clear_10 : decode cX8_clear 10 = .ok (.return_, 1) := by decide +kernel
theorem dX8_addSegment_0 : decode cX8_addSegment 0 = .ok (.aload_n 0, 1) := by decide +kernel
theorem dX8_addSegment_1 : decode cX8_addSegment 1 = .ok (.getfield 9, 3) := by decide +kernel
theorem dX8_addSegment_4 : decode cX8_addSegment 4 = .ok (.aload_n 0, 1) := by decide +kernel
theorem dX8_addSegment_5 : decode cX8_addSegment 5 = .ok (.getfield 39, 3) := by decide +kernel
theorem dX8_addSegment_8 : decode cX8_addSegment 8 = .ok (.iload_n 1, 1) := by decide +kernel
theorem dX8_addSegment_9 : decode cX8_addSegment 9 = .ok (.iastore, 1) := by decide +kernel
theorem dX8_addSegment_10 : decode cX8_addSegment 10 = .ok (.aload_n 0, 1) := by decide +kernel
theorem dX8_addSegment_11 : decode cX8_addSegment 11 = .ok (.getfield 15, 3) := by decide +kernel
theorem dX8_addSegment_14 : decode cX8_addSegment 14 = .ok (.aload_n 0, 1) := by decide +kernel
theorem dX8_addSegment_15 : decode cX8_addSegment 15 = .ok (.getfield 39, 3) := by decide +kernel
theorem dX8_addSegment_18 : decode cX8_addSegment 18 = .ok (.iconst 0, 1) := by decide +kernel
theorem dX8_addSegment_19 : decode cX8_addSegment 19 = .ok (.iastore, 1) := by decide +kernel
theorem dX8_addSegment_20 : decode cX8_addSegment 20 = .ok (.aload_n 0, 1) := by decide +kernel
theorem dX8_addSegment_21 : decode cX8_addSegment 21 = .ok (.getfield 18, 3) := by decide +kernel
theorem dX8_addSegment_24 : decode cX8_addSegment 24 = .ok (.aload_n 0, 1) := by decide +kernel
theorem dX8_addSegment_25 : decode cX8_addSegment 25 = .ok (.getfield 39, 3) := by decide +kernel
theorem dX8_addSegment_28 : decode cX8_addSegment 28 = .ok (.iconst 0, 1) := by decide +kernel
theorem dX8_addSegment_29 : decode cX8_addSegment 29 = .ok (.iastore, 1) := by decide +kernel
theorem dX8_addSegment_30 : decode cX8_addSegment 30 = .ok (.aload_n 0, 1) := by decide +kernel
theorem dX8_addSegment_31 : decode cX8_addSegment 31 = .ok (.dup, 1) := by decide +kernel
theorem dX8_addSegment_32 : decode cX8_addSegment 32 = .ok (.getfield 39, 3) := by decide +kernel
theorem dX8_addSegment_35 : decode cX8_addSegment 35 = .ok (.iconst 1, 1) := by decide +kernel
theorem dX8_addSegment_36 : decode cX8_addSegment 36 = .ok (.iadd, 1) := by decide +kernel
theorem dX8_addSegment_37 : decode cX8_addSegment 37 = .ok (.putfield 39, 3) := by decide +kernel
theorem dX8_addSegment_40 : decode cX8_addSegment 40 = .ok (.return_, 1) := by decide +kernel
theorem dX8_addBatch_0 : decode cX8_addBatch 0 = .ok (.aload_n 0, 1) := by decide +kernel
theorem dX8_addBatch_1 : decode cX8_addBatch 1 = .ok (.getfield 39, 3) := by decide +kernel
theorem dX8_addBatch_4 : decode cX8_addBatch 4 = .ok (.iconst 1, 1) := by decide +kernel
theorem dX8_addBatch_5 : decode cX8_addBatch 5 = .ok (.isub, 1) := by decide +kernel
theorem dX8_addBatch_6 : decode cX8_addBatch 6 = .ok (.istore_n 2, 1) := by decide +kernel
theorem dX8_addBatch_7 : decode cX8_addBatch 7 = .ok (.aload_n 0, 1) := by decide +kernel
theorem dX8_addBatch_8 : decode cX8_addBatch 8 = .ok (.getfield 9, 3) := by decide +kernel
theorem dX8_addBatch_11 : decode cX8_addBatch 11 = .ok (.iload_n 2, 1) := by decide +kernel
theorem dX8_addBatch_12 : decode cX8_addBatch 12 = .ok (.iaload, 1) := by decide +kernel
theorem dX8_addBatch_13 : decode cX8_addBatch 13 = .ok (.sipush 1024, 3) := by decide +kernel
theorem dX8_addBatch_16 : decode cX8_addBatch 16 = .ok (.imul, 1) := by decide +kernel
theorem dX8_addBatch_17 : decode cX8_addBatch 17 = .ok (.aload_n 0, 1) := by decide +kernel
theorem dX8_addBatch_18 : decode cX8_addBatch 18 = .ok (.getfield 15, 3) := by decide +kernel
theorem dX8_addBatch_21 : decode cX8_addBatch 21 = .ok (.iload_n 2, 1) := by decide +kernel
theorem dX8_addBatch_22 : decode cX8_addBatch 22 = .ok (.iaload, 1) := by decide +kernel
theorem dX8_addBatch_23 : decode cX8_addBatch 23 = .ok (.iadd, 1) := by decide +kernel
theorem dX8_addBatch_24 : decode cX8_addBatch 24 = .ok (.istore_n 3, 1) := by decide +kernel
theorem dX8_addBatch_25 : decode cX8_addBatch 25 = .ok (.aload_n 0, 1) := by decide +kernel
theorem dX8_addBatch_26 : decode cX8_addBatch 26 = .ok (.getfield 25, 3) := by decide +kernel
theorem dX8_addBatch_29 : decode cX8_addBatch 29 = .ok (.aload_n 0, 1) := by decide +kernel
theorem dX8_addBatch_30 : decode cX8_addBatch 30 = .ok (.getfield 42, 3) := by decide +kernel
theorem dX8_addBatch_33 : decode cX8_addBatch 33 = .ok (.iload_n 3, 1) := by decide +kernel
theorem dX8_addBatch_34 : decode cX8_addBatch 34 = .ok (.iastore, 1) := by decide +kernel
theorem dX8_addBatch_35 : decode cX8_addBatch 35 = .ok (.aload_n 0, 1) := by decide +kernel
theorem dX8_addBatch_36 : decode cX8_addBatch 36 = .ok (.dup, 1) := by decide +kernel
theorem dX8_addBatch_37 : decode cX8_addBatch 37 = .ok (.getfield 42, 3) := by decide +kernel
theorem dX8_addBatch_40 : decode cX8_addBatch 40 = .ok (.iconst 1, 1) := by decide +kernel
theorem dX8_addBatch_41 : decode cX8_addBatch 41 = .ok (.iadd, 1) := by decide +kernel
theorem dX8_addBatch_42 : decode cX8_addBatch 42 = .ok (.putfield 42, 3) := by decide +kernel
theorem dX8_addBatch_45 : decode cX8_addBatch 45 = .ok (.aload_n 0, 1) := by decide +kernel
theorem dX8_addBatch_46 : decode cX8_addBatch 46 = .ok (.getfield 15, 3) := by decide +kernel
theorem dX8_addBatch_49 : decode cX8_addBatch 49 = .ok (.iload_n 2, 1) := by decide +kernel
theorem dX8_addBatch_50 : decode cX8_addBatch 50 = .ok (.dup2, 1) := by decide +kernel
theorem dX8_addBatch_51 : decode cX8_addBatch 51 = .ok (.iaload, 1) := by decide +kernel
theorem dX8_addBatch_52 : decode cX8_addBatch 52 = .ok (.iload_n 1, 1) := by decide +kernel
theorem dX8_addBatch_53 : decode cX8_addBatch 53 = .ok (.iadd, 1) := by decide +kernel
theorem dX8_addBatch_54 : decode cX8_addBatch 54 = .ok (.iastore, 1) := by decide +kernel
theorem dX8_addBatch_55 : decode cX8_addBatch 55 = .ok (.aload_n 0, 1) := by decide +kernel
theorem dX8_addBatch_56 : decode cX8_addBatch 56 = .ok (.getfield 18, 3) := by decide +kernel
theorem dX8_addBatch_59 : decode cX8_addBatch 59 = .ok (.iload_n 2, 1) := by decide +kernel
theorem dX8_addBatch_60 : decode cX8_addBatch 60 = .ok (.dup2, 1) := by decide +kernel
theorem dX8_addBatch_61 : decode cX8_addBatch 61 = .ok (.iaload, 1) := by decide +kernel
theorem dX8_addBatch_62 : decode cX8_addBatch 62 = .ok (.iconst 1, 1) := by decide +kernel
theorem dX8_addBatch_63 : decode cX8_addBatch 63 = .ok (.iadd, 1) := by decide +kernel
theorem dX8_addBatch_64 : decode cX8_addBatch 64 = .ok (.iastore, 1) := by decide +kernel
theorem dX8_addBatch_65 : decode cX8_addBatch 65 = .ok (.iload_n 3, 1) := by decide +kernel
theorem dX8_addBatch_66 : decode cX8_addBatch 66 = .ok (.ireturn, 1) := by decide +kernel
theorem dX8_dropFirst_0 : decode cX8_dropFirst 0 = .ok (.iconst 0, 1) := by decide +kernel
theorem dX8_dropFirst_1 : decode cX8_dropFirst 1 = .ok (.istore_n 2, 1) := by decide +kernel
theorem dX8_dropFirst_2 : decode cX8_dropFirst 2 = .ok (.iconst 0, 1) := by decide +kernel
theorem dX8_dropFirst_3 : decode cX8_dropFirst 3 = .ok (.istore_n 3, 1) := by decide +kernel
theorem dX8_dropFirst_4 : decode cX8_dropFirst 4 = .ok (.iload_n 3, 1) := by decide +kernel
theorem dX8_dropFirst_5 : decode cX8_dropFirst 5 = .ok (.iload_n 1, 1) := by decide +kernel
theorem dX8_dropFirst_6 : decode cX8_dropFirst 6 = .ok (.if_icmp .ge 18, 3) := by decide +kernel
theorem dX8_dropFirst_9 : decode cX8_dropFirst 9 = .ok (.iload_n 2, 1) := by decide +kernel
theorem dX8_dropFirst_10 : decode cX8_dropFirst 10 = .ok (.aload_n 0, 1) := by decide +kernel
theorem dX8_dropFirst_11 : decode cX8_dropFirst 11 = .ok (.getfield 18, 3) := by decide +kernel
theorem dX8_dropFirst_14 : decode cX8_dropFirst 14 = .ok (.iload_n 3, 1) := by decide +kernel
theorem dX8_dropFirst_15 : decode cX8_dropFirst 15 = .ok (.iaload, 1) := by decide +kernel
theorem dX8_dropFirst_16 : decode cX8_dropFirst 16 = .ok (.iadd, 1) := by decide +kernel
theorem dX8_dropFirst_17 : decode cX8_dropFirst 17 = .ok (.istore_n 2, 1) := by decide +kernel
theorem dX8_dropFirst_18 : decode cX8_dropFirst 18 = .ok (.iinc 3 1, 3) := by decide +kernel
theorem dX8_dropFirst_21 : decode cX8_dropFirst 21 = .ok (.goto (-17), 3) := by decide +kernel
theorem dX8_dropFirst_24 : decode cX8_dropFirst 24 = .ok (.aload_n 0, 1) := by decide +kernel
theorem dX8_dropFirst_25 : decode cX8_dropFirst 25 = .ok (.getfield 25, 3) := by decide +kernel
theorem dX8_dropFirst_28 : decode cX8_dropFirst 28 = .ok (.iload_n 2, 1) := by decide +kernel
theorem dX8_dropFirst_29 : decode cX8_dropFirst 29 = .ok (.aload_n 0, 1) := by decide +kernel
theorem dX8_dropFirst_30 : decode cX8_dropFirst 30 = .ok (.getfield 25, 3) := by decide +kernel
theorem dX8_dropFirst_33 : decode cX8_dropFirst 33 = .ok (.iconst 0, 1) := by decide +kernel
theorem dX8_dropFirst_34 : decode cX8_dropFirst 34 = .ok (.aload_n 0, 1) := by decide +kernel
theorem dX8_dropFirst_35 : decode cX8_dropFirst 35 = .ok (.getfield 42, 3) := by decide +kernel
theorem dX8_dropFirst_38 : decode cX8_dropFirst 38 = .ok (.iload_n 2, 1) := by decide +kernel
theorem dX8_dropFirst_39 : decode cX8_dropFirst 39 = .ok (.isub, 1) := by decide +kernel
theorem dX8_dropFirst_40 : decode cX8_dropFirst 40 = .ok (.invokestatic 45, 3) := by decide +kernel
theorem dX8_dropFirst_43 : decode cX8_dropFirst 43 = .ok (.aload_n 0, 1) := by decide +kernel
theorem dX8_dropFirst_44 : decode cX8_dropFirst 44 = .ok (.dup, 1) := by decide +kernel
theorem dX8_dropFirst_45 : decode cX8_dropFirst 45 = .ok (.getfield 42, 3) := by decide +kernel
theorem dX8_dropFirst_48 : decode cX8_dropFirst 48 = .ok (.iload_n 2, 1) := by decide +kernel
theorem dX8_dropFirst_49 : decode cX8_dropFirst 49 = .ok (.isub, 1) := by decide +kernel
theorem dX8_dropFirst_50 : decode cX8_dropFirst 50 = .ok (.putfield 42, 3) := by decide +kernel
theorem dX8_dropFirst_53 : decode cX8_dropFirst 53 = .ok (.aload_n 0, 1) := by decide +kernel
theorem dX8_dropFirst_54 : decode cX8_dropFirst 54 = .ok (.getfield 9, 3) := by decide +kernel
theorem dX8_dropFirst_57 : decode cX8_dropFirst 57 = .ok (.iload_n 1, 1) := by decide +kernel
theorem dX8_dropFirst_58 : decode cX8_dropFirst 58 = .ok (.aload_n 0, 1) := by decide +kernel
theorem dX8_dropFirst_59 : decode cX8_dropFirst 59 = .ok (.getfield 9, 3) := by decide +kernel
theorem dX8_dropFirst_62 : decode cX8_dropFirst 62 = .ok (.iconst 0, 1) := by decide +kernel
theorem dX8_dropFirst_63 : decode cX8_dropFirst 63 = .ok (.aload_n 0, 1) := by decide +kernel
theorem dX8_dropFirst_64 : decode cX8_dropFirst 64 = .ok (.getfield 39, 3) := by decide +kernel
theorem dX8_dropFirst_67 : decode cX8_dropFirst 67 = .ok (.iload_n 1, 1) := by decide +kernel
theorem dX8_dropFirst_68 : decode cX8_dropFirst 68 = .ok (.isub, 1) := by decide +kernel
theorem dX8_dropFirst_69 : decode cX8_dropFirst 69 = .ok (.invokestatic 45, 3) := by decide +kernel
theorem dX8_dropFirst_72 : decode cX8_dropFirst 72 = .ok (.aload_n 0, 1) := by decide +kernel
theorem dX8_dropFirst_73 : decode cX8_dropFirst 73 = .ok (.getfield 15, 3) := by decide +kernel
theorem dX8_dropFirst_76 : decode cX8_dropFirst 76 = .ok (.iload_n 1, 1) := by decide +kernel
theorem dX8_dropFirst_77 : decode cX8_dropFirst 77 = .ok (.aload_n 0, 1) := by decide +kernel
theorem dX8_dropFirst_78 : decode cX8_dropFirst 78 = .ok (.getfield 15, 3) := by decide +kernel
theorem dX8_dropFirst_81 : decode cX8_dropFirst 81 = .ok (.iconst 0, 1) := by decide +kernel
theorem dX8_dropFirst_82 : decode cX8_dropFirst 82 = .ok (.aload_n 0, 1) := by decide +kernel
theorem dX8_dropFirst_83 : decode cX8_dropFirst 83 = .ok (.getfield 39, 3) := by decide +kernel
theorem dX8_dropFirst_86 : decode cX8_dropFirst 86 = .ok (.iload_n 1, 1) := by decide +kernel
theorem dX8_dropFirst_87 : decode cX8_dropFirst 87 = .ok (.isub, 1) := by decide +kernel
theorem dX8_dropFirst_88 : decode cX8_dropFirst 88 = .ok (.invokestatic 45, 3) := by decide +kernel
theorem dX8_dropFirst_91 : decode cX8_dropFirst 91 = .ok (.aload_n 0, 1) := by decide +kernel
theorem dX8_dropFirst_92 : decode cX8_dropFirst 92 = .ok (.getfield 18, 3) := by decide +kernel
theorem dX8_dropFirst_95 : decode cX8_dropFirst 95 = .ok (.iload_n 1, 1) := by decide +kernel
theorem dX8_dropFirst_96 : decode cX8_dropFirst 96 = .ok (.aload_n 0, 1) := by decide +kernel
theorem dX8_dropFirst_97 : decode cX8_dropFirst 97 = .ok (.getfield 18, 3) := by decide +kernel
theorem dX8_dropFirst_100 : decode cX8_dropFirst 100 = .ok (.iconst 0, 1) := by decide +kernel
theorem dX8_dropFirst_101 : decode cX8_dropFirst 101 = .ok (.aload_n 0, 1) := by decide +kernel
theorem dX8_dropFirst_102 : decode cX8_dropFirst 102 = .ok (.getfield 39, 3) := by decide +kernel
theorem dX8_dropFirst_105 : decode cX8_dropFirst 105 = .ok (.iload_n 1, 1) := by decide +kernel
theorem dX8_dropFirst_106 : decode cX8_dropFirst 106 = .ok (.isub, 1) := by decide +kernel
theorem dX8_dropFirst_107 : decode cX8_dropFirst 107 = .ok (.invokestatic 45, 3) := by decide +kernel
theorem dX8_dropFirst_110 : decode cX8_dropFirst 110 = .ok (.aload_n 0, 1) := by decide +kernel
theorem dX8_dropFirst_111 : decode cX8_dropFirst 111 = .ok (.dup, 1) := by decide +kernel
theorem dX8_dropFirst_112 : decode cX8_dropFirst 112 = .ok (.getfield 39, 3) := by decide +kernel
theorem dX8_dropFirst_115 : decode cX8_dropFirst 115 = .ok (.iload_n 1, 1) := by decide +kernel
theorem dX8_dropFirst_116 : decode cX8_dropFirst 116 = .ok (.isub, 1) := by decide +kernel
theorem dX8_dropFirst_117 : decode cX8_dropFirst 117 = .ok (.putfield 39, 3) := by decide +kernel
theorem dX8_dropFirst_120 : decode cX8_dropFirst 120 = .ok (.return_, 1) := by decide +kernel
theorem dX9_init_0 : decode cX9_init 0 = .ok (.aload_n 0, 1) := by decide +kernel
theorem dX9_init_1 : decode cX9_init 1 = .ok (.invokespecial 3, 3) := by decide +kernel
theorem dX9_init_4 : decode cX9_init 4 = .ok (.aload_n 0, 1) := by decide +kernel
theorem dX9_init_5 : decode cX9_init 5 = .ok (.sipush 500, 3) := by decide +kernel
theorem dX9_init_8 : decode cX9_init 8 = .ok (.newarray .byte, 2) := by decide +kernel
theorem dX9_init_10 : decode cX9_init 10 = .ok (.putfield 9, 3) := by decide +kernel
theorem dX9_init_13 : decode cX9_init 13 = .ok (.aload_n 0, 1) := by decide +kernel
theorem dX9_init_14 : decode cX9_init 14 = .ok (.new 15, 3) := by decide +kernel
theorem dX9_init_17 : decode cX9_init 17 = .ok (.dup, 1) := by decide +kernel
theorem dX9_init_18 : decode cX9_init 18 = .ok (.invokespecial 17, 3) := by decide +kernel
theorem dX9_init_21 : decode cX9_init 21 = .ok (.putfield 18, 3) := by decide +kernel
theorem dX9_init_24 : decode cX9_init 24 = .ok (.aload_n 0, 1) := by decide +kernel
theorem dX9_init_25 : decode cX9_init 25 = .ok (.aload_n 1, 1) := by decide +kernel
theorem dX9_init_26 : decode cX9_init 26 = .ok (.putfield 22, 3) := by decide +kernel
theorem dX9_init_29 : decode cX9_init 29 = .ok (.aload_n 0, 1) := by decide +kernel
theorem dX9_init_30 : decode cX9_init 30 = .ok (.iload_n 3, 1) := by decide +kernel
theorem dX9_init_31 : decode cX9_init 31 = .ok (.putfield 26, 3) := by decide +kernel
theorem dX9_init_34 : decode cX9_init 34 = .ok (.aload_n 0, 1) := by decide +kernel
theorem dX9_init_35 : decode cX9_init 35 = .ok (.iload_n 2, 1) := by decide +kernel
theorem dX9_init_36 : decode cX9_init 36 = .ok (.iconst 1, 1) := by decide +kernel
theorem dX9_init_37 : decode cX9_init 37 = .ok (.iadd, 1) := by decide +kernel
theorem dX9_init_38 : decode cX9_init 38 = .ok (.anewarray 30, 3) := by decide +kernel
theorem dX9_init_41 : decode cX9_init 41 = .ok (.putfield 32, 3) := by decide +kernel
theorem dX9_init_44 : decode cX9_init 44 = .ok (.iconst 0, 1) := by decide +kernel
theorem dX9_init_45 : decode cX9_init 45 = .ok (.istore 4, 2) := by decide +kernel
theorem dX9_init_47 : decode cX9_init 47 = .ok (.iload 4, 2) := by decide +kernel
theorem dX9_init_49 : decode cX9_init 49 = .ok (.iload_n 2, 1) := by decide +kernel
theorem dX9_init_50 : decode cX9_init 50 = .ok (.if_icmp .gt 35, 3) := by decide +kernel
theorem dX9_init_53 : decode cX9_init 53 = .ok (.aload_n 0, 1) := by decide +kernel
theorem dX9_init_54 : decode cX9_init 54 = .ok (.getfield 32, 3) := by decide +kernel
theorem dX9_init_57 : decode cX9_init 57 = .ok (.iload 4, 2) := by decide +kernel
theorem dX9_init_59 : decode cX9_init 59 = .ok (.new 30, 3) := by decide +kernel
theorem dX9_init_62 : decode cX9_init 62 = .ok (.dup, 1) := by decide +kernel
theorem dX9_init_63 : decode cX9_init 63 = .ok (.iconst 1, 1) := by decide +kernel
theorem dX9_init_64 : decode cX9_init 64 = .ok (.iload 4, 2) := by decide +kernel
theorem dX9_init_66 : decode cX9_init 66 = .ok (.iadd, 1) := by decide +kernel
theorem dX9_init_67 : decode cX9_init 67 = .ok (.aload_n 1, 1) := by decide +kernel
theorem dX9_init_68 : decode cX9_init 68 = .ok (.getfield 36, 3) := by decide +kernel
theorem dX9_init_71 : decode cX9_init 71 = .ok (.arraylength, 1) := by decide +kernel
theorem dX9_init_72 : decode cX9_init 72 = .ok (.bipush 61, 2) := by decide +kernel
theorem dX9_init_74 : decode cX9_init 74 = .ok (.idiv, 1) := by decide +kernel
theorem dX9_init_75 : decode cX9_init 75 = .ok (.invokespecial 41, 3) := by decide +kernel
theorem dX9_init_78 : decode cX9_init 78 = .ok (.aastore, 1) := by decide +kernel
theorem dX9_init_79 : decode cX9_init 79 = .ok (.iinc 4 1, 3) := by decide +kernel
theorem dX9_init_82 : decode cX9_init 82 = .ok (.goto (-35), 3) := by decide +kernel
theorem dX9_init_85 : decode cX9_init 85 = .ok (.aload_n 0, 1) := by decide +kernel
theorem dX9_init_86 : decode cX9_init 86 = .ok (.iload_n 2, 1) := by decide +kernel
theorem dX9_init_87 : decode cX9_init 87 = .ok (.iconst 2, 1) := by decide +kernel
theorem dX9_init_88 : decode cX9_init 88 = .ok (.iadd, 1) := by decide +kernel
theorem dX9_init_89 : decode cX9_init 89 = .ok (.putfield 44, 3) := by decide +kernel
theorem dX9_init_92 : decode cX9_init 92 = .ok (.aload_n 0, 1) := by decide +kernel
theorem dX9_init_93 : decode cX9_init 93 = .ok (.aload_n 1, 1) := by decide +kernel
theorem dX9_init_94 : decode cX9_init 94 = .ok (.invokevirtual 47, 3) := by decide +kernel
theorem dX9_init_97 : decode cX9_init 97 = .ok (.newarray .byte, 2) := by decide +kernel
theorem dX9_init_99 : decode cX9_init 99 = .ok (.putfield 51, 3) := by decide +kernel
theorem dX9_init_102 : decode cX9_init 102 = .ok (.return_, 1) := by decide +kernel
theorem dX9_own_0 : decode cX9_own 0 = .ok (.aload_n 0, 1) := by decide +kernel
theorem dX9_own_1 : decode cX9_own 1 = .ok (.getfield 32, 3) := by decide +kernel
theorem dX9_own_4 : decode cX9_own 4 = .ok (.aload_n 0, 1) := by decide +kernel
theorem dX9_own_5 : decode cX9_own 5 = .ok (.getfield 32, 3) := by decide +kernel
theorem dX9_own_8 : decode cX9_own 8 = .ok (.arraylength, 1) := by decide +kernel
theorem dX9_own_9 : decode cX9_own 9 = .ok (.iconst 1, 1) := by decide +kernel
theorem dX9_own_10 : decode cX9_own 10 = .ok (.isub, 1) := by decide +kernel
theorem dX9_own_11 : decode cX9_own 11 = .ok (.aaload, 1) := by decide +kernel
theorem dX9_own_12 : decode cX9_own 12 = .ok (.areturn, 1) := by decide +kernel
theorem dX9_accept_0 : decode cX9_accept 0 = .ok (.iload_n 3, 1) := by decide +kernel
theorem dX9_accept_1 : decode cX9_accept 1 = .ok (.aload_n 0, 1) := by decide +kernel
theorem dX9_accept_2 : decode cX9_accept 2 = .ok (.getfield 26, 3) := by decide +kernel
theorem dX9_accept_5 : decode cX9_accept 5 = .ok (.sipush 1024, 3) := by decide +kernel
theorem dX9_accept_8 : decode cX9_accept 8 = .ok (.imul, 1) := by decide +kernel
theorem dX9_accept_9 : decode cX9_accept 9 = .ok (.if_icmp .le 7, 3) := by decide +kernel
theorem dX9_accept_12 : decode cX9_accept 12 = .ok (.ldc2_w 54, 3) := by decide +kernel
theorem dX9_accept_15 : decode cX9_accept 15 = .ok (.lreturn, 1) := by decide +kernel
theorem dX9_accept_16 : decode cX9_accept 16 = .ok (.aload_n 0, 1) := by decide +kernel
theorem dX9_accept_17 : decode cX9_accept 17 = .ok (.aload_n 1, 1) := by decide +kernel
theorem dX9_accept_18 : decode cX9_accept 18 = .ok (.aload_n 2, 1) := by decide +kernel
theorem dX9_accept_19 : decode cX9_accept 19 = .ok (.invokevirtual 56, 3) := by decide +kernel
theorem dX9_accept_22 : decode cX9_accept 22 = .ok (.lstore 4, 2) := by decide +kernel
theorem dX9_accept_24 : decode cX9_accept 24 = .ok (.lload 4, 2) := by decide +kernel
theorem dX9_accept_26 : decode cX9_accept 26 = .ok (.ldc2_w 60, 3) := by decide +kernel
theorem dX9_accept_29 : decode cX9_accept 29 = .ok (.lcmp, 1) := by decide +kernel
theorem dX9_accept_30 : decode cX9_accept 30 = .ok (.ifCond .ne 13, 3) := by decide +kernel
theorem dX9_accept_33 : decode cX9_accept 33 = .ok (.aload_n 0, 1) := by decide +kernel
theorem dX9_accept_34 : decode cX9_accept 34 = .ok (.aload_n 1, 1) := by decide +kernel
theorem dX9_accept_35 : decode cX9_accept 35 = .ok (.aload_n 2, 1) := by decide +kernel
theorem dX9_accept_36 : decode cX9_accept 36 = .ok (.iload_n 3, 1) := by decide +kernel
theorem dX9_accept_37 : decode cX9_accept 37 = .ok (.invokevirtual 62, 3) := by decide +kernel
theorem dX9_accept_40 : decode cX9_accept 40 = .ok (.goto 5, 3) := by decide +kernel
theorem dX9_accept_43 : decode cX9_accept 43 = .ok (.lload 4, 2) := by decide +kernel
theorem dX9_accept_45 : decode cX9_accept 45 = .ok (.lreturn, 1) := by decide +kernel
theorem dX9_answerAsKnown_0 : decode cX9_answerAsKnown 0 = .ok (.aload_n 2, 1) := by decide +kernel
theorem dX9_answerAsKnown_1 : decode cX9_answerAsKnown 1 = .ok (.iconst 0, 1) := by decide +kernel
theorem dX9_answerAsKnown_2 : decode cX9_answerAsKnown 2 = .ok (.invokestatic 66, 3) := by decide +kernel
theorem dX9_answerAsKnown_5 : decode cX9_answerAsKnown 5 = .ok (.lstore_n 3, 1) := by decide +kernel
theorem dX9_answerAsKnown_6 : decode cX9_answerAsKnown 6 = .ok (.aload_n 0, 1) := by decide +kernel
theorem dX9_answerAsKnown_7 : decode cX9_answerAsKnown 7 = .ok (.aload_n 1, 1) := by decide +kernel
theorem dX9_answerAsKnown_8 : decode cX9_answerAsKnown 8 = .ok (.lload_n 3, 1) := by decide +kernel
theorem dX9_answerAsKnown_9 : decode cX9_answerAsKnown 9 = .ok (.iconst 0, 1) := by decide +kernel
theorem dX9_answerAsKnown_10 : decode cX9_answerAsKnown 10 = .ok (.invokevirtual 72, 3) := by decide +kernel
theorem dX9_answerAsKnown_13 : decode cX9_answerAsKnown 13 = .ok (.istore 5, 2) := by decide +kernel
theorem dX9_answerAsKnown_15 : decode cX9_answerAsKnown 15 = .ok (.iload 5, 2) := by decide +kernel
theorem dX9_answerAsKnown_17 : decode cX9_answerAsKnown 17 = .ok (.iconst (-1), 1) := by decide +kernel
theorem dX9_answerAsKnown_18 : decode cX9_answerAsKnown 18 = .ok (.if_icmp .ne 7, 3) := by decide +kernel
theorem dX9_answerAsKnown_21 : decode cX9_answerAsKnown 21 = .ok (.ldc2_w 60, 3) := by decide +kernel
theorem dX9_answerAsKnown_24 : decode cX9_answerAsKnown 24 = .ok (.lreturn, 1) := by decide +kernel
theorem dX9_answerAsKnown_25 : decode cX9_answerAsKnown 25 = .ok (.aload_n 2, 1) := by decide +kernel
theorem dX9_answerAsKnown_26 : decode cX9_answerAsKnown 26 = .ok (.iconst 0, 1) := by decide +kernel
theorem dX9_answerAsKnown_27 : decode cX9_answerAsKnown 27 = .ok (.invokestatic 76, 3) := by decide +kernel
theorem dX9_answerAsKnown_30 : decode cX9_answerAsKnown 30 = .ok (.istore 6, 2) := by decide +kernel
theorem dX9_answerAsKnown_32 : decode cX9_answerAsKnown 32 = .ok (.aload_n 0, 1) := by decide +kernel
theorem dX9_answerAsKnown_33 : decode cX9_answerAsKnown 33 = .ok (.getfield 22, 3) := by decide +kernel
theorem dX9_answerAsKnown_36 : decode cX9_answerAsKnown 36 = .ok (.getfield 36, 3) := by decide +kernel
theorem dX9_answerAsKnown_39 : decode cX9_answerAsKnown 39 = .ok (.iload 5, 2) := by decide +kernel
theorem dX9_answerAsKnown_41 : decode cX9_answerAsKnown 41 = .ok (.invokestatic 76, 3) := by decide +kernel
theorem dX9_answerAsKnown_44 : decode cX9_answerAsKnown 44 = .ok (.istore 7, 2) := by decide +kernel
theorem dX9_answerAsKnown_46 : decode cX9_answerAsKnown 46 = .ok (.iload 6, 2) := by decide +kernel
theorem dX9_answerAsKnown_48 : decode cX9_answerAsKnown 48 = .ok (.iload 7, 2) := by decide +kernel
theorem dX9_answerAsKnown_50 : decode cX9_answerAsKnown 50 = .ok (.if_icmp .ge 7, 3) := by decide +kernel
theorem dX9_answerAsKnown_53 : decode cX9_answerAsKnown 53 = .ok (.ldc2_w 80, 3) := by decide +kernel
theorem dX9_answerAsKnown_56 : decode cX9_answerAsKnown 56 = .ok (.lreturn, 1) := by decide +kernel
theorem dX9_answerAsKnown_57 : decode cX9_answerAsKnown 57 = .ok (.iconst 0, 1) := by decide +kernel
theorem dX9_answerAsKnown_58 : decode cX9_answerAsKnown 58 = .ok (.istore 8, 2) := by decide +kernel
theorem dX9_answerAsKnown_60 : decode cX9_answerAsKnown 60 = .ok (.iload 8, 2) := by decide +kernel
theorem dX9_answerAsKnown_62 : decode cX9_answerAsKnown 62 = .ok (.iconst 5, 1) := by decide +kernel
theorem dX9_answerAsKnown_63 : decode cX9_answerAsKnown 63 = .ok (.if_icmp .ge 48, 3) := by decide +kernel
theorem dX9_answerAsKnown_66 : decode cX9_answerAsKnown 66 = .ok (.aload_n 0, 1) := by decide +kernel
theorem dX9_answerAsKnown_67 : decode cX9_answerAsKnown 67 = .ok (.aload_n 1, 1) := by decide +kernel
theorem dX9_answerAsKnown_68 : decode cX9_answerAsKnown 68 = .ok (.lload_n 3, 1) := by decide +kernel
theorem dX9_answerAsKnown_69 : decode cX9_answerAsKnown 69 = .ok (.iload 8, 2) := by decide +kernel
theorem dX9_answerAsKnown_71 : decode cX9_answerAsKnown 71 = .ok (.invokevirtual 72, 3) := by decide +kernel
theorem dX9_answerAsKnown_74 : decode cX9_answerAsKnown 74 = .ok (.istore 9, 2) := by decide +kernel
theorem dX9_answerAsKnown_76 : decode cX9_answerAsKnown 76 = .ok (.iload 9, 2) := by decide +kernel
theorem dX9_answerAsKnown_78 : decode cX9_answerAsKnown 78 = .ok (.iconst (-1), 1) := by decide +kernel
theorem dX9_answerAsKnown_79 : decode cX9_answerAsKnown 79 = .ok (.if_icmp .eq 26, 3) := by decide +kernel
theorem dX9_answerAsKnown_82 : decode cX9_answerAsKnown 82 = .ok (.aload_n 0, 1) := by decide +kernel
theorem dX9_answerAsKnown_83 : decode cX9_answerAsKnown 83 = .ok (.aload_n 2, 1) := by decide +kernel
theorem dX9_answerAsKnown_84 : decode cX9_answerAsKnown 84 = .ok (.iload 9, 2) := by decide +kernel
theorem dX9_answerAsKnown_86 : decode cX9_answerAsKnown 86 = .ok (.invokevirtual 82, 3) := by decide +kernel
theorem dX9_answerAsKnown_89 : decode cX9_answerAsKnown 89 = .ok (.ifCond .eq 16, 3) := by decide +kernel
theorem dX9_answerAsKnown_92 : decode cX9_answerAsKnown 92 = .ok (.aload_n 0, 1) := by decide +kernel
theorem dX9_answerAsKnown_93 : decode cX9_answerAsKnown 93 = .ok (.getfield 22, 3) := by decide +kernel
theorem dX9_answerAsKnown_96 : decode cX9_answerAsKnown 96 = .ok (.getfield 36, 3) := by decide +kernel
theorem dX9_answerAsKnown_99 : decode cX9_answerAsKnown 99 = .ok (.iload 9, 2) := by decide +kernel
theorem dX9_answerAsKnown_101 : decode cX9_answerAsKnown 101 = .ok (.invokestatic 86, 3) := by decide +kernel
theorem dX9_answerAsKnown_104 : decode cX9_answerAsKnown 104 = .ok (.lreturn, 1) := by decide +kernel
theorem dX9_answerAsKnown_105 : decode cX9_answerAsKnown 105 = .ok (.iinc 8 1, 3) := by decide +kernel
theorem dX9_answerAsKnown_108 : decode cX9_answerAsKnown 108 = .ok (.goto (-48), 3) := by decide +kernel
theorem dX9_answerAsKnown_111 : decode cX9_answerAsKnown 111 = .ok (.iload 6, 2) := by decide +kernel
theorem dX9_answerAsKnown_113 : decode cX9_answerAsKnown 113 = .ok (.iload 7, 2) := by decide +kernel
theorem dX9_answerAsKnown_115 : decode cX9_answerAsKnown 115 = .ok (.if_icmp .ne 18, 3) := by decide +kernel
theorem dX9_answerAsKnown_118 : decode cX9_answerAsKnown 118 = .ok (.aload_n 0, 1) := by decide +kernel
theorem dX9_answerAsKnown_119 : decode cX9_answerAsKnown 119 = .ok (.getfield 22, 3) := by decide +kernel
theorem dX9_answerAsKnown_122 : decode cX9_answerAsKnown 122 = .ok (.getfield 36, 3) := by decide +kernel
theorem dX9_answerAsKnown_125 : decode cX9_answerAsKnown 125 = .ok (.iload 5, 2) := by decide +kernel
theorem dX9_answerAsKnown_127 : decode cX9_answerAsKnown 127 = .ok (.invokestatic 89, 3) := by decide +kernel
theorem dX9_answerAsKnown_130 : decode cX9_answerAsKnown 130 = .ok (.goto 4, 3) := by decide +kernel
theorem dX9_answerAsKnown_133 : decode cX9_answerAsKnown 133 = .ok (.iconst 0, 1) := by decide +kernel
theorem dX9_answerAsKnown_134 : decode cX9_answerAsKnown 134 = .ok (.istore 8, 2) := by decide +kernel
theorem dX9_answerAsKnown_136 : decode cX9_answerAsKnown 136 = .ok (.aload_n 2, 1) := by decide +kernel
theorem dX9_answerAsKnown_137 : decode cX9_answerAsKnown 137 = .ok (.iconst 0, 1) := by decide +kernel
theorem dX9_answerAsKnown_138 : decode cX9_answerAsKnown 138 = .ok (.invokestatic 92, 3) := by decide +kernel
theorem dX9_answerAsKnown_141 : decode cX9_answerAsKnown 141 = .ok (.iload 8, 2) := by decide +kernel
theorem dX9_answerAsKnown_143 : decode cX9_answerAsKnown 143 = .ok (.if_icmp .ne 9, 3) := by decide +kernel
theorem dX9_answerAsKnown_146 : decode cX9_answerAsKnown 146 = .ok (.ldc2_w 60, 3) := by decide +kernel
theorem dX9_answerAsKnown_149 : decode cX9_answerAsKnown 149 = .ok (.goto 6, 3) := by decide +kernel
theorem dX9_answerAsKnown_152 : decode cX9_answerAsKnown 152 = .ok (.ldc2_w 95, 3) := by decide +kernel
theorem dX9_answerAsKnown_155 : decode cX9_answerAsKnown 155 = .ok (.lreturn, 1) := by decide +kernel
theorem dX9_isSentAgain_0 : decode cX9_isSentAgain 0 = .ok (.aload_n 1, 1) := by decide +kernel
theorem dX9_isSentAgain_1 : decode cX9_isSentAgain 1 = .ok (.iconst 0, 1) := by decide +kernel
theorem dX9_isSentAgain_2 : decode cX9_isSentAgain 2 = .ok (.invokestatic 76, 3) := by decide +kernel
theorem dX9_isSentAgain_5 : decode cX9_isSentAgain 5 = .ok (.aload_n 0, 1) := by decide +kernel
theorem dX9_isSentAgain_6 : decode cX9_isSentAgain 6 = .ok (.getfield 22, 3) := by decide +kernel
theorem dX9_isSentAgain_9 : decode cX9_isSentAgain 9 = .ok (.getfield 36, 3) := by decide +kernel
theorem dX9_isSentAgain_12 : decode cX9_isSentAgain 12 = .ok (.iload_n 2, 1) := by decide +kernel
theorem dX9_isSentAgain_13 : decode cX9_isSentAgain 13 = .ok (.invokestatic 76, 3) := by decide +kernel
theorem dX9_isSentAgain_16 : decode cX9_isSentAgain 16 = .ok (.if_icmp .ne 45, 3) := by decide +kernel
theorem dX9_isSentAgain_19 : decode cX9_isSentAgain 19 = .ok (.aload_n 1, 1) := by decide +kernel
theorem dX9_isSentAgain_20 : decode cX9_isSentAgain 20 = .ok (.iconst 0, 1) := by decide +kernel
theorem dX9_isSentAgain_21 : decode cX9_isSentAgain 21 = .ok (.invokestatic 92, 3) := by decide +kernel
theorem dX9_isSentAgain_24 : decode cX9_isSentAgain 24 = .ok (.aload_n 0, 1) := by decide +kernel
theorem dX9_isSentAgain_25 : decode cX9_isSentAgain 25 = .ok (.getfield 22, 3) := by decide +kernel
theorem dX9_isSentAgain_28 : decode cX9_isSentAgain 28 = .ok (.getfield 36, 3) := by decide +kernel
theorem dX9_isSentAgain_31 : decode cX9_isSentAgain 31 = .ok (.iload_n 2, 1) := by decide +kernel
theorem dX9_isSentAgain_32 : decode cX9_isSentAgain 32 = .ok (.invokestatic 92, 3) := by decide +kernel
theorem dX9_isSentAgain_35 : decode cX9_isSentAgain 35 = .ok (.if_icmp .ne 26, 3) := by decide +kernel
theorem dX9_isSentAgain_38 : decode cX9_isSentAgain 38 = .ok (.aload_n 1, 1) := by decide +kernel
theorem dX9_isSentAgain_39 : decode cX9_isSentAgain 39 = .ok (.iconst 0, 1) := by decide +kernel
theorem dX9_isSentAgain_40 : decode cX9_isSentAgain 40 = .ok (.invokestatic 97, 3) := by decide +kernel
theorem dX9_isSentAgain_43 : decode cX9_isSentAgain 43 = .ok (.aload_n 0, 1) := by decide +kernel
theorem dX9_isSentAgain_44 : decode cX9_isSentAgain 44 = .ok (.getfield 22, 3) := by decide +kernel
theorem dX9_isSentAgain_47 : decode cX9_isSentAgain 47 = .ok (.getfield 36, 3) := by decide +kernel
theorem dX9_isSentAgain_50 : decode cX9_isSentAgain 50 = .ok (.iload_n 2, 1) := by decide +kernel
theorem dX9_isSentAgain_51 : decode cX9_isSentAgain 51 = .ok (.invokestatic 97, 3) := by decide +kernel
theorem dX9_isSentAgain_54 : decode cX9_isSentAgain 54 = .ok (.if_icmp .ne 7, 3) := by decide +kernel
theorem dX9_isSentAgain_57 : decode cX9_isSentAgain 57 = .ok (.iconst 1, 1) := by decide +kernel
theorem dX9_isSentAgain_58 : decode cX9_isSentAgain 58 = .ok (.goto 4, 3) := by decide +kernel
theorem dX9_isSentAgain_61 : decode cX9_isSentAgain 61 = .ok (.iconst 0, 1) := by decide +kernel
theorem dX9_isSentAgain_62 : decode cX9_isSentAgain 62 = .ok (.ireturn, 1) := by decide +kernel
theorem dX9_knownAt_0 : decode cX9_knownAt 0 = .ok (.lload_n 2, 1) := by decide +kernel
theorem dX9_knownAt_1 : decode cX9_knownAt 1 = .ok (.ldc2_w 60, 3) := by decide +kernel
theorem dX9_knownAt_4 : decode cX9_knownAt 4 = .ok (.lcmp, 1) := by decide +kernel
theorem dX9_knownAt_5 : decode cX9_knownAt 5 = .ok (.ifCond .eq 9, 3) := by decide +kernel
theorem dX9_knownAt_8 : decode cX9_knownAt 8 = .ok (.iload 4, 2) := by decide +kernel
theorem dX9_knownAt_10 : decode cX9_knownAt 10 = .ok (.iconst 5, 1) := by decide +kernel
theorem dX9_knownAt_11 : decode cX9_knownAt 11 = .ok (.if_icmp .lt 5, 3) := by decide +kernel
theorem dX9_knownAt_14 : decode cX9_knownAt 14 = .ok (.iconst (-1), 1) := by decide +kernel
theorem dX9_knownAt_15 : decode cX9_knownAt 15 = .ok (.ireturn, 1) := by decide +kernel
theorem dX9_knownAt_16 : decode cX9_knownAt 16 = .ok (.iconst 0, 1) := by decide +kernel
theorem dX9_knownAt_17 : decode cX9_knownAt 17 = .ok (.istore 5, 2) := by decide +kernel
theorem dX9_knownAt_19 : decode cX9_knownAt 19 = .ok (.aload_n 1, 1) := by decide +kernel
theorem dX9_knownAt_20 : decode cX9_knownAt 20 = .ok (.getfield 100, 3) := by decide +kernel
theorem dX9_knownAt_23 : decode cX9_knownAt 23 = .ok (.iconst 1, 1) := by decide +kernel
theorem dX9_knownAt_24 : decode cX9_knownAt 24 = .ok (.isub, 1) := by decide +kernel
theorem dX9_knownAt_25 : decode cX9_knownAt 25 = .ok (.istore 6, 2) := by decide +kernel
theorem dX9_knownAt_27 : decode cX9_knownAt 27 = .ok (.iload 6, 2) := by decide +kernel
theorem dX9_knownAt_29 : decode cX9_knownAt 29 = .ok (.ifCond .lt 49, 3) := by decide +kernel
theorem dX9_knownAt_32 : decode cX9_knownAt 32 = .ok (.aload_n 0, 1) := by decide +kernel
theorem dX9_knownAt_33 : decode cX9_knownAt 33 = .ok (.getfield 22, 3) := by decide +kernel
theorem dX9_knownAt_36 : decode cX9_knownAt 36 = .ok (.getfield 36, 3) := by decide +kernel
theorem dX9_knownAt_39 : decode cX9_knownAt 39 = .ok (.aload_n 1, 1) := by decide +kernel
theorem dX9_knownAt_40 : decode cX9_knownAt 40 = .ok (.getfield 103, 3) := by decide +kernel
theorem dX9_knownAt_43 : decode cX9_knownAt 43 = .ok (.iload 6, 2) := by decide +kernel
theorem dX9_knownAt_45 : decode cX9_knownAt 45 = .ok (.iaload, 1) := by decide +kernel
theorem dX9_knownAt_46 : decode cX9_knownAt 46 = .ok (.invokestatic 66, 3) := by decide +kernel
theorem dX9_knownAt_49 : decode cX9_knownAt 49 = .ok (.lload_n 2, 1) := by decide +kernel
theorem dX9_knownAt_50 : decode cX9_knownAt 50 = .ok (.lcmp, 1) := by decide +kernel
theorem dX9_knownAt_51 : decode cX9_knownAt 51 = .ok (.ifCond .ne 21, 3) := by decide +kernel
theorem dX9_knownAt_54 : decode cX9_knownAt 54 = .ok (.iload 5, 2) := by decide +kernel
theorem dX9_knownAt_56 : decode cX9_knownAt 56 = .ok (.iload 4, 2) := by decide +kernel
theorem dX9_knownAt_58 : decode cX9_knownAt 58 = .ok (.if_icmp .ne 11, 3) := by decide +kernel
theorem dX9_knownAt_61 : decode cX9_knownAt 61 = .ok (.aload_n 1, 1) := by decide +kernel
theorem dX9_knownAt_62 : decode cX9_knownAt 62 = .ok (.getfield 103, 3) := by decide +kernel
theorem dX9_knownAt_65 : decode cX9_knownAt 65 = .ok (.iload 6, 2) := by decide +kernel
theorem dX9_knownAt_67 : decode cX9_knownAt 67 = .ok (.iaload, 1) := by decide +kernel
theorem dX9_knownAt_68 : decode cX9_knownAt 68 = .ok (.ireturn, 1) := by decide +kernel
theorem dX9_knownAt_69 : decode cX9_knownAt 69 = .ok (.iinc 5 1, 3) := by decide +kernel
theorem dX9_knownAt_72 : decode cX9_knownAt 72 = .ok (.iinc 6 (-1), 3) := by decide +kernel
theorem dX9_knownAt_75 : decode cX9_knownAt 75 = .ok (.goto (-48), 3) := by decide +kernel
theorem dX9_knownAt_78 : decode cX9_knownAt 78 = .ok (.iconst (-1), 1) := by decide +kernel
theorem dX9_knownAt_79 : decode cX9_knownAt 79 = .ok (.ireturn, 1) := by decide +kernel
theorem dX9_knownCount_0 : decode cX9_knownCount 0 = .ok (.iconst 0, 1) := by decide +kernel
theorem dX9_knownCount_1 : decode cX9_knownCount 1 = .ok (.istore 4, 2) := by decide +kernel
theorem dX9_knownCount_3 : decode cX9_knownCount 3 = .ok (.iload 4, 2) := by decide +kernel
theorem dX9_knownCount_5 : decode cX9_knownCount 5 = .ok (.iconst 5, 1) := by decide +kernel
theorem dX9_knownCount_6 : decode cX9_knownCount 6 = .ok (.if_icmp .ge 21, 3) := by decide +kernel
theorem dX9_knownCount_9 : decode cX9_knownCount 9 = .ok (.aload_n 0, 1) := by decide +kernel
theorem dX9_knownCount_10 : decode cX9_knownCount 10 = .ok (.aload_n 1, 1) := by decide +kernel
theorem dX9_knownCount_11 : decode cX9_knownCount 11 = .ok (.lload_n 2, 1) := by decide +kernel
theorem dX9_knownCount_12 : decode cX9_knownCount 12 = .ok (.iload 4, 2) := by decide +kernel
theorem dX9_knownCount_14 : decode cX9_knownCount 14 = .ok (.invokevirtual 72, 3) := by decide +kernel
theorem dX9_knownCount_17 : decode cX9_knownCount 17 = .ok (.iconst (-1), 1) := by decide +kernel
theorem dX9_knownCount_18 : decode cX9_knownCount 18 = .ok (.if_icmp .eq 9, 3) := by decide +kernel
theorem dX9_knownCount_21 : decode cX9_knownCount 21 = .ok (.iinc 4 1, 3) := by decide +kernel
theorem dX9_knownCount_24 : decode cX9_knownCount 24 = .ok (.goto (-21), 3) := by decide +kernel
theorem dX9_knownCount_27 : decode cX9_knownCount 27 = .ok (.iload 4, 2) := by decide +kernel
theorem dX9_knownCount_29 : decode cX9_knownCount 29 = .ok (.ireturn, 1) := by decide +kernel
theorem dX9_isKnown_0 : decode cX9_isKnown 0 = .ok (.aload_n 0, 1) := by decide +kernel
theorem dX9_isKnown_1 : decode cX9_isKnown 1 = .ok (.getfield 22, 3) := by decide +kernel
theorem dX9_isKnown_4 : decode cX9_isKnown 4 = .ok (.getfield 36, 3) := by decide +kernel
theorem dX9_isKnown_7 : decode cX9_isKnown 7 = .ok (.iload_n 2, 1) := by decide +kernel
theorem dX9_isKnown_8 : decode cX9_isKnown 8 = .ok (.invokestatic 66, 3) := by decide +kernel
theorem dX9_isKnown_11 : decode cX9_isKnown 11 = .ok (.lstore_n 3, 1) := by decide +kernel
theorem dX9_isKnown_12 : decode cX9_isKnown 12 = .ok (.iconst 0, 1) := by decide +kernel
theorem dX9_isKnown_13 : decode cX9_isKnown 13 = .ok (.istore 5, 2) := by decide +kernel
theorem dX9_isKnown_15 : decode cX9_isKnown 15 = .ok (.iload 5, 2) := by decide +kernel
theorem dX9_isKnown_17 : decode cX9_isKnown 17 = .ok (.iconst 5, 1) := by decide +kernel
theorem dX9_isKnown_18 : decode cX9_isKnown 18 = .ok (.if_icmp .ge 23, 3) := by decide +kernel
theorem dX9_isKnown_21 : decode cX9_isKnown 21 = .ok (.aload_n 0, 1) := by decide +kernel
theorem dX9_isKnown_22 : decode cX9_isKnown 22 = .ok (.aload_n 1, 1) := by decide +kernel
theorem dX9_isKnown_23 : decode cX9_isKnown 23 = .ok (.lload_n 3, 1) := by decide +kernel
theorem dX9_isKnown_24 : decode cX9_isKnown 24 = .ok (.iload 5, 2) := by decide +kernel
theorem dX9_isKnown_26 : decode cX9_isKnown 26 = .ok (.invokevirtual 72, 3) := by decide +kernel
theorem dX9_isKnown_29 : decode cX9_isKnown 29 = .ok (.iload_n 2, 1) := by decide +kernel
theorem dX9_isKnown_30 : decode cX9_isKnown 30 = .ok (.if_icmp .ne 5, 3) := by decide +kernel
theorem dX9_isKnown_33 : decode cX9_isKnown 33 = .ok (.iconst 1, 1) := by decide +kernel
theorem dX9_isKnown_34 : decode cX9_isKnown 34 = .ok (.ireturn, 1) := by decide +kernel
theorem dX9_isKnown_35 : decode cX9_isKnown 35 = .ok (.iinc 5 1, 3) := by decide +kernel
theorem dX9_isKnown_38 : decode cX9_isKnown 38 = .ok (.goto (-23), 3) := by decide +kernel
theorem dX9_isKnown_41 : decode cX9_isKnown 41 = .ok (.iconst 0, 1) := by decide +kernel
theorem dX9_isKnown_42 : decode cX9_isKnown 42 = .ok (.ireturn, 1) := by decide +kernel
theorem dX9_append_0 : decode cX9_append 0 = .ok (.aload_n 0, 1) := by decide +kernel
theorem dX9_append_1 : decode cX9_append 1 = .ok (.aload_n 1, 1) := by decide +kernel
theorem dX9_append_2 : decode cX9_append 2 = .ok (.iload_n 3, 1) := by decide +kernel
theorem dX9_append_3 : decode cX9_append 3 = .ok (.invokevirtual 107, 3) := by decide +kernel
theorem dX9_append_6 : decode cX9_append 6 = .ok (.ifCond .ne 42, 3) := by decide +kernel
theorem dX9_append_9 : decode cX9_append 9 = .ok (.aload_n 0, 1) := by decide +kernel
theorem dX9_append_10 : decode cX9_append 10 = .ok (.invokevirtual 111, 3) := by decide +kernel
theorem dX9_append_13 : decode cX9_append 13 = .ok (.aload_n 1, 1) := by decide +kernel
theorem dX9_append_14 : decode cX9_append 14 = .ok (.getfield 114, 3) := by decide +kernel
theorem dX9_append_17 : decode cX9_append 17 = .ok (.bipush 60, 2) := by decide +kernel
theorem dX9_append_19 : decode cX9_append 19 = .ok (.if_icmp .ge 10, 3) := by decide +kernel
theorem dX9_append_22 : decode cX9_append 22 = .ok (.aload_n 0, 1) := by decide +kernel
theorem dX9_append_23 : decode cX9_append 23 = .ok (.invokevirtual 117, 3) := by decide +kernel
theorem dX9_append_26 : decode cX9_append 26 = .ok (.goto 4, 3) := by decide +kernel
theorem dX9_append_29 : decode cX9_append 29 = .ok (.iconst (-1), 1) := by decide +kernel
theorem dX9_append_30 : decode cX9_append 30 = .ok (.istore 4, 2) := by decide +kernel
theorem dX9_append_32 : decode cX9_append 32 = .ok (.iload 4, 2) := by decide +kernel
theorem dX9_append_34 : decode cX9_append 34 = .ok (.iconst (-1), 1) := by decide +kernel
theorem dX9_append_35 : decode cX9_append 35 = .ok (.if_icmp .ne 7, 3) := by decide +kernel
theorem dX9_append_38 : decode cX9_append 38 = .ok (.ldc2_w 120, 3) := by decide +kernel
theorem dX9_append_41 : decode cX9_append 41 = .ok (.lreturn, 1) := by decide +kernel
theorem dX9_append_42 : decode cX9_append 42 = .ok (.aload_n 1, 1) := by decide +kernel
theorem dX9_append_43 : decode cX9_append 43 = .ok (.iload 4, 2) := by decide +kernel
theorem dX9_append_45 : decode cX9_append 45 = .ok (.invokevirtual 122, 3) := by decide +kernel
theorem dX9_append_48 : decode cX9_append 48 = .ok (.aload_n 1, 1) := by decide +kernel
theorem dX9_append_49 : decode cX9_append 49 = .ok (.getfield 126, 3) := by decide +kernel
theorem dX9_append_52 : decode cX9_append 52 = .ok (.lstore 4, 2) := by decide +kernel
theorem dX9_append_54 : decode cX9_append 54 = .ok (.aload_n 2, 1) := by decide +kernel
theorem dX9_append_55 : decode cX9_append 55 = .ok (.iconst 0, 1) := by decide +kernel
theorem dX9_append_56 : decode cX9_append 56 = .ok (.bipush 8, 2) := by decide +kernel
theorem dX9_append_58 : decode cX9_append 58 = .ok (.lload 4, 2) := by decide +kernel
theorem dX9_append_60 : decode cX9_append 60 = .ok (.invokestatic 130, 3) := by decide +kernel
theorem dX9_append_63 : decode cX9_append 63 = .ok (.aload_n 1, 1) := by decide +kernel
theorem dX9_append_64 : decode cX9_append 64 = .ok (.dup, 1) := by decide +kernel
theorem dX9_append_65 : decode cX9_append 65 = .ok (.getfield 126, 3) := by decide +kernel
theorem dX9_append_68 : decode cX9_append 68 = .ok (.aload_n 2, 1) := by decide +kernel
theorem dX9_append_69 : decode cX9_append 69 = .ok (.iconst 0, 1) := by decide +kernel
theorem dX9_append_70 : decode cX9_append 70 = .ok (.invokestatic 136, 3) := by decide +kernel
theorem dX9_append_73 : decode cX9_append 73 = .ok (.i2l, 1) := by decide +kernel
theorem dX9_append_74 : decode cX9_append 74 = .ok (.ladd, 1) := by decide +kernel
theorem dX9_append_75 : decode cX9_append 75 = .ok (.putfield 126, 3) := by decide +kernel
theorem dX9_append_78 : decode cX9_append 78 = .ok (.aload_n 1, 1) := by decide +kernel
theorem dX9_append_79 : decode cX9_append 79 = .ok (.iload_n 3, 1) := by decide +kernel
theorem dX9_append_80 : decode cX9_append 80 = .ok (.invokevirtual 139, 3) := by decide +kernel
theorem dX9_append_83 : decode cX9_append 83 = .ok (.istore 6, 2) := by decide +kernel
theorem dX9_append_85 : decode cX9_append 85 = .ok (.aload_n 0, 1) := by decide +kernel
theorem dX9_append_86 : decode cX9_append 86 = .ok (.getfield 22, 3) := by decide +kernel
theorem dX9_append_89 : decode cX9_append 89 = .ok (.iload 6, 2) := by decide +kernel
theorem dX9_append_91 : decode cX9_append 91 = .ok (.aload_n 2, 1) := by decide +kernel
theorem dX9_append_92 : decode cX9_append 92 = .ok (.iconst 0, 1) := by decide +kernel
theorem dX9_append_93 : decode cX9_append 93 = .ok (.iload_n 3, 1) := by decide +kernel
theorem dX9_append_94 : decode cX9_append 94 = .ok (.invokevirtual 143, 3) := by decide +kernel
theorem dX9_append_97 : decode cX9_append 97 = .ok (.ifCond .eq 15, 3) := by decide +kernel
theorem dX9_append_100 : decode cX9_append 100 = .ok (.aload_n 0, 1) := by decide +kernel
theorem dX9_append_101 : decode cX9_append 101 = .ok (.aload_n 1, 1) := by decide +kernel
theorem dX9_append_102 : decode cX9_append 102 = .ok (.invokevirtual 147, 3) := by decide +kernel
theorem dX9_append_105 : decode cX9_append 105 = .ok (.ifCond .eq 7, 3) := by decide +kernel
theorem dX9_append_108 : decode cX9_append 108 = .ok (.iconst 1, 1) := by decide +kernel
theorem dX9_append_109 : decode cX9_append 109 = .ok (.goto 4, 3) := by decide +kernel
theorem dX9_append_112 : decode cX9_append 112 = .ok (.iconst 0, 1) := by decide +kernel
theorem dX9_append_113 : decode cX9_append 113 = .ok (.istore 7, 2) := by decide +kernel
theorem dX9_append_115 : decode cX9_append 115 = .ok (.iload 7, 2) := by decide +kernel
theorem dX9_append_117 : decode cX9_append 117 = .ok (.ifCond .eq 8, 3) := by decide +kernel
theorem dX9_append_120 : decode cX9_append 120 = .ok (.lload 4, 2) := by decide +kernel
theorem dX9_append_122 : decode cX9_append 122 = .ok (.goto 6, 3) := by decide +kernel
theorem dX9_append_125 : decode cX9_append 125 = .ok (.ldc2_w 151, 3) := by decide +kernel
theorem dX9_append_128 : decode cX9_append 128 = .ok (.lreturn, 1) := by decide +kernel
theorem dX9_hasOpenRoom_0 : decode cX9_hasOpenRoom 0 = .ok (.aload_n 1, 1) := by decide +kernel
theorem dX9_hasOpenRoom_1 : decode cX9_hasOpenRoom 1 = .ok (.getfield 114, 3) := by decide +kernel
theorem dX9_hasOpenRoom_4 : decode cX9_hasOpenRoom 4 = .ok (.iconst 1, 1) := by decide +kernel
theorem dX9_hasOpenRoom_5 : decode cX9_hasOpenRoom 5 = .ok (.isub, 1) := by decide +kernel
theorem dX9_hasOpenRoom_6 : decode cX9_hasOpenRoom 6 = .ok (.istore_n 3, 1) := by decide +kernel
theorem dX9_hasOpenRoom_7 : decode cX9_hasOpenRoom 7 = .ok (.iload_n 3, 1) := by decide +kernel
theorem dX9_hasOpenRoom_8 : decode cX9_hasOpenRoom 8 = .ok (.ifCond .lt 26, 3) := by decide +kernel
theorem dX9_hasOpenRoom_11 : decode cX9_hasOpenRoom 11 = .ok (.aload_n 1, 1) := by decide +kernel
theorem dX9_hasOpenRoom_12 : decode cX9_hasOpenRoom 12 = .ok (.getfield 153, 3) := by decide +kernel
theorem dX9_hasOpenRoom_15 : decode cX9_hasOpenRoom 15 = .ok (.iload_n 3, 1) := by decide +kernel
theorem dX9_hasOpenRoom_16 : decode cX9_hasOpenRoom 16 = .ok (.iaload, 1) := by decide +kernel
theorem dX9_hasOpenRoom_17 : decode cX9_hasOpenRoom 17 = .ok (.iload_n 2, 1) := by decide +kernel
theorem dX9_hasOpenRoom_18 : decode cX9_hasOpenRoom 18 = .ok (.iadd, 1) := by decide +kernel
theorem dX9_hasOpenRoom_19 : decode cX9_hasOpenRoom 19 = .ok (.aload_n 0, 1) := by decide +kernel
theorem dX9_hasOpenRoom_20 : decode cX9_hasOpenRoom 20 = .ok (.getfield 26, 3) := by decide +kernel
theorem dX9_hasOpenRoom_23 : decode cX9_hasOpenRoom 23 = .ok (.sipush 1024, 3) := by decide +kernel
theorem dX9_hasOpenRoom_26 : decode cX9_hasOpenRoom 26 = .ok (.imul, 1) := by decide +kernel
theorem dX9_hasOpenRoom_27 : decode cX9_hasOpenRoom 27 = .ok (.if_icmp .gt 7, 3) := by decide +kernel
theorem dX9_hasOpenRoom_30 : decode cX9_hasOpenRoom 30 = .ok (.iconst 1, 1) := by decide +kernel
theorem dX9_hasOpenRoom_31 : decode cX9_hasOpenRoom 31 = .ok (.goto 4, 3) := by decide +kernel
theorem dX9_hasOpenRoom_34 : decode cX9_hasOpenRoom 34 = .ok (.iconst 0, 1) := by decide +kernel
theorem dX9_hasOpenRoom_35 : decode cX9_hasOpenRoom 35 = .ok (.ireturn, 1) := by decide +kernel
theorem dX9_countUses_0 : decode cX9_countUses 0 = .ok (.aload_n 0, 1) := by decide +kernel
theorem dX9_countUses_1 : decode cX9_countUses 1 = .ok (.getfield 51, 3) := by decide +kernel
theorem dX9_countUses_4 : decode cX9_countUses 4 = .ok (.iconst 0, 1) := by decide +kernel
theorem dX9_countUses_5 : decode cX9_countUses 5 = .ok (.invokestatic 156, 3) := by decide +kernel
theorem dX9_countUses_8 : decode cX9_countUses 8 = .ok (.aload_n 0, 1) := by decide +kernel
theorem dX9_countUses_9 : decode cX9_countUses 9 = .ok (.getfield 32, 3) := by decide +kernel
theorem dX9_countUses_12 : decode cX9_countUses 12 = .ok (.astore_n 1, 1) := by decide +kernel
theorem dX9_countUses_13 : decode cX9_countUses 13 = .ok (.aload_n 1, 1) := by decide +kernel
theorem dX9_countUses_14 : decode cX9_countUses 14 = .ok (.arraylength, 1) := by decide +kernel
theorem dX9_countUses_15 : decode cX9_countUses 15 = .ok (.istore_n 2, 1) := by decide +kernel
theorem dX9_countUses_16 : decode cX9_countUses 16 = .ok (.iconst 0, 1) := by decide +kernel
theorem dX9_countUses_17 : decode cX9_countUses 17 = .ok (.istore_n 3, 1) := by decide +kernel
theorem dX9_countUses_18 : decode cX9_countUses 18 = .ok (.iload_n 3, 1) := by decide +kernel
theorem dX9_countUses_19 : decode cX9_countUses 19 = .ok (.iload_n 2, 1) := by decide +kernel
theorem dX9_countUses_20 : decode cX9_countUses 20 = .ok (.if_icmp .ge 45, 3) := by decide +kernel
theorem dX9_countUses_23 : decode cX9_countUses 23 = .ok (.aload_n 1, 1) := by decide +kernel
theorem dX9_countUses_24 : decode cX9_countUses 24 = .ok (.iload_n 3, 1) := by decide +kernel
theorem dX9_countUses_25 : decode cX9_countUses 25 = .ok (.aaload, 1) := by decide +kernel
theorem dX9_countUses_26 : decode cX9_countUses 26 = .ok (.astore 4, 2) := by decide +kernel
theorem dX9_countUses_28 : decode cX9_countUses 28 = .ok (.iconst 0, 1) := by decide +kernel
theorem dX9_countUses_29 : decode cX9_countUses 29 = .ok (.istore 5, 2) := by decide +kernel
theorem dX9_countUses_31 : decode cX9_countUses 31 = .ok (.iload 5, 2) := by decide +kernel
theorem dX9_countUses_33 : decode cX9_countUses 33 = .ok (.aload 4, 2) := by decide +kernel
theorem dX9_countUses_35 : decode cX9_countUses 35 = .ok (.getfield 114, 3) := by decide +kernel
theorem dX9_countUses_38 : decode cX9_countUses 38 = .ok (.if_icmp .ge 21, 3) := by decide +kernel
theorem dX9_countUses_41 : decode cX9_countUses 41 = .ok (.aload_n 0, 1) := by decide +kernel
theorem dX9_countUses_42 : decode cX9_countUses 42 = .ok (.aload 4, 2) := by decide +kernel
theorem dX9_countUses_44 : decode cX9_countUses 44 = .ok (.getfield 162, 3) := by decide +kernel
theorem dX9_countUses_47 : decode cX9_countUses 47 = .ok (.iload 5, 2) := by decide +kernel
theorem dX9_countUses_49 : decode cX9_countUses 49 = .ok (.iaload, 1) := by decide +kernel
theorem dX9_countUses_50 : decode cX9_countUses 50 = .ok (.invokevirtual 165, 3) := by decide +kernel
theorem dX9_countUses_53 : decode cX9_countUses 53 = .ok (.iinc 5 1, 3) := by decide +kernel
theorem dX9_countUses_56 : decode cX9_countUses 56 = .ok (.goto (-25), 3) := by decide +kernel
theorem dX9_countUses_59 : decode cX9_countUses 59 = .ok (.iinc 3 1, 3) := by decide +kernel
theorem dX9_countUses_62 : decode cX9_countUses 62 = .ok (.goto (-44), 3) := by decide +kernel
theorem dX9_countUses_65 : decode cX9_countUses 65 = .ok (.return_, 1) := by decide +kernel
theorem dX9_markSegment_0 : decode cX9_markSegment 0 = .ok (.iload_n 1, 1) := by decide +kernel
theorem dX9_markSegment_1 : decode cX9_markSegment 1 = .ok (.istore_n 2, 1) := by decide +kernel
theorem dX9_markSegment_2 : decode cX9_markSegment 2 = .ok (.iload_n 2, 1) := by decide +kernel
theorem dX9_markSegment_3 : decode cX9_markSegment 3 = .ok (.iload_n 1, 1) := by decide +kernel
theorem dX9_markSegment_4 : decode cX9_markSegment 4 = .ok (.aload_n 0, 1) := by decide +kernel
theorem dX9_markSegment_5 : decode cX9_markSegment 5 = .ok (.getfield 26, 3) := by decide +kernel
theorem dX9_markSegment_8 : decode cX9_markSegment 8 = .ok (.iadd, 1) := by decide +kernel
theorem dX9_markSegment_9 : decode cX9_markSegment 9 = .ok (.if_icmp .ge 29, 3) := by decide +kernel
theorem dX9_markSegment_12 : decode cX9_markSegment 12 = .ok (.iload_n 2, 1) := by decide +kernel
theorem dX9_markSegment_13 : decode cX9_markSegment 13 = .ok (.aload_n 0, 1) := by decide +kernel
theorem dX9_markSegment_14 : decode cX9_markSegment 14 = .ok (.getfield 51, 3) := by decide +kernel
theorem dX9_markSegment_17 : decode cX9_markSegment 17 = .ok (.arraylength, 1) := by decide +kernel
theorem dX9_markSegment_18 : decode cX9_markSegment 18 = .ok (.if_icmp .ge 20, 3) := by decide +kernel
theorem dX9_markSegment_21 : decode cX9_markSegment 21 = .ok (.aload_n 0, 1) := by decide +kernel
theorem dX9_markSegment_22 : decode cX9_markSegment 22 = .ok (.getfield 51, 3) := by decide +kernel
theorem dX9_markSegment_25 : decode cX9_markSegment 25 = .ok (.iload_n 2, 1) := by decide +kernel
theorem dX9_markSegment_26 : decode cX9_markSegment 26 = .ok (.dup2, 1) := by decide +kernel
theorem dX9_markSegment_27 : decode cX9_markSegment 27 = .ok (.baload, 1) := by decide +kernel
theorem dX9_markSegment_28 : decode cX9_markSegment 28 = .ok (.iconst 1, 1) := by decide +kernel
theorem dX9_markSegment_29 : decode cX9_markSegment 29 = .ok (.iadd, 1) := by decide +kernel
theorem dX9_markSegment_30 : decode cX9_markSegment 30 = .ok (.i2b, 1) := by decide +kernel
theorem dX9_markSegment_31 : decode cX9_markSegment 31 = .ok (.bastore, 1) := by decide +kernel
theorem dX9_markSegment_32 : decode cX9_markSegment 32 = .ok (.iinc 2 1, 3) := by decide +kernel
theorem dX9_markSegment_35 : decode cX9_markSegment 35 = .ok (.goto (-33), 3) := by decide +kernel
theorem dX9_markSegment_38 : decode cX9_markSegment 38 = .ok (.return_, 1) := by decide +kernel
theorem dX9_takeSegment_0 : decode cX9_takeSegment 0 = .ok (.iconst 0, 1) := by decide +kernel
theorem dX9_takeSegment_1 : decode cX9_takeSegment 1 = .ok (.istore_n 1, 1) := by decide +kernel
theorem dX9_takeSegment_2 : decode cX9_takeSegment 2 = .ok (.aload_n 0, 1) := by decide +kernel
theorem dX9_takeSegment_3 : decode cX9_takeSegment 3 = .ok (.getfield 44, 3) := by decide +kernel
theorem dX9_takeSegment_6 : decode cX9_takeSegment 6 = .ok (.istore_n 2, 1) := by decide +kernel
theorem dX9_takeSegment_7 : decode cX9_takeSegment 7 = .ok (.iload_n 2, 1) := by decide +kernel
theorem dX9_takeSegment_8 : decode cX9_takeSegment 8 = .ok (.aload_n 0, 1) := by decide +kernel
theorem dX9_takeSegment_9 : decode cX9_takeSegment 9 = .ok (.getfield 51, 3) := by decide +kernel
theorem dX9_takeSegment_12 : decode cX9_takeSegment 12 = .ok (.arraylength, 1) := by decide +kernel
theorem dX9_takeSegment_13 : decode cX9_takeSegment 13 = .ok (.if_icmp .ge 50, 3) := by decide +kernel
theorem dX9_takeSegment_16 : decode cX9_takeSegment 16 = .ok (.aload_n 0, 1) := by decide +kernel
theorem dX9_takeSegment_17 : decode cX9_takeSegment 17 = .ok (.getfield 51, 3) := by decide +kernel
theorem dX9_takeSegment_20 : decode cX9_takeSegment 20 = .ok (.iload_n 2, 1) := by decide +kernel
theorem dX9_takeSegment_21 : decode cX9_takeSegment 21 = .ok (.baload, 1) := by decide +kernel
theorem dX9_takeSegment_22 : decode cX9_takeSegment 22 = .ok (.ifCond .ne 9, 3) := by decide +kernel
theorem dX9_takeSegment_25 : decode cX9_takeSegment 25 = .ok (.iload_n 1, 1) := by decide +kernel
theorem dX9_takeSegment_26 : decode cX9_takeSegment 26 = .ok (.iconst 1, 1) := by decide +kernel
theorem dX9_takeSegment_27 : decode cX9_takeSegment 27 = .ok (.iadd, 1) := by decide +kernel
theorem dX9_takeSegment_28 : decode cX9_takeSegment 28 = .ok (.goto 4, 3) := by decide +kernel
theorem dX9_takeSegment_31 : decode cX9_takeSegment 31 = .ok (.iconst 0, 1) := by decide +kernel
theorem dX9_takeSegment_32 : decode cX9_takeSegment 32 = .ok (.istore_n 1, 1) := by decide +kernel
theorem dX9_takeSegment_33 : decode cX9_takeSegment 33 = .ok (.iload_n 1, 1) := by decide +kernel
theorem dX9_takeSegment_34 : decode cX9_takeSegment 34 = .ok (.aload_n 0, 1) := by decide +kernel
theorem dX9_takeSegment_35 : decode cX9_takeSegment 35 = .ok (.getfield 26, 3) := by decide +kernel
theorem dX9_takeSegment_38 : decode cX9_takeSegment 38 = .ok (.if_icmp .ne 19, 3) := by decide +kernel
theorem dX9_takeSegment_41 : decode cX9_takeSegment 41 = .ok (.iload_n 2, 1) := by decide +kernel
theorem dX9_takeSegment_42 : decode cX9_takeSegment 42 = .ok (.aload_n 0, 1) := by decide +kernel
theorem dX9_takeSegment_43 : decode cX9_takeSegment 43 = .ok (.getfield 26, 3) := by decide +kernel
theorem dX9_takeSegment_46 : decode cX9_takeSegment 46 = .ok (.isub, 1) := by decide +kernel
theorem dX9_takeSegment_47 : decode cX9_takeSegment 47 = .ok (.iconst 1, 1) := by decide +kernel
theorem dX9_takeSegment_48 : decode cX9_takeSegment 48 = .ok (.iadd, 1) := by decide +kernel
theorem dX9_takeSegment_49 : decode cX9_takeSegment 49 = .ok (.istore_n 3, 1) := by decide +kernel
theorem dX9_takeSegment_50 : decode cX9_takeSegment 50 = .ok (.aload_n 0, 1) := by decide +kernel
theorem dX9_takeSegment_51 : decode cX9_takeSegment 51 = .ok (.iload_n 3, 1) := by decide +kernel
theorem dX9_takeSegment_52 : decode cX9_takeSegment 52 = .ok (.invokevirtual 165, 3) := by decide +kernel
theorem dX9_takeSegment_55 : decode cX9_takeSegment 55 = .ok (.iload_n 3, 1) := by decide +kernel
theorem dX9_takeSegment_56 : decode cX9_takeSegment 56 = .ok (.ireturn, 1) := by decide +kernel
theorem dX9_takeSegment_57 : decode cX9_takeSegment 57 = .ok (.iinc 2 1, 3) := by decide +kernel
theorem dX9_takeSegment_60 : decode cX9_takeSegment 60 = .ok (.goto (-53), 3) := by decide +kernel
theorem dX9_takeSegment_63 : decode cX9_takeSegment 63 = .ok (.iconst (-1), 1) := by decide +kernel
theorem dX9_takeSegment_64 : decode cX9_takeSegment 64 = .ok (.ireturn, 1) := by decide +kernel
theorem dX9_writeHead_0 : decode cX9_writeHead 0 = .ok (.aload_n 0, 1) := by decide +kernel
theorem dX9_writeHead_1 : decode cX9_writeHead 1 = .ok (.aload_n 1, 1) := by decide +kernel
theorem dX9_writeHead_2 : decode cX9_writeHead 2 = .ok (.invokevirtual 168, 3) := by decide +kernel
theorem dX9_writeHead_5 : decode cX9_writeHead 5 = .ok (.aload_n 0, 1) := by decide +kernel
theorem dX9_writeHead_6 : decode cX9_writeHead 6 = .ok (.getfield 22, 3) := by decide +kernel
theorem dX9_writeHead_9 : decode cX9_writeHead 9 = .ok (.aload_n 1, 1) := by decide +kernel
theorem dX9_writeHead_10 : decode cX9_writeHead 10 = .ok (.getfield 172, 3) := by decide +kernel
theorem dX9_writeHead_13 : decode cX9_writeHead 13 = .ok (.sipush 1024, 3) := by decide +kernel
theorem dX9_writeHead_16 : decode cX9_writeHead 16 = .ok (.imul, 1) := by decide +kernel
theorem dX9_writeHead_17 : decode cX9_writeHead 17 = .ok (.aload_n 0, 1) := by decide +kernel
theorem dX9_writeHead_18 : decode cX9_writeHead 18 = .ok (.getfield 9, 3) := by decide +kernel
theorem dX9_writeHead_21 : decode cX9_writeHead 21 = .ok (.iconst 0, 1) := by decide +kernel
theorem dX9_writeHead_22 : decode cX9_writeHead 22 = .ok (.aload_n 0, 1) := by decide +kernel
theorem dX9_writeHead_23 : decode cX9_writeHead 23 = .ok (.getfield 9, 3) := by decide +kernel
theorem dX9_writeHead_26 : decode cX9_writeHead 26 = .ok (.arraylength, 1) := by decide +kernel
theorem dX9_writeHead_27 : decode cX9_writeHead 27 = .ok (.invokevirtual 143, 3) := by decide +kernel
theorem dX9_writeHead_30 : decode cX9_writeHead 30 = .ok (.ireturn, 1) := by decide +kernel
theorem dX9_fillHeadRow_0 : decode cX9_fillHeadRow 0 = .ok (.aload_n 0, 1) := by decide +kernel
theorem dX9_fillHeadRow_1 : decode cX9_fillHeadRow 1 = .ok (.getfield 9, 3) := by decide +kernel
theorem dX9_fillHeadRow_4 : decode cX9_fillHeadRow 4 = .ok (.iconst 0, 1) := by decide +kernel
theorem dX9_fillHeadRow_5 : decode cX9_fillHeadRow 5 = .ok (.invokestatic 156, 3) := by decide +kernel
theorem dX9_fillHeadRow_8 : decode cX9_fillHeadRow 8 = .ok (.aload_n 0, 1) := by decide +kernel
theorem dX9_fillHeadRow_9 : decode cX9_fillHeadRow 9 = .ok (.getfield 9, 3) := by decide +kernel
theorem dX9_fillHeadRow_12 : decode cX9_fillHeadRow 12 = .ok (.iconst 0, 1) := by decide +kernel
theorem dX9_fillHeadRow_13 : decode cX9_fillHeadRow 13 = .ok (.bipush 8, 2) := by decide +kernel
theorem dX9_fillHeadRow_15 : decode cX9_fillHeadRow 15 = .ok (.aload_n 1, 1) := by decide +kernel
theorem dX9_fillHeadRow_16 : decode cX9_fillHeadRow 16 = .ok (.getfield 175, 3) := by decide +kernel
theorem dX9_fillHeadRow_19 : decode cX9_fillHeadRow 19 = .ok (.invokestatic 130, 3) := by decide +kernel
theorem dX9_fillHeadRow_22 : decode cX9_fillHeadRow 22 = .ok (.aload_n 0, 1) := by decide +kernel
theorem dX9_fillHeadRow_23 : decode cX9_fillHeadRow 23 = .ok (.getfield 9, 3) := by decide +kernel
theorem dX9_fillHeadRow_26 : decode cX9_fillHeadRow 26 = .ok (.bipush 8, 2) := by decide +kernel
theorem dX9_fillHeadRow_28 : decode cX9_fillHeadRow 28 = .ok (.bipush 8, 2) := by decide +kernel
theorem dX9_fillHeadRow_30 : decode cX9_fillHeadRow 30 = .ok (.aload_n 1, 1) := by decide +kernel
theorem dX9_fillHeadRow_31 : decode cX9_fillHeadRow 31 = .ok (.getfield 126, 3) := by decide +kernel
theorem dX9_fillHeadRow_34 : decode cX9_fillHeadRow 34 = .ok (.invokestatic 130, 3) := by decide +kernel
theorem dX9_fillHeadRow_37 : decode cX9_fillHeadRow 37 = .ok (.aload_n 0, 1) := by decide +kernel
theorem dX9_fillHeadRow_38 : decode cX9_fillHeadRow 38 = .ok (.getfield 9, 3) := by decide +kernel
theorem dX9_fillHeadRow_41 : decode cX9_fillHeadRow 41 = .ok (.bipush 16, 2) := by decide +kernel
theorem dX9_fillHeadRow_43 : decode cX9_fillHeadRow 43 = .ok (.iconst 4, 1) := by decide +kernel
theorem dX9_fillHeadRow_44 : decode cX9_fillHeadRow 44 = .ok (.aload_n 1, 1) := by decide +kernel
theorem dX9_fillHeadRow_45 : decode cX9_fillHeadRow 45 = .ok (.getfield 114, 3) := by decide +kernel
theorem dX9_fillHeadRow_48 : decode cX9_fillHeadRow 48 = .ok (.i2l, 1) := by decide +kernel
theorem dX9_fillHeadRow_49 : decode cX9_fillHeadRow 49 = .ok (.invokestatic 130, 3) := by decide +kernel
theorem dX9_fillHeadRow_52 : decode cX9_fillHeadRow 52 = .ok (.iconst 0, 1) := by decide +kernel
theorem dX9_fillHeadRow_53 : decode cX9_fillHeadRow 53 = .ok (.istore_n 2, 1) := by decide +kernel
theorem dX9_fillHeadRow_54 : decode cX9_fillHeadRow 54 = .ok (.iload_n 2, 1) := by decide +kernel
theorem dX9_fillHeadRow_55 : decode cX9_fillHeadRow 55 = .ok (.aload_n 1, 1) := by decide +kernel
theorem dX9_fillHeadRow_56 : decode cX9_fillHeadRow 56 = .ok (.getfield 114, 3) := by decide +kernel
theorem dX9_fillHeadRow_59 : decode cX9_fillHeadRow 59 = .ok (.if_icmp .ge 53, 3) := by decide +kernel
theorem dX9_fillHeadRow_62 : decode cX9_fillHeadRow 62 = .ok (.aload_n 0, 1) := by decide +kernel
theorem dX9_fillHeadRow_63 : decode cX9_fillHeadRow 63 = .ok (.getfield 9, 3) := by decide +kernel
theorem dX9_fillHeadRow_66 : decode cX9_fillHeadRow 66 = .ok (.bipush 20, 2) := by decide +kernel
theorem dX9_fillHeadRow_68 : decode cX9_fillHeadRow 68 = .ok (.bipush 8, 2) := by decide +kernel
theorem dX9_fillHeadRow_70 : decode cX9_fillHeadRow 70 = .ok (.iload_n 2, 1) := by decide +kernel
theorem dX9_fillHeadRow_71 : decode cX9_fillHeadRow 71 = .ok (.imul, 1) := by decide +kernel
theorem dX9_fillHeadRow_72 : decode cX9_fillHeadRow 72 = .ok (.iadd, 1) := by decide +kernel
theorem dX9_fillHeadRow_73 : decode cX9_fillHeadRow 73 = .ok (.iconst 4, 1) := by decide +kernel
theorem dX9_fillHeadRow_74 : decode cX9_fillHeadRow 74 = .ok (.aload_n 1, 1) := by decide +kernel
theorem dX9_fillHeadRow_75 : decode cX9_fillHeadRow 75 = .ok (.getfield 162, 3) := by decide +kernel
theorem dX9_fillHeadRow_78 : decode cX9_fillHeadRow 78 = .ok (.iload_n 2, 1) := by decide +kernel
theorem dX9_fillHeadRow_79 : decode cX9_fillHeadRow 79 = .ok (.iaload, 1) := by decide +kernel
theorem dX9_fillHeadRow_80 : decode cX9_fillHeadRow 80 = .ok (.i2l, 1) := by decide +kernel
theorem dX9_fillHeadRow_81 : decode cX9_fillHeadRow 81 = .ok (.invokestatic 130, 3) := by decide +kernel
theorem dX9_fillHeadRow_84 : decode cX9_fillHeadRow 84 = .ok (.aload_n 0, 1) := by decide +kernel
theorem dX9_fillHeadRow_85 : decode cX9_fillHeadRow 85 = .ok (.getfield 9, 3) := by decide +kernel
theorem dX9_fillHeadRow_88 : decode cX9_fillHeadRow 88 = .ok (.bipush 24, 2) := by decide +kernel
theorem dX9_fillHeadRow_90 : decode cX9_fillHeadRow 90 = .ok (.bipush 8, 2) := by decide +kernel
theorem dX9_fillHeadRow_92 : decode cX9_fillHeadRow 92 = .ok (.iload_n 2, 1) := by decide +kernel
theorem dX9_fillHeadRow_93 : decode cX9_fillHeadRow 93 = .ok (.imul, 1) := by decide +kernel
theorem dX9_fillHeadRow_94 : decode cX9_fillHeadRow 94 = .ok (.iadd, 1) := by decide +kernel
theorem dX9_fillHeadRow_95 : decode cX9_fillHeadRow 95 = .ok (.iconst 4, 1) := by decide +kernel
theorem dX9_fillHeadRow_96 : decode cX9_fillHeadRow 96 = .ok (.aload_n 1, 1) := by decide +kernel
theorem dX9_fillHeadRow_97 : decode cX9_fillHeadRow 97 = .ok (.getfield 153, 3) := by decide +kernel
theorem dX9_fillHeadRow_100 : decode cX9_fillHeadRow 100 = .ok (.iload_n 2, 1) := by decide +kernel
theorem dX9_fillHeadRow_101 : decode cX9_fillHeadRow 101 = .ok (.iaload, 1) := by decide +kernel
theorem dX9_fillHeadRow_102 : decode cX9_fillHeadRow 102 = .ok (.i2l, 1) := by decide +kernel
theorem dX9_fillHeadRow_103 : decode cX9_fillHeadRow 103 = .ok (.invokestatic 130, 3) := by decide +kernel
theorem dX9_fillHeadRow_106 : decode cX9_fillHeadRow 106 = .ok (.iinc 2 1, 3) := by decide +kernel
theorem dX9_fillHeadRow_109 : decode cX9_fillHeadRow 109 = .ok (.goto (-55), 3) := by decide +kernel
theorem dX9_fillHeadRow_112 : decode cX9_fillHeadRow 112 = .ok (.return_, 1) := by decide +kernel
theorem dX9_load_0 : decode cX9_load 0 = .ok (.iconst 0, 1) := by decide +kernel
theorem dX9_load_1 : decode cX9_load 1 = .ok (.istore_n 1, 1) := by decide +kernel
theorem dX9_load_2 : decode cX9_load 2 = .ok (.aload_n 0, 1) := by decide +kernel
theorem dX9_load_3 : decode cX9_load 3 = .ok (.getfield 32, 3) := by decide +kernel
theorem dX9_load_6 : decode cX9_load 6 = .ok (.astore_n 2, 1) := by decide +kernel
theorem dX9_load_7 : decode cX9_load 7 = .ok (.aload_n 2, 1) := by decide +kernel
theorem dX9_load_8 : decode cX9_load 8 = .ok (.arraylength, 1) := by decide +kernel
theorem dX9_load_9 : decode cX9_load 9 = .ok (.istore_n 3, 1) := by decide +kernel
theorem dX9_load_10 : decode cX9_load 10 = .ok (.iconst 0, 1) := by decide +kernel
theorem dX9_load_11 : decode cX9_load 11 = .ok (.istore 4, 2) := by decide +kernel
theorem dX9_load_13 : decode cX9_load 13 = .ok (.iload 4, 2) := by decide +kernel
theorem dX9_load_15 : decode cX9_load 15 = .ok (.iload_n 3, 1) := by decide +kernel
theorem dX9_load_16 : decode cX9_load 16 = .ok (.if_icmp .ge 29, 3) := by decide +kernel
theorem dX9_load_19 : decode cX9_load 19 = .ok (.aload_n 2, 1) := by decide +kernel
theorem dX9_load_20 : decode cX9_load 20 = .ok (.iload 4, 2) := by decide +kernel
theorem dX9_load_22 : decode cX9_load 22 = .ok (.aaload, 1) := by decide +kernel
theorem dX9_load_23 : decode cX9_load 23 = .ok (.astore 5, 2) := by decide +kernel
theorem dX9_load_25 : decode cX9_load 25 = .ok (.aload_n 0, 1) := by decide +kernel
theorem dX9_load_26 : decode cX9_load 26 = .ok (.aload 5, 2) := by decide +kernel
theorem dX9_load_28 : decode cX9_load 28 = .ok (.invokevirtual 178, 3) := by decide +kernel
theorem dX9_load_31 : decode cX9_load 31 = .ok (.iload_n 1, 1) := by decide +kernel
theorem dX9_load_32 : decode cX9_load 32 = .ok (.aload 5, 2) := by decide +kernel
theorem dX9_load_34 : decode cX9_load 34 = .ok (.getfield 100, 3) := by decide +kernel
theorem dX9_load_37 : decode cX9_load 37 = .ok (.iadd, 1) := by decide +kernel
theorem dX9_load_38 : decode cX9_load 38 = .ok (.istore_n 1, 1) := by decide +kernel
theorem dX9_load_39 : decode cX9_load 39 = .ok (.iinc 4 1, 3) := by decide +kernel
theorem dX9_load_42 : decode cX9_load 42 = .ok (.goto (-29), 3) := by decide +kernel
theorem dX9_load_45 : decode cX9_load 45 = .ok (.iload_n 1, 1) := by decide +kernel
theorem dX9_load_46 : decode cX9_load 46 = .ok (.ireturn, 1) := by decide +kernel
theorem dX9_loadTable_0 : decode cX9_loadTable 0 = .ok (.aload_n 1, 1) := by decide +kernel
theorem dX9_loadTable_1 : decode cX9_loadTable 1 = .ok (.getfield 172, 3) := by decide +kernel
theorem dX9_loadTable_4 : decode cX9_loadTable 4 = .ok (.sipush 1024, 3) := by decide +kernel
theorem dX9_loadTable_7 : decode cX9_loadTable 7 = .ok (.imul, 1) := by decide +kernel
theorem dX9_loadTable_8 : decode cX9_loadTable 8 = .ok (.istore_n 2, 1) := by decide +kernel
theorem dX9_loadTable_9 : decode cX9_loadTable 9 = .ok (.aload_n 1, 1) := by decide +kernel
theorem dX9_loadTable_10 : decode cX9_loadTable 10 = .ok (.invokevirtual 181, 3) := by decide +kernel
theorem dX9_loadTable_13 : decode cX9_loadTable 13 = .ok (.aload_n 1, 1) := by decide +kernel
theorem dX9_loadTable_14 : decode cX9_loadTable 14 = .ok (.aload_n 0, 1) := by decide +kernel
theorem dX9_loadTable_15 : decode cX9_loadTable 15 = .ok (.getfield 22, 3) := by decide +kernel
theorem dX9_loadTable_18 : decode cX9_loadTable 18 = .ok (.getfield 36, 3) := by decide +kernel
theorem dX9_loadTable_21 : decode cX9_loadTable 21 = .ok (.iload_n 2, 1) := by decide +kernel
theorem dX9_loadTable_22 : decode cX9_loadTable 22 = .ok (.bipush 8, 2) := by decide +kernel
theorem dX9_loadTable_24 : decode cX9_loadTable 24 = .ok (.invokestatic 184, 3) := by decide +kernel
theorem dX9_loadTable_27 : decode cX9_loadTable 27 = .ok (.putfield 175, 3) := by decide +kernel
theorem dX9_loadTable_30 : decode cX9_loadTable 30 = .ok (.aload_n 1, 1) := by decide +kernel
theorem dX9_loadTable_31 : decode cX9_loadTable 31 = .ok (.aload_n 0, 1) := by decide +kernel
theorem dX9_loadTable_32 : decode cX9_loadTable 32 = .ok (.getfield 22, 3) := by decide +kernel
theorem dX9_loadTable_35 : decode cX9_loadTable 35 = .ok (.getfield 36, 3) := by decide +kernel
theorem dX9_loadTable_38 : decode cX9_loadTable 38 = .ok (.iload_n 2, 1) := by decide +kernel
theorem dX9_loadTable_39 : decode cX9_loadTable 39 = .ok (.bipush 8, 2) := by decide +kernel
theorem dX9_loadTable_41 : decode cX9_loadTable 41 = .ok (.iadd, 1) := by decide +kernel
theorem dX9_loadTable_42 : decode cX9_loadTable 42 = .ok (.bipush 8, 2) := by decide +kernel
theorem dX9_loadTable_44 : decode cX9_loadTable 44 = .ok (.invokestatic 184, 3) := by decide +kernel
theorem dX9_loadTable_47 : decode cX9_loadTable 47 = .ok (.putfield 126, 3) := by decide +kernel
theorem dX9_loadTable_50 : decode cX9_loadTable 50 = .ok (.aload_n 0, 1) := by decide +kernel
theorem dX9_loadTable_51 : decode cX9_loadTable 51 = .ok (.getfield 22, 3) := by decide +kernel
theorem dX9_loadTable_54 : decode cX9_loadTable 54 = .ok (.getfield 36, 3) := by decide +kernel
theorem dX9_loadTable_57 : decode cX9_loadTable 57 = .ok (.iload_n 2, 1) := by decide +kernel
theorem dX9_loadTable_58 : decode cX9_loadTable 58 = .ok (.bipush 16, 2) := by decide +kernel
theorem dX9_loadTable_60 : decode cX9_loadTable 60 = .ok (.iadd, 1) := by decide +kernel
theorem dX9_loadTable_61 : decode cX9_loadTable 61 = .ok (.iconst 4, 1) := by decide +kernel
theorem dX9_loadTable_62 : decode cX9_loadTable 62 = .ok (.invokestatic 184, 3) := by decide +kernel
theorem dX9_loadTable_65 : decode cX9_loadTable 65 = .ok (.l2i, 1) := by decide +kernel
theorem dX9_loadTable_66 : decode cX9_loadTable 66 = .ok (.bipush 60, 2) := by decide +kernel
theorem dX9_loadTable_68 : decode cX9_loadTable 68 = .ok (.invokestatic 188, 3) := by decide +kernel
theorem dX9_loadTable_71 : decode cX9_loadTable 71 = .ok (.istore_n 3, 1) := by decide +kernel
theorem dX9_loadTable_72 : decode cX9_loadTable 72 = .ok (.iconst 0, 1) := by decide +kernel
theorem dX9_loadTable_73 : decode cX9_loadTable 73 = .ok (.istore 4, 2) := by decide +kernel
theorem dX9_loadTable_75 : decode cX9_loadTable 75 = .ok (.iload 4, 2) := by decide +kernel
theorem dX9_loadTable_77 : decode cX9_loadTable 77 = .ok (.iload_n 3, 1) := by decide +kernel
theorem dX9_loadTable_78 : decode cX9_loadTable 78 = .ok (.if_icmp .ge 62, 3) := by decide +kernel
theorem dX9_loadTable_81 : decode cX9_loadTable 81 = .ok (.aload_n 1, 1) := by decide +kernel
theorem dX9_loadTable_82 : decode cX9_loadTable 82 = .ok (.aload_n 0, 1) := by decide +kernel
theorem dX9_loadTable_83 : decode cX9_loadTable 83 = .ok (.getfield 22, 3) := by decide +kernel
theorem dX9_loadTable_86 : decode cX9_loadTable 86 = .ok (.getfield 36, 3) := by decide +kernel
theorem dX9_loadTable_89 : decode cX9_loadTable 89 = .ok (.iload_n 2, 1) := by decide +kernel
theorem dX9_loadTable_90 : decode cX9_loadTable 90 = .ok (.bipush 20, 2) := by decide +kernel
theorem dX9_loadTable_92 : decode cX9_loadTable 92 = .ok (.iadd, 1) := by decide +kernel
theorem dX9_loadTable_93 : decode cX9_loadTable 93 = .ok (.bipush 8, 2) := by decide +kernel
theorem dX9_loadTable_95 : decode cX9_loadTable 95 = .ok (.iload 4, 2) := by decide +kernel
theorem dX9_loadTable_97 : decode cX9_loadTable 97 = .ok (.imul, 1) := by decide +kernel
theorem dX9_loadTable_98 : decode cX9_loadTable 98 = .ok (.iadd, 1) := by decide +kernel
theorem dX9_loadTable_99 : decode cX9_loadTable 99 = .ok (.iconst 4, 1) := by decide +kernel
theorem dX9_loadTable_100 : decode cX9_loadTable 100 = .ok (.invokestatic 184, 3) := by decide +kernel
theorem dX9_loadTable_103 : decode cX9_loadTable 103 = .ok (.l2i, 1) := by decide +kernel
theorem dX9_loadTable_104 : decode cX9_loadTable 104 = .ok (.invokevirtual 122, 3) := by decide +kernel
theorem dX9_loadTable_107 : decode cX9_loadTable 107 = .ok (.aload_n 0, 1) := by decide +kernel
theorem dX9_loadTable_108 : decode cX9_loadTable 108 = .ok (.aload_n 1, 1) := by decide +kernel
theorem dX9_loadTable_109 : decode cX9_loadTable 109 = .ok (.aload_n 0, 1) := by decide +kernel
theorem dX9_loadTable_110 : decode cX9_loadTable 110 = .ok (.getfield 22, 3) := by decide +kernel
theorem dX9_loadTable_113 : decode cX9_loadTable 113 = .ok (.getfield 36, 3) := by decide +kernel
theorem dX9_loadTable_116 : decode cX9_loadTable 116 = .ok (.iload_n 2, 1) := by decide +kernel
theorem dX9_loadTable_117 : decode cX9_loadTable 117 = .ok (.bipush 24, 2) := by decide +kernel
theorem dX9_loadTable_119 : decode cX9_loadTable 119 = .ok (.iadd, 1) := by decide +kernel
theorem dX9_loadTable_120 : decode cX9_loadTable 120 = .ok (.bipush 8, 2) := by decide +kernel
theorem dX9_loadTable_122 : decode cX9_loadTable 122 = .ok (.iload 4, 2) := by decide +kernel
theorem dX9_loadTable_124 : decode cX9_loadTable 124 = .ok (.imul, 1) := by decide +kernel
theorem dX9_loadTable_125 : decode cX9_loadTable 125 = .ok (.iadd, 1) := by decide +kernel
theorem dX9_loadTable_126 : decode cX9_loadTable 126 = .ok (.iconst 4, 1) := by decide +kernel
theorem dX9_loadTable_127 : decode cX9_loadTable 127 = .ok (.invokestatic 184, 3) := by decide +kernel
theorem dX9_loadTable_130 : decode cX9_loadTable 130 = .ok (.l2i, 1) := by decide +kernel
theorem dX9_loadTable_131 : decode cX9_loadTable 131 = .ok (.invokevirtual 194, 3) := by decide +kernel
theorem dX9_loadTable_134 : decode cX9_loadTable 134 = .ok (.iinc 4 1, 3) := by decide +kernel
theorem dX9_loadTable_137 : decode cX9_loadTable 137 = .ok (.goto (-62), 3) := by decide +kernel
theorem dX9_loadTable_140 : decode cX9_loadTable 140 = .ok (.return_, 1) := by decide +kernel
theorem dX9_loadSegment_0 : decode cX9_loadSegment 0 = .ok (.aload_n 1, 1) := by decide +kernel
theorem dX9_loadSegment_1 : decode cX9_loadSegment 1 = .ok (.getfield 162, 3) := by decide +kernel
theorem dX9_loadSegment_4 : decode cX9_loadSegment 4 = .ok (.aload_n 1, 1) := by decide +kernel
theorem dX9_loadSegment_5 : decode cX9_loadSegment 5 = .ok (.getfield 114, 3) := by decide +kernel
theorem dX9_loadSegment_8 : decode cX9_loadSegment 8 = .ok (.iconst 1, 1) := by decide +kernel
theorem dX9_loadSegment_9 : decode cX9_loadSegment 9 = .ok (.isub, 1) := by decide +kernel
theorem dX9_loadSegment_10 : decode cX9_loadSegment 10 = .ok (.iaload, 1) := by decide +kernel
theorem dX9_loadSegment_11 : decode cX9_loadSegment 11 = .ok (.sipush 1024, 3) := by decide +kernel
theorem dX9_loadSegment_14 : decode cX9_loadSegment 14 = .ok (.imul, 1) := by decide +kernel
theorem dX9_loadSegment_15 : decode cX9_loadSegment 15 = .ok (.istore_n 3, 1) := by decide +kernel
theorem dX9_loadSegment_16 : decode cX9_loadSegment 16 = .ok (.iconst 0, 1) := by decide +kernel
theorem dX9_loadSegment_17 : decode cX9_loadSegment 17 = .ok (.istore 4, 2) := by decide +kernel
theorem dX9_loadSegment_19 : decode cX9_loadSegment 19 = .ok (.iload 4, 2) := by decide +kernel
theorem dX9_loadSegment_21 : decode cX9_loadSegment 21 = .ok (.iload_n 2, 1) := by decide +kernel
theorem dX9_loadSegment_22 : decode cX9_loadSegment 22 = .ok (.if_icmp .ge 53, 3) := by decide +kernel
theorem dX9_loadSegment_25 : decode cX9_loadSegment 25 = .ok (.aload_n 1, 1) := by decide +kernel
theorem dX9_loadSegment_26 : decode cX9_loadSegment 26 = .ok (.getfield 100, 3) := by decide +kernel
theorem dX9_loadSegment_29 : decode cX9_loadSegment 29 = .ok (.aload_n 1, 1) := by decide +kernel
theorem dX9_loadSegment_30 : decode cX9_loadSegment 30 = .ok (.getfield 103, 3) := by decide +kernel
theorem dX9_loadSegment_33 : decode cX9_loadSegment 33 = .ok (.arraylength, 1) := by decide +kernel
theorem dX9_loadSegment_34 : decode cX9_loadSegment 34 = .ok (.if_icmp .ge 41, 3) := by decide +kernel
theorem dX9_loadSegment_37 : decode cX9_loadSegment 37 = .ok (.bipush 61, 2) := by decide +kernel
theorem dX9_loadSegment_39 : decode cX9_loadSegment 39 = .ok (.aload_n 0, 1) := by decide +kernel
theorem dX9_loadSegment_40 : decode cX9_loadSegment 40 = .ok (.getfield 22, 3) := by decide +kernel
theorem dX9_loadSegment_43 : decode cX9_loadSegment 43 = .ok (.getfield 36, 3) := by decide +kernel
theorem dX9_loadSegment_46 : decode cX9_loadSegment 46 = .ok (.iload_n 3, 1) := by decide +kernel
theorem dX9_loadSegment_47 : decode cX9_loadSegment 47 = .ok (.iload 4, 2) := by decide +kernel
theorem dX9_loadSegment_49 : decode cX9_loadSegment 49 = .ok (.iadd, 1) := by decide +kernel
theorem dX9_loadSegment_50 : decode cX9_loadSegment 50 = .ok (.invokestatic 198, 3) := by decide +kernel
theorem dX9_loadSegment_53 : decode cX9_loadSegment 53 = .ok (.invokestatic 201, 3) := by decide +kernel
theorem dX9_loadSegment_56 : decode cX9_loadSegment 56 = .ok (.istore 5, 2) := by decide +kernel
theorem dX9_loadSegment_58 : decode cX9_loadSegment 58 = .ok (.aload_n 1, 1) := by decide +kernel
theorem dX9_loadSegment_59 : decode cX9_loadSegment 59 = .ok (.iload 5, 2) := by decide +kernel
theorem dX9_loadSegment_61 : decode cX9_loadSegment 61 = .ok (.invokevirtual 139, 3) := by decide +kernel
theorem dX9_loadSegment_64 : decode cX9_loadSegment 64 = .ok (.pop, 1) := by decide +kernel
theorem dX9_loadSegment_65 : decode cX9_loadSegment 65 = .ok (.iload 4, 2) := by decide +kernel
theorem dX9_loadSegment_67 : decode cX9_loadSegment 67 = .ok (.iload 5, 2) := by decide +kernel
theorem dX9_loadSegment_69 : decode cX9_loadSegment 69 = .ok (.iadd, 1) := by decide +kernel
theorem dX9_loadSegment_70 : decode cX9_loadSegment 70 = .ok (.istore 4, 2) := by decide +kernel
theorem dX9_loadSegment_72 : decode cX9_loadSegment 72 = .ok (.goto (-53), 3) := by decide +kernel
theorem dX9_loadSegment_75 : decode cX9_loadSegment 75 = .ok (.return_, 1) := by decide +kernel
theorem dX9_countRecords_0 : decode cX9_countRecords 0 = .ok (.lconst 0, 1) := by decide +kernel
theorem dX9_countRecords_1 : decode cX9_countRecords 1 = .ok (.lstore_n 2, 1) := by decide +kernel
theorem dX9_countRecords_2 : decode cX9_countRecords 2 = .ok (.iconst 0, 1) := by decide +kernel
theorem dX9_countRecords_3 : decode cX9_countRecords 3 = .ok (.istore 4, 2) := by decide +kernel
theorem dX9_countRecords_5 : decode cX9_countRecords 5 = .ok (.iload 4, 2) := by decide +kernel
theorem dX9_countRecords_7 : decode cX9_countRecords 7 = .ok (.aload_n 1, 1) := by decide +kernel
theorem dX9_countRecords_8 : decode cX9_countRecords 8 = .ok (.getfield 100, 3) := by decide +kernel
theorem dX9_countRecords_11 : decode cX9_countRecords 11 = .ok (.if_icmp .ge 30, 3) := by decide +kernel
theorem dX9_countRecords_14 : decode cX9_countRecords 14 = .ok (.lload_n 2, 1) := by decide +kernel
theorem dX9_countRecords_15 : decode cX9_countRecords 15 = .ok (.aload_n 0, 1) := by decide +kernel
theorem dX9_countRecords_16 : decode cX9_countRecords 16 = .ok (.getfield 22, 3) := by decide +kernel
theorem dX9_countRecords_19 : decode cX9_countRecords 19 = .ok (.getfield 36, 3) := by decide +kernel
theorem dX9_countRecords_22 : decode cX9_countRecords 22 = .ok (.aload_n 1, 1) := by decide +kernel
theorem dX9_countRecords_23 : decode cX9_countRecords 23 = .ok (.getfield 103, 3) := by decide +kernel
theorem dX9_countRecords_26 : decode cX9_countRecords 26 = .ok (.iload 4, 2) := by decide +kernel
theorem dX9_countRecords_28 : decode cX9_countRecords 28 = .ok (.iaload, 1) := by decide +kernel
theorem dX9_countRecords_29 : decode cX9_countRecords 29 = .ok (.invokestatic 136, 3) := by decide +kernel
theorem dX9_countRecords_32 : decode cX9_countRecords 32 = .ok (.i2l, 1) := by decide +kernel
theorem dX9_countRecords_33 : decode cX9_countRecords 33 = .ok (.ladd, 1) := by decide +kernel
theorem dX9_countRecords_34 : decode cX9_countRecords 34 = .ok (.lstore_n 2, 1) := by decide +kernel
theorem dX9_countRecords_35 : decode cX9_countRecords 35 = .ok (.iinc 4 1, 3) := by decide +kernel
theorem dX9_countRecords_38 : decode cX9_countRecords 38 = .ok (.goto (-33), 3) := by decide +kernel
theorem dX9_countRecords_41 : decode cX9_countRecords 41 = .ok (.lload_n 2, 1) := by decide +kernel
theorem dX9_countRecords_42 : decode cX9_countRecords 42 = .ok (.lreturn, 1) := by decide +kernel
theorem dX9_firstReaching_0 : decode cX9_firstReaching 0 = .ok (.iconst 0, 1) := by decide +kernel
theorem dX9_firstReaching_1 : decode cX9_firstReaching 1 = .ok (.istore 4, 2) := by decide +kernel
theorem dX9_firstReaching_3 : decode cX9_firstReaching 3 = .ok (.iload 4, 2) := by decide +kernel
theorem dX9_firstReaching_5 : decode cX9_firstReaching 5 = .ok (.aload_n 1, 1) := by decide +kernel
theorem dX9_firstReaching_6 : decode cX9_firstReaching 6 = .ok (.getfield 100, 3) := by decide +kernel
theorem dX9_firstReaching_9 : decode cX9_firstReaching 9 = .ok (.if_icmp .ge 25, 3) := by decide +kernel
theorem dX9_firstReaching_12 : decode cX9_firstReaching 12 = .ok (.aload_n 0, 1) := by decide +kernel
theorem dX9_firstReaching_13 : decode cX9_firstReaching 13 = .ok (.aload_n 1, 1) := by decide +kernel
theorem dX9_firstReaching_14 : decode cX9_firstReaching 14 = .ok (.getfield 103, 3) := by decide +kernel
theorem dX9_firstReaching_17 : decode cX9_firstReaching 17 = .ok (.iload 4, 2) := by decide +kernel
theorem dX9_firstReaching_19 : decode cX9_firstReaching 19 = .ok (.iaload, 1) := by decide +kernel
theorem dX9_firstReaching_20 : decode cX9_firstReaching 20 = .ok (.invokevirtual 204, 3) := by decide +kernel
theorem dX9_firstReaching_23 : decode cX9_firstReaching 23 = .ok (.lload_n 2, 1) := by decide +kernel
theorem dX9_firstReaching_24 : decode cX9_firstReaching 24 = .ok (.lcmp, 1) := by decide +kernel
theorem dX9_firstReaching_25 : decode cX9_firstReaching 25 = .ok (.ifCond .ge 9, 3) := by decide +kernel
theorem dX9_firstReaching_28 : decode cX9_firstReaching 28 = .ok (.iinc 4 1, 3) := by decide +kernel
theorem dX9_firstReaching_31 : decode cX9_firstReaching 31 = .ok (.goto (-28), 3) := by decide +kernel
theorem dX9_firstReaching_34 : decode cX9_firstReaching 34 = .ok (.iload 4, 2) := by decide +kernel
theorem dX9_firstReaching_36 : decode cX9_firstReaching 36 = .ok (.ireturn, 1) := by decide +kernel
theorem dX9_greatestOffset_0 : decode cX9_greatestOffset 0 = .ok (.aload_n 0, 1) := by decide +kernel
theorem dX9_greatestOffset_1 : decode cX9_greatestOffset 1 = .ok (.getfield 22, 3) := by decide +kernel
theorem dX9_greatestOffset_4 : decode cX9_greatestOffset 4 = .ok (.getfield 36, 3) := by decide +kernel
theorem dX9_greatestOffset_7 : decode cX9_greatestOffset 7 = .ok (.iload_n 1, 1) := by decide +kernel
theorem dX9_greatestOffset_8 : decode cX9_greatestOffset 8 = .ok (.invokestatic 136, 3) := by decide +kernel
theorem dX9_greatestOffset_11 : decode cX9_greatestOffset 11 = .ok (.istore_n 2, 1) := by decide +kernel
theorem dX9_greatestOffset_12 : decode cX9_greatestOffset 12 = .ok (.aload_n 0, 1) := by decide +kernel
theorem dX9_greatestOffset_13 : decode cX9_greatestOffset 13 = .ok (.getfield 22, 3) := by decide +kernel
theorem dX9_greatestOffset_16 : decode cX9_greatestOffset 16 = .ok (.getfield 36, 3) := by decide +kernel
theorem dX9_greatestOffset_19 : decode cX9_greatestOffset 19 = .ok (.iload_n 1, 1) := by decide +kernel
theorem dX9_greatestOffset_20 : decode cX9_greatestOffset 20 = .ok (.invokestatic 97, 3) := by decide +kernel
theorem dX9_greatestOffset_23 : decode cX9_greatestOffset 23 = .ok (.istore_n 3, 1) := by decide +kernel
theorem dX9_greatestOffset_24 : decode cX9_greatestOffset 24 = .ok (.iload_n 2, 1) := by decide +kernel
theorem dX9_greatestOffset_25 : decode cX9_greatestOffset 25 = .ok (.ifCond .eq 10, 3) := by decide +kernel
theorem dX9_greatestOffset_28 : decode cX9_greatestOffset 28 = .ok (.iload_n 2, 1) := by decide +kernel
theorem dX9_greatestOffset_29 : decode cX9_greatestOffset 29 = .ok (.iload_n 3, 1) := by decide +kernel
theorem dX9_greatestOffset_30 : decode cX9_greatestOffset 30 = .ok (.iconst 1, 1) := by decide +kernel
theorem dX9_greatestOffset_31 : decode cX9_greatestOffset 31 = .ok (.iadd, 1) := by decide +kernel
theorem dX9_greatestOffset_32 : decode cX9_greatestOffset 32 = .ok (.if_icmp .ne 7, 3) := by decide +kernel
theorem dX9_greatestOffset_35 : decode cX9_greatestOffset 35 = .ok (.iconst 1, 1) := by decide +kernel
theorem dX9_greatestOffset_36 : decode cX9_greatestOffset 36 = .ok (.goto 4, 3) := by decide +kernel
theorem dX9_greatestOffset_39 : decode cX9_greatestOffset 39 = .ok (.iconst 0, 1) := by decide +kernel
theorem dX9_greatestOffset_40 : decode cX9_greatestOffset 40 = .ok (.istore 4, 2) := by decide +kernel
theorem dX9_greatestOffset_42 : decode cX9_greatestOffset 42 = .ok (.aload_n 0, 1) := by decide +kernel
theorem dX9_greatestOffset_43 : decode cX9_greatestOffset 43 = .ok (.getfield 22, 3) := by decide +kernel
theorem dX9_greatestOffset_46 : decode cX9_greatestOffset 46 = .ok (.getfield 36, 3) := by decide +kernel
theorem dX9_greatestOffset_49 : decode cX9_greatestOffset 49 = .ok (.iload_n 1, 1) := by decide +kernel
theorem dX9_greatestOffset_50 : decode cX9_greatestOffset 50 = .ok (.invokestatic 86, 3) := by decide +kernel
theorem dX9_greatestOffset_53 : decode cX9_greatestOffset 53 = .ok (.iload 4, 2) := by decide +kernel
theorem dX9_greatestOffset_55 : decode cX9_greatestOffset 55 = .ok (.ifCond .eq 8, 3) := by decide +kernel
theorem dX9_greatestOffset_58 : decode cX9_greatestOffset 58 = .ok (.iload_n 3, 1) := by decide +kernel
theorem dX9_greatestOffset_59 : decode cX9_greatestOffset 59 = .ok (.i2l, 1) := by decide +kernel
theorem dX9_greatestOffset_60 : decode cX9_greatestOffset 60 = .ok (.goto 9, 3) := by decide +kernel
theorem dX9_greatestOffset_63 : decode cX9_greatestOffset 63 = .ok (.aload_n 0, 1) := by decide +kernel
theorem dX9_greatestOffset_64 : decode cX9_greatestOffset 64 = .ok (.iload_n 1, 1) := by decide +kernel
theorem dX9_greatestOffset_65 : decode cX9_greatestOffset 65 = .ok (.iload_n 2, 1) := by decide +kernel
theorem dX9_greatestOffset_66 : decode cX9_greatestOffset 66 = .ok (.invokevirtual 208, 3) := by decide +kernel
theorem dX9_greatestOffset_69 : decode cX9_greatestOffset 69 = .ok (.ladd, 1) := by decide +kernel
theorem dX9_greatestOffset_70 : decode cX9_greatestOffset 70 = .ok (.lreturn, 1) := by decide +kernel
theorem dX9_lastOffsetLeft_0 : decode cX9_lastOffsetLeft 0 = .ok (.iload_n 1, 1) := by decide +kernel
theorem dX9_lastOffsetLeft_1 : decode cX9_lastOffsetLeft 1 = .ok (.aload_n 0, 1) := by decide +kernel
theorem dX9_lastOffsetLeft_2 : decode cX9_lastOffsetLeft 2 = .ok (.getfield 22, 3) := by decide +kernel
theorem dX9_lastOffsetLeft_5 : decode cX9_lastOffsetLeft 5 = .ok (.getfield 36, 3) := by decide +kernel
theorem dX9_lastOffsetLeft_8 : decode cX9_lastOffsetLeft 8 = .ok (.iload_n 1, 1) := by decide +kernel
theorem dX9_lastOffsetLeft_9 : decode cX9_lastOffsetLeft 9 = .ok (.invokestatic 198, 3) := by decide +kernel
theorem dX9_lastOffsetLeft_12 : decode cX9_lastOffsetLeft 12 = .ok (.iadd, 1) := by decide +kernel
theorem dX9_lastOffsetLeft_13 : decode cX9_lastOffsetLeft 13 = .ok (.istore_n 3, 1) := by decide +kernel
theorem dX9_lastOffsetLeft_14 : decode cX9_lastOffsetLeft 14 = .ok (.lconst 0, 1) := by decide +kernel
theorem dX9_lastOffsetLeft_15 : decode cX9_lastOffsetLeft 15 = .ok (.lstore 4, 2) := by decide +kernel
theorem dX9_lastOffsetLeft_17 : decode cX9_lastOffsetLeft 17 = .ok (.iload_n 1, 1) := by decide +kernel
theorem dX9_lastOffsetLeft_18 : decode cX9_lastOffsetLeft 18 = .ok (.bipush 61, 2) := by decide +kernel
theorem dX9_lastOffsetLeft_20 : decode cX9_lastOffsetLeft 20 = .ok (.iadd, 1) := by decide +kernel
theorem dX9_lastOffsetLeft_21 : decode cX9_lastOffsetLeft 21 = .ok (.istore 6, 2) := by decide +kernel
theorem dX9_lastOffsetLeft_23 : decode cX9_lastOffsetLeft 23 = .ok (.iconst 0, 1) := by decide +kernel
theorem dX9_lastOffsetLeft_24 : decode cX9_lastOffsetLeft 24 = .ok (.istore 7, 2) := by decide +kernel
theorem dX9_lastOffsetLeft_26 : decode cX9_lastOffsetLeft 26 = .ok (.iload 7, 2) := by decide +kernel
theorem dX9_lastOffsetLeft_28 : decode cX9_lastOffsetLeft 28 = .ok (.iload_n 2, 1) := by decide +kernel
theorem dX9_lastOffsetLeft_29 : decode cX9_lastOffsetLeft 29 = .ok (.if_icmp .ge 47, 3) := by decide +kernel
theorem dX9_lastOffsetLeft_32 : decode cX9_lastOffsetLeft 32 = .ok (.aload_n 0, 1) := by decide +kernel
theorem dX9_lastOffsetLeft_33 : decode cX9_lastOffsetLeft 33 = .ok (.getfield 18, 3) := by decide +kernel
theorem dX9_lastOffsetLeft_36 : decode cX9_lastOffsetLeft 36 = .ok (.aload_n 0, 1) := by decide +kernel
theorem dX9_lastOffsetLeft_37 : decode cX9_lastOffsetLeft 37 = .ok (.getfield 22, 3) := by decide +kernel
theorem dX9_lastOffsetLeft_40 : decode cX9_lastOffsetLeft 40 = .ok (.getfield 36, 3) := by decide +kernel
theorem dX9_lastOffsetLeft_43 : decode cX9_lastOffsetLeft 43 = .ok (.iload 6, 2) := by decide +kernel
theorem dX9_lastOffsetLeft_45 : decode cX9_lastOffsetLeft 45 = .ok (.iload_n 3, 1) := by decide +kernel
theorem dX9_lastOffsetLeft_46 : decode cX9_lastOffsetLeft 46 = .ok (.invokevirtual 212, 3) := by decide +kernel
theorem dX9_lastOffsetLeft_49 : decode cX9_lastOffsetLeft 49 = .ok (.ifCond .eq 27, 3) := by decide +kernel
theorem dX9_lastOffsetLeft_52 : decode cX9_lastOffsetLeft 52 = .ok (.aload_n 0, 1) := by decide +kernel
theorem dX9_lastOffsetLeft_53 : decode cX9_lastOffsetLeft 53 = .ok (.getfield 18, 3) := by decide +kernel
theorem dX9_lastOffsetLeft_56 : decode cX9_lastOffsetLeft 56 = .ok (.getfield 216, 3) := by decide +kernel
theorem dX9_lastOffsetLeft_59 : decode cX9_lastOffsetLeft 59 = .ok (.lstore 4, 2) := by decide +kernel
theorem dX9_lastOffsetLeft_61 : decode cX9_lastOffsetLeft 61 = .ok (.aload_n 0, 1) := by decide +kernel
theorem dX9_lastOffsetLeft_62 : decode cX9_lastOffsetLeft 62 = .ok (.getfield 18, 3) := by decide +kernel
theorem dX9_lastOffsetLeft_65 : decode cX9_lastOffsetLeft 65 = .ok (.getfield 219, 3) := by decide +kernel
theorem dX9_lastOffsetLeft_68 : decode cX9_lastOffsetLeft 68 = .ok (.istore 6, 2) := by decide +kernel
theorem dX9_lastOffsetLeft_70 : decode cX9_lastOffsetLeft 70 = .ok (.iinc 7 1, 3) := by decide +kernel
theorem dX9_lastOffsetLeft_73 : decode cX9_lastOffsetLeft 73 = .ok (.goto (-47), 3) := by decide +kernel
theorem dX9_lastOffsetLeft_76 : decode cX9_lastOffsetLeft 76 = .ok (.lload 4, 2) := by decide +kernel
theorem dX9_lastOffsetLeft_78 : decode cX9_lastOffsetLeft 78 = .ok (.lreturn, 1) := by decide +kernel
theorem dX9_firstSince_0 : decode cX9_firstSince 0 = .ok (.iconst 0, 1) := by decide +kernel
theorem dX9_firstSince_1 : decode cX9_firstSince 1 = .ok (.istore 4, 2) := by decide +kernel
theorem dX9_firstSince_3 : decode cX9_firstSince 3 = .ok (.iload 4, 2) := by decide +kernel
theorem dX9_firstSince_5 : decode cX9_firstSince 5 = .ok (.aload_n 1, 1) := by decide +kernel
theorem dX9_firstSince_6 : decode cX9_firstSince 6 = .ok (.getfield 100, 3) := by decide +kernel
theorem dX9_firstSince_9 : decode cX9_firstSince 9 = .ok (.if_icmp .ge 57, 3) := by decide +kernel
theorem dX9_firstSince_12 : decode cX9_firstSince 12 = .ok (.aload_n 0, 1) := by decide +kernel
theorem dX9_firstSince_13 : decode cX9_firstSince 13 = .ok (.getfield 22, 3) := by decide +kernel
theorem dX9_firstSince_16 : decode cX9_firstSince 16 = .ok (.getfield 36, 3) := by decide +kernel
theorem dX9_firstSince_19 : decode cX9_firstSince 19 = .ok (.aload_n 1, 1) := by decide +kernel
theorem dX9_firstSince_20 : decode cX9_firstSince 20 = .ok (.getfield 103, 3) := by decide +kernel
theorem dX9_firstSince_23 : decode cX9_firstSince 23 = .ok (.iload 4, 2) := by decide +kernel
theorem dX9_firstSince_25 : decode cX9_firstSince 25 = .ok (.iaload, 1) := by decide +kernel
theorem dX9_firstSince_26 : decode cX9_firstSince 26 = .ok (.invokestatic 221, 3) := by decide +kernel
theorem dX9_firstSince_29 : decode cX9_firstSince 29 = .ok (.lload_n 2, 1) := by decide +kernel
theorem dX9_firstSince_30 : decode cX9_firstSince 30 = .ok (.lcmp, 1) := by decide +kernel
theorem dX9_firstSince_31 : decode cX9_firstSince 31 = .ok (.ifCond .lt 29, 3) := by decide +kernel
theorem dX9_firstSince_34 : decode cX9_firstSince 34 = .ok (.aload_n 0, 1) := by decide +kernel
theorem dX9_firstSince_35 : decode cX9_firstSince 35 = .ok (.aload_n 1, 1) := by decide +kernel
theorem dX9_firstSince_36 : decode cX9_firstSince 36 = .ok (.getfield 103, 3) := by decide +kernel
theorem dX9_firstSince_39 : decode cX9_firstSince 39 = .ok (.iload 4, 2) := by decide +kernel
theorem dX9_firstSince_41 : decode cX9_firstSince 41 = .ok (.iaload, 1) := by decide +kernel
theorem dX9_firstSince_42 : decode cX9_firstSince 42 = .ok (.lload_n 2, 1) := by decide +kernel
theorem dX9_firstSince_43 : decode cX9_firstSince 43 = .ok (.invokevirtual 224, 3) := by decide +kernel
theorem dX9_firstSince_46 : decode cX9_firstSince 46 = .ok (.lstore 5, 2) := by decide +kernel
theorem dX9_firstSince_48 : decode cX9_firstSince 48 = .ok (.lload 5, 2) := by decide +kernel
theorem dX9_firstSince_50 : decode cX9_firstSince 50 = .ok (.ldc2_w 60, 3) := by decide +kernel
theorem dX9_firstSince_53 : decode cX9_firstSince 53 = .ok (.lcmp, 1) := by decide +kernel
theorem dX9_firstSince_54 : decode cX9_firstSince 54 = .ok (.ifCond .eq 6, 3) := by decide +kernel
theorem dX9_firstSince_57 : decode cX9_firstSince 57 = .ok (.lload 5, 2) := by decide +kernel
theorem dX9_firstSince_59 : decode cX9_firstSince 59 = .ok (.lreturn, 1) := by decide +kernel
theorem dX9_firstSince_60 : decode cX9_firstSince 60 = .ok (.iinc 4 1, 3) := by decide +kernel
theorem dX9_firstSince_63 : decode cX9_firstSince 63 = .ok (.goto (-60), 3) := by decide +kernel
theorem dX9_firstSince_66 : decode cX9_firstSince 66 = .ok (.ldc2_w 60, 3) := by decide +kernel
theorem dX9_firstSince_69 : decode cX9_firstSince 69 = .ok (.lreturn, 1) := by decide +kernel
theorem dX9_firstSinceIn_0 : decode cX9_firstSinceIn 0 = .ok (.aload_n 0, 1) := by decide +kernel
theorem dX9_firstSinceIn_1 : decode cX9_firstSinceIn 1 = .ok (.getfield 22, 3) := by decide +kernel
theorem dX9_firstSinceIn_4 : decode cX9_firstSinceIn 4 = .ok (.getfield 36, 3) := by decide +kernel
theorem dX9_firstSinceIn_7 : decode cX9_firstSinceIn 7 = .ok (.iload_n 1, 1) := by decide +kernel
theorem dX9_firstSinceIn_8 : decode cX9_firstSinceIn 8 = .ok (.invokestatic 136, 3) := by decide +kernel
theorem dX9_firstSinceIn_11 : decode cX9_firstSinceIn 11 = .ok (.istore 4, 2) := by decide +kernel
theorem dX9_firstSinceIn_13 : decode cX9_firstSinceIn 13 = .ok (.iload_n 1, 1) := by decide +kernel
theorem dX9_firstSinceIn_14 : decode cX9_firstSinceIn 14 = .ok (.aload_n 0, 1) := by decide +kernel
theorem dX9_firstSinceIn_15 : decode cX9_firstSinceIn 15 = .ok (.getfield 22, 3) := by decide +kernel
theorem dX9_firstSinceIn_18 : decode cX9_firstSinceIn 18 = .ok (.getfield 36, 3) := by decide +kernel
theorem dX9_firstSinceIn_21 : decode cX9_firstSinceIn 21 = .ok (.iload_n 1, 1) := by decide +kernel
theorem dX9_firstSinceIn_22 : decode cX9_firstSinceIn 22 = .ok (.invokestatic 198, 3) := by decide +kernel
theorem dX9_firstSinceIn_25 : decode cX9_firstSinceIn 25 = .ok (.iadd, 1) := by decide +kernel
theorem dX9_firstSinceIn_26 : decode cX9_firstSinceIn 26 = .ok (.istore 5, 2) := by decide +kernel
theorem dX9_firstSinceIn_28 : decode cX9_firstSinceIn 28 = .ok (.aload_n 0, 1) := by decide +kernel
theorem dX9_firstSinceIn_29 : decode cX9_firstSinceIn 29 = .ok (.getfield 22, 3) := by decide +kernel
theorem dX9_firstSinceIn_32 : decode cX9_firstSinceIn 32 = .ok (.getfield 36, 3) := by decide +kernel
theorem dX9_firstSinceIn_35 : decode cX9_firstSinceIn 35 = .ok (.iload_n 1, 1) := by decide +kernel
theorem dX9_firstSinceIn_36 : decode cX9_firstSinceIn 36 = .ok (.invokestatic 228, 3) := by decide +kernel
theorem dX9_firstSinceIn_39 : decode cX9_firstSinceIn 39 = .ok (.lstore 6, 2) := by decide +kernel
theorem dX9_firstSinceIn_41 : decode cX9_firstSinceIn 41 = .ok (.iload_n 1, 1) := by decide +kernel
theorem dX9_firstSinceIn_42 : decode cX9_firstSinceIn 42 = .ok (.bipush 61, 2) := by decide +kernel
theorem dX9_firstSinceIn_44 : decode cX9_firstSinceIn 44 = .ok (.iadd, 1) := by decide +kernel
theorem dX9_firstSinceIn_45 : decode cX9_firstSinceIn 45 = .ok (.istore 8, 2) := by decide +kernel
theorem dX9_firstSinceIn_47 : decode cX9_firstSinceIn 47 = .ok (.iconst 0, 1) := by decide +kernel
theorem dX9_firstSinceIn_48 : decode cX9_firstSinceIn 48 = .ok (.istore 9, 2) := by decide +kernel
theorem dX9_firstSinceIn_50 : decode cX9_firstSinceIn 50 = .ok (.iload 9, 2) := by decide +kernel
theorem dX9_firstSinceIn_52 : decode cX9_firstSinceIn 52 = .ok (.iload 4, 2) := by decide +kernel
theorem dX9_firstSinceIn_54 : decode cX9_firstSinceIn 54 = .ok (.if_icmp .ge 74, 3) := by decide +kernel
theorem dX9_firstSinceIn_57 : decode cX9_firstSinceIn 57 = .ok (.aload_n 0, 1) := by decide +kernel
theorem dX9_firstSinceIn_58 : decode cX9_firstSinceIn 58 = .ok (.getfield 18, 3) := by decide +kernel
theorem dX9_firstSinceIn_61 : decode cX9_firstSinceIn 61 = .ok (.aload_n 0, 1) := by decide +kernel
theorem dX9_firstSinceIn_62 : decode cX9_firstSinceIn 62 = .ok (.getfield 22, 3) := by decide +kernel
theorem dX9_firstSinceIn_65 : decode cX9_firstSinceIn 65 = .ok (.getfield 36, 3) := by decide +kernel
theorem dX9_firstSinceIn_68 : decode cX9_firstSinceIn 68 = .ok (.iload 8, 2) := by decide +kernel
theorem dX9_firstSinceIn_70 : decode cX9_firstSinceIn 70 = .ok (.iload 5, 2) := by decide +kernel
theorem dX9_firstSinceIn_72 : decode cX9_firstSinceIn 72 = .ok (.invokevirtual 212, 3) := by decide +kernel
theorem dX9_firstSinceIn_75 : decode cX9_firstSinceIn 75 = .ok (.ifCond .eq 53, 3) := by decide +kernel
theorem dX9_firstSinceIn_78 : decode cX9_firstSinceIn 78 = .ok (.lload 6, 2) := by decide +kernel
theorem dX9_firstSinceIn_80 : decode cX9_firstSinceIn 80 = .ok (.aload_n 0, 1) := by decide +kernel
theorem dX9_firstSinceIn_81 : decode cX9_firstSinceIn 81 = .ok (.getfield 18, 3) := by decide +kernel
theorem dX9_firstSinceIn_84 : decode cX9_firstSinceIn 84 = .ok (.getfield 231, 3) := by decide +kernel
theorem dX9_firstSinceIn_87 : decode cX9_firstSinceIn 87 = .ok (.ladd, 1) := by decide +kernel
theorem dX9_firstSinceIn_88 : decode cX9_firstSinceIn 88 = .ok (.lload_n 2, 1) := by decide +kernel
theorem dX9_firstSinceIn_89 : decode cX9_firstSinceIn 89 = .ok (.lcmp, 1) := by decide +kernel
theorem dX9_firstSinceIn_90 : decode cX9_firstSinceIn 90 = .ok (.ifCond .lt 23, 3) := by decide +kernel
theorem dX9_firstSinceIn_93 : decode cX9_firstSinceIn 93 = .ok (.aload_n 0, 1) := by decide +kernel
theorem dX9_firstSinceIn_94 : decode cX9_firstSinceIn 94 = .ok (.getfield 22, 3) := by decide +kernel
theorem dX9_firstSinceIn_97 : decode cX9_firstSinceIn 97 = .ok (.getfield 36, 3) := by decide +kernel
theorem dX9_firstSinceIn_100 : decode cX9_firstSinceIn 100 = .ok (.iload_n 1, 1) := by decide +kernel
theorem dX9_firstSinceIn_101 : decode cX9_firstSinceIn 101 = .ok (.invokestatic 86, 3) := by decide +kernel
theorem dX9_firstSinceIn_104 : decode cX9_firstSinceIn 104 = .ok (.aload_n 0, 1) := by decide +kernel
theorem dX9_firstSinceIn_105 : decode cX9_firstSinceIn 105 = .ok (.getfield 18, 3) := by decide +kernel
theorem dX9_firstSinceIn_108 : decode cX9_firstSinceIn 108 = .ok (.getfield 216, 3) := by decide +kernel
theorem dX9_firstSinceIn_111 : decode cX9_firstSinceIn 111 = .ok (.ladd, 1) := by decide +kernel
theorem dX9_firstSinceIn_112 : decode cX9_firstSinceIn 112 = .ok (.lreturn, 1) := by decide +kernel
theorem dX9_firstSinceIn_113 : decode cX9_firstSinceIn 113 = .ok (.aload_n 0, 1) := by decide +kernel
theorem dX9_firstSinceIn_114 : decode cX9_firstSinceIn 114 = .ok (.getfield 18, 3) := by decide +kernel
theorem dX9_firstSinceIn_117 : decode cX9_firstSinceIn 117 = .ok (.getfield 219, 3) := by decide +kernel
theorem dX9_firstSinceIn_120 : decode cX9_firstSinceIn 120 = .ok (.istore 8, 2) := by decide +kernel
theorem dX9_firstSinceIn_122 : decode cX9_firstSinceIn 122 = .ok (.iinc 9 1, 3) := by decide +kernel
theorem dX9_firstSinceIn_125 : decode cX9_firstSinceIn 125 = .ok (.goto (-75), 3) := by decide +kernel
theorem dX9_firstSinceIn_128 : decode cX9_firstSinceIn 128 = .ok (.ldc2_w 60, 3) := by decide +kernel
theorem dX9_firstSinceIn_131 : decode cX9_firstSinceIn 131 = .ok (.lreturn, 1) := by decide +kernel
theorem dX9_dropDownTo_0 : decode cX9_dropDownTo 0 = .ok (.aload_n 1, 1) := by decide +kernel
theorem dX9_dropDownTo_1 : decode cX9_dropDownTo 1 = .ok (.invokevirtual 234, 3) := by decide +kernel
theorem dX9_dropDownTo_4 : decode cX9_dropDownTo 4 = .ok (.lstore_n 3, 1) := by decide +kernel
theorem dX9_dropDownTo_5 : decode cX9_dropDownTo 5 = .ok (.iconst 0, 1) := by decide +kernel
theorem dX9_dropDownTo_6 : decode cX9_dropDownTo 6 = .ok (.istore 5, 2) := by decide +kernel
theorem dX9_dropDownTo_8 : decode cX9_dropDownTo 8 = .ok (.iload 5, 2) := by decide +kernel
theorem dX9_dropDownTo_10 : decode cX9_dropDownTo 10 = .ok (.aload_n 1, 1) := by decide +kernel
theorem dX9_dropDownTo_11 : decode cX9_dropDownTo 11 = .ok (.getfield 114, 3) := by decide +kernel
theorem dX9_dropDownTo_14 : decode cX9_dropDownTo 14 = .ok (.iconst 1, 1) := by decide +kernel
theorem dX9_dropDownTo_15 : decode cX9_dropDownTo 15 = .ok (.isub, 1) := by decide +kernel
theorem dX9_dropDownTo_16 : decode cX9_dropDownTo 16 = .ok (.if_icmp .ge 36, 3) := by decide +kernel
theorem dX9_dropDownTo_19 : decode cX9_dropDownTo 19 = .ok (.lload_n 3, 1) := by decide +kernel
theorem dX9_dropDownTo_20 : decode cX9_dropDownTo 20 = .ok (.aload_n 1, 1) := by decide +kernel
theorem dX9_dropDownTo_21 : decode cX9_dropDownTo 21 = .ok (.getfield 153, 3) := by decide +kernel
theorem dX9_dropDownTo_24 : decode cX9_dropDownTo 24 = .ok (.iload 5, 2) := by decide +kernel
theorem dX9_dropDownTo_26 : decode cX9_dropDownTo 26 = .ok (.iaload, 1) := by decide +kernel
theorem dX9_dropDownTo_27 : decode cX9_dropDownTo 27 = .ok (.i2l, 1) := by decide +kernel
theorem dX9_dropDownTo_28 : decode cX9_dropDownTo 28 = .ok (.lsub, 1) := by decide +kernel
theorem dX9_dropDownTo_29 : decode cX9_dropDownTo 29 = .ok (.iload_n 2, 1) := by decide +kernel
theorem dX9_dropDownTo_30 : decode cX9_dropDownTo 30 = .ok (.i2l, 1) := by decide +kernel
theorem dX9_dropDownTo_31 : decode cX9_dropDownTo 31 = .ok (.lcmp, 1) := by decide +kernel
theorem dX9_dropDownTo_32 : decode cX9_dropDownTo 32 = .ok (.ifCond .lt 20, 3) := by decide +kernel
theorem dX9_dropDownTo_35 : decode cX9_dropDownTo 35 = .ok (.lload_n 3, 1) := by decide +kernel
theorem dX9_dropDownTo_36 : decode cX9_dropDownTo 36 = .ok (.aload_n 1, 1) := by decide +kernel
theorem dX9_dropDownTo_37 : decode cX9_dropDownTo 37 = .ok (.getfield 153, 3) := by decide +kernel
theorem dX9_dropDownTo_40 : decode cX9_dropDownTo 40 = .ok (.iload 5, 2) := by decide +kernel
theorem dX9_dropDownTo_42 : decode cX9_dropDownTo 42 = .ok (.iaload, 1) := by decide +kernel
theorem dX9_dropDownTo_43 : decode cX9_dropDownTo 43 = .ok (.i2l, 1) := by decide +kernel
theorem dX9_dropDownTo_44 : decode cX9_dropDownTo 44 = .ok (.lsub, 1) := by decide +kernel
theorem dX9_dropDownTo_45 : decode cX9_dropDownTo 45 = .ok (.lstore_n 3, 1) := by decide +kernel
theorem dX9_dropDownTo_46 : decode cX9_dropDownTo 46 = .ok (.iinc 5 1, 3) := by decide +kernel
theorem dX9_dropDownTo_49 : decode cX9_dropDownTo 49 = .ok (.goto (-41), 3) := by decide +kernel
theorem dX9_dropDownTo_52 : decode cX9_dropDownTo 52 = .ok (.iload 5, 2) := by decide +kernel
theorem dX9_dropDownTo_54 : decode cX9_dropDownTo 54 = .ok (.ifCond .ne 5, 3) := by decide +kernel
theorem dX9_dropDownTo_57 : decode cX9_dropDownTo 57 = .ok (.iconst 0, 1) := by decide +kernel
theorem dX9_dropDownTo_58 : decode cX9_dropDownTo 58 = .ok (.ireturn, 1) := by decide +kernel
theorem dX9_dropDownTo_59 : decode cX9_dropDownTo 59 = .ok (.aload_n 1, 1) := by decide +kernel
theorem dX9_dropDownTo_60 : decode cX9_dropDownTo 60 = .ok (.iload 5, 2) := by decide +kernel
theorem dX9_dropDownTo_62 : decode cX9_dropDownTo 62 = .ok (.invokevirtual 238, 3) := by decide +kernel
theorem dX9_dropDownTo_65 : decode cX9_dropDownTo 65 = .ok (.aload_n 1, 1) := by decide +kernel
theorem dX9_dropDownTo_66 : decode cX9_dropDownTo 66 = .ok (.aload_n 1, 1) := by decide +kernel
theorem dX9_dropDownTo_67 : decode cX9_dropDownTo 67 = .ok (.getfield 100, 3) := by decide +kernel
theorem dX9_dropDownTo_70 : decode cX9_dropDownTo 70 = .ok (.ifCond .le 22, 3) := by decide +kernel
theorem dX9_dropDownTo_73 : decode cX9_dropDownTo 73 = .ok (.aload_n 0, 1) := by decide +kernel
theorem dX9_dropDownTo_74 : decode cX9_dropDownTo 74 = .ok (.getfield 22, 3) := by decide +kernel
theorem dX9_dropDownTo_77 : decode cX9_dropDownTo 77 = .ok (.getfield 36, 3) := by decide +kernel
theorem dX9_dropDownTo_80 : decode cX9_dropDownTo 80 = .ok (.aload_n 1, 1) := by decide +kernel
theorem dX9_dropDownTo_81 : decode cX9_dropDownTo 81 = .ok (.getfield 103, 3) := by decide +kernel
theorem dX9_dropDownTo_84 : decode cX9_dropDownTo 84 = .ok (.iconst 0, 1) := by decide +kernel
theorem dX9_dropDownTo_85 : decode cX9_dropDownTo 85 = .ok (.iaload, 1) := by decide +kernel
theorem dX9_dropDownTo_86 : decode cX9_dropDownTo 86 = .ok (.invokestatic 86, 3) := by decide +kernel
theorem dX9_dropDownTo_89 : decode cX9_dropDownTo 89 = .ok (.goto 7, 3) := by decide +kernel
theorem dX9_dropDownTo_92 : decode cX9_dropDownTo 92 = .ok (.aload_n 1, 1) := by decide +kernel
theorem dX9_dropDownTo_93 : decode cX9_dropDownTo 93 = .ok (.getfield 126, 3) := by decide +kernel
theorem dX9_dropDownTo_96 : decode cX9_dropDownTo 96 = .ok (.putfield 175, 3) := by decide +kernel
theorem dX9_dropDownTo_99 : decode cX9_dropDownTo 99 = .ok (.aload_n 0, 1) := by decide +kernel
theorem dX9_dropDownTo_100 : decode cX9_dropDownTo 100 = .ok (.aload_n 1, 1) := by decide +kernel
theorem dX9_dropDownTo_101 : decode cX9_dropDownTo 101 = .ok (.invokevirtual 147, 3) := by decide +kernel
theorem dX9_dropDownTo_104 : decode cX9_dropDownTo 104 = .ok (.ifCond .eq 8, 3) := by decide +kernel
theorem dX9_dropDownTo_107 : decode cX9_dropDownTo 107 = .ok (.iload 5, 2) := by decide +kernel
theorem dX9_dropDownTo_109 : decode cX9_dropDownTo 109 = .ok (.goto 5, 3) := by decide +kernel
theorem dX9_dropDownTo_112 : decode cX9_dropDownTo 112 = .ok (.bipush (-3), 2) := by decide +kernel
theorem dX9_dropDownTo_114 : decode cX9_dropDownTo 114 = .ok (.ireturn, 1) := by decide +kernel
theorem dX9_countFree_0 : decode cX9_countFree 0 = .ok (.aload_n 0, 1) := by decide +kernel
theorem dX9_countFree_1 : decode cX9_countFree 1 = .ok (.invokevirtual 111, 3) := by decide +kernel
theorem dX9_countFree_4 : decode cX9_countFree 4 = .ok (.iconst 0, 1) := by decide +kernel
theorem dX9_countFree_5 : decode cX9_countFree 5 = .ok (.istore_n 1, 1) := by decide +kernel
theorem dX9_countFree_6 : decode cX9_countFree 6 = .ok (.aload_n 0, 1) := by decide +kernel
theorem dX9_countFree_7 : decode cX9_countFree 7 = .ok (.getfield 44, 3) := by decide +kernel
theorem dX9_countFree_10 : decode cX9_countFree 10 = .ok (.istore_n 2, 1) := by decide +kernel
theorem dX9_countFree_11 : decode cX9_countFree 11 = .ok (.iload_n 2, 1) := by decide +kernel
theorem dX9_countFree_12 : decode cX9_countFree 12 = .ok (.aload_n 0, 1) := by decide +kernel
theorem dX9_countFree_13 : decode cX9_countFree 13 = .ok (.getfield 51, 3) := by decide +kernel
theorem dX9_countFree_16 : decode cX9_countFree 16 = .ok (.arraylength, 1) := by decide +kernel
theorem dX9_countFree_17 : decode cX9_countFree 17 = .ok (.if_icmp .ge 21, 3) := by decide +kernel
theorem dX9_countFree_20 : decode cX9_countFree 20 = .ok (.aload_n 0, 1) := by decide +kernel
theorem dX9_countFree_21 : decode cX9_countFree 21 = .ok (.getfield 51, 3) := by decide +kernel
theorem dX9_countFree_24 : decode cX9_countFree 24 = .ok (.iload_n 2, 1) := by decide +kernel
theorem dX9_countFree_25 : decode cX9_countFree 25 = .ok (.baload, 1) := by decide +kernel
theorem dX9_countFree_26 : decode cX9_countFree 26 = .ok (.ifCond .ne 6, 3) := by decide +kernel
theorem dX9_countFree_29 : decode cX9_countFree 29 = .ok (.iinc 1 1, 3) := by decide +kernel
theorem dX9_countFree_32 : decode cX9_countFree 32 = .ok (.iinc 2 1, 3) := by decide +kernel
theorem dX9_countFree_35 : decode cX9_countFree 35 = .ok (.goto (-24), 3) := by decide +kernel
theorem dX9_countFree_38 : decode cX9_countFree 38 = .ok (.iload_n 1, 1) := by decide +kernel
theorem dX9_countFree_39 : decode cX9_countFree 39 = .ok (.ireturn, 1) := by decide +kernel
theorem dX9_countFaults_0 : decode cX9_countFaults 0 = .ok (.iconst 0, 1) := by decide +kernel
theorem dX9_countFaults_1 : decode cX9_countFaults 1 = .ok (.istore_n 1, 1) := by decide +kernel
theorem dX9_countFaults_2 : decode cX9_countFaults 2 = .ok (.aload_n 0, 1) := by decide +kernel
theorem dX9_countFaults_3 : decode cX9_countFaults 3 = .ok (.getfield 32, 3) := by decide +kernel
theorem dX9_countFaults_6 : decode cX9_countFaults 6 = .ok (.astore_n 2, 1) := by decide +kernel
theorem dX9_countFaults_7 : decode cX9_countFaults 7 = .ok (.aload_n 2, 1) := by decide +kernel
theorem dX9_countFaults_8 : decode cX9_countFaults 8 = .ok (.arraylength, 1) := by decide +kernel
theorem dX9_countFaults_9 : decode cX9_countFaults 9 = .ok (.istore_n 3, 1) := by decide +kernel
theorem dX9_countFaults_10 : decode cX9_countFaults 10 = .ok (.iconst 0, 1) := by decide +kernel
theorem dX9_countFaults_11 : decode cX9_countFaults 11 = .ok (.istore 4, 2) := by decide +kernel
theorem dX9_countFaults_13 : decode cX9_countFaults 13 = .ok (.iload 4, 2) := by decide +kernel
theorem dX9_countFaults_15 : decode cX9_countFaults 15 = .ok (.iload_n 3, 1) := by decide +kernel
theorem dX9_countFaults_16 : decode cX9_countFaults 16 = .ok (.if_icmp .ge 31, 3) := by decide +kernel
theorem dX9_countFaults_19 : decode cX9_countFaults 19 = .ok (.aload_n 2, 1) := by decide +kernel
theorem dX9_countFaults_20 : decode cX9_countFaults 20 = .ok (.iload 4, 2) := by decide +kernel
theorem dX9_countFaults_22 : decode cX9_countFaults 22 = .ok (.aaload, 1) := by decide +kernel
theorem dX9_countFaults_23 : decode cX9_countFaults 23 = .ok (.astore 5, 2) := by decide +kernel
theorem dX9_countFaults_25 : decode cX9_countFaults 25 = .ok (.iload_n 1, 1) := by decide +kernel
theorem dX9_countFaults_26 : decode cX9_countFaults 26 = .ok (.aload_n 0, 1) := by decide +kernel
theorem dX9_countFaults_27 : decode cX9_countFaults 27 = .ok (.aload 5, 2) := by decide +kernel
theorem dX9_countFaults_29 : decode cX9_countFaults 29 = .ok (.invokevirtual 241, 3) := by decide +kernel
theorem dX9_countFaults_32 : decode cX9_countFaults 32 = .ok (.aload_n 0, 1) := by decide +kernel
theorem dX9_countFaults_33 : decode cX9_countFaults 33 = .ok (.aload 5, 2) := by decide +kernel
theorem dX9_countFaults_35 : decode cX9_countFaults 35 = .ok (.invokevirtual 245, 3) := by decide +kernel
theorem dX9_countFaults_38 : decode cX9_countFaults 38 = .ok (.iadd, 1) := by decide +kernel
theorem dX9_countFaults_39 : decode cX9_countFaults 39 = .ok (.iadd, 1) := by decide +kernel
theorem dX9_countFaults_40 : decode cX9_countFaults 40 = .ok (.istore_n 1, 1) := by decide +kernel
theorem dX9_countFaults_41 : decode cX9_countFaults 41 = .ok (.iinc 4 1, 3) := by decide +kernel
theorem dX9_countFaults_44 : decode cX9_countFaults 44 = .ok (.goto (-31), 3) := by decide +kernel
theorem dX9_countFaults_47 : decode cX9_countFaults 47 = .ok (.aload_n 0, 1) := by decide +kernel
theorem dX9_countFaults_48 : decode cX9_countFaults 48 = .ok (.invokevirtual 111, 3) := by decide +kernel
theorem dX9_countFaults_51 : decode cX9_countFaults 51 = .ok (.iconst 0, 1) := by decide +kernel
theorem dX9_countFaults_52 : decode cX9_countFaults 52 = .ok (.istore_n 2, 1) := by decide +kernel
theorem dX9_countFaults_53 : decode cX9_countFaults 53 = .ok (.iload_n 2, 1) := by decide +kernel
theorem dX9_countFaults_54 : decode cX9_countFaults 54 = .ok (.aload_n 0, 1) := by decide +kernel
theorem dX9_countFaults_55 : decode cX9_countFaults 55 = .ok (.getfield 51, 3) := by decide +kernel
theorem dX9_countFaults_58 : decode cX9_countFaults 58 = .ok (.arraylength, 1) := by decide +kernel
theorem dX9_countFaults_59 : decode cX9_countFaults 59 = .ok (.if_icmp .ge 34, 3) := by decide +kernel
theorem dX9_countFaults_62 : decode cX9_countFaults 62 = .ok (.aload_n 0, 1) := by decide +kernel
theorem dX9_countFaults_63 : decode cX9_countFaults 63 = .ok (.getfield 51, 3) := by decide +kernel
theorem dX9_countFaults_66 : decode cX9_countFaults 66 = .ok (.iload_n 2, 1) := by decide +kernel
theorem dX9_countFaults_67 : decode cX9_countFaults 67 = .ok (.baload, 1) := by decide +kernel
theorem dX9_countFaults_68 : decode cX9_countFaults 68 = .ok (.iload_n 2, 1) := by decide +kernel
theorem dX9_countFaults_69 : decode cX9_countFaults 69 = .ok (.aload_n 0, 1) := by decide +kernel
theorem dX9_countFaults_70 : decode cX9_countFaults 70 = .ok (.getfield 44, 3) := by decide +kernel
theorem dX9_countFaults_73 : decode cX9_countFaults 73 = .ok (.if_icmp .ge 7, 3) := by decide +kernel
theorem dX9_countFaults_76 : decode cX9_countFaults 76 = .ok (.iconst 0, 1) := by decide +kernel
theorem dX9_countFaults_77 : decode cX9_countFaults 77 = .ok (.goto 4, 3) := by decide +kernel
theorem dX9_countFaults_80 : decode cX9_countFaults 80 = .ok (.iconst 1, 1) := by decide +kernel
theorem dX9_countFaults_81 : decode cX9_countFaults 81 = .ok (.if_icmp .le 6, 3) := by decide +kernel
theorem dX9_countFaults_84 : decode cX9_countFaults 84 = .ok (.iinc 1 1, 3) := by decide +kernel
theorem dX9_countFaults_87 : decode cX9_countFaults 87 = .ok (.iinc 2 1, 3) := by decide +kernel
theorem dX9_countFaults_90 : decode cX9_countFaults 90 = .ok (.goto (-37), 3) := by decide +kernel
theorem dX9_countFaults_93 : decode cX9_countFaults 93 = .ok (.iload_n 1, 1) := by decide +kernel
theorem dX9_countFaults_94 : decode cX9_countFaults 94 = .ok (.ireturn, 1) := by decide +kernel
theorem dX9_headFaults_0 : decode cX9_headFaults 0 = .ok (.aload_n 0, 1) := by decide +kernel
theorem dX9_headFaults_1 : decode cX9_headFaults 1 = .ok (.aload_n 1, 1) := by decide +kernel
theorem dX9_headFaults_2 : decode cX9_headFaults 2 = .ok (.invokevirtual 168, 3) := by decide +kernel
theorem dX9_headFaults_5 : decode cX9_headFaults 5 = .ok (.aload_n 1, 1) := by decide +kernel
theorem dX9_headFaults_6 : decode cX9_headFaults 6 = .ok (.getfield 172, 3) := by decide +kernel
theorem dX9_headFaults_9 : decode cX9_headFaults 9 = .ok (.sipush 1024, 3) := by decide +kernel
theorem dX9_headFaults_12 : decode cX9_headFaults 12 = .ok (.imul, 1) := by decide +kernel
theorem dX9_headFaults_13 : decode cX9_headFaults 13 = .ok (.istore_n 2, 1) := by decide +kernel
theorem dX9_headFaults_14 : decode cX9_headFaults 14 = .ok (.iconst 0, 1) := by decide +kernel
theorem dX9_headFaults_15 : decode cX9_headFaults 15 = .ok (.istore_n 3, 1) := by decide +kernel
theorem dX9_headFaults_16 : decode cX9_headFaults 16 = .ok (.iload_n 3, 1) := by decide +kernel
theorem dX9_headFaults_17 : decode cX9_headFaults 17 = .ok (.aload_n 0, 1) := by decide +kernel
theorem dX9_headFaults_18 : decode cX9_headFaults 18 = .ok (.getfield 9, 3) := by decide +kernel
theorem dX9_headFaults_21 : decode cX9_headFaults 21 = .ok (.arraylength, 1) := by decide +kernel
theorem dX9_headFaults_22 : decode cX9_headFaults 22 = .ok (.if_icmp .ge 31, 3) := by decide +kernel
theorem dX9_headFaults_25 : decode cX9_headFaults 25 = .ok (.aload_n 0, 1) := by decide +kernel
theorem dX9_headFaults_26 : decode cX9_headFaults 26 = .ok (.getfield 9, 3) := by decide +kernel
theorem dX9_headFaults_29 : decode cX9_headFaults 29 = .ok (.iload_n 3, 1) := by decide +kernel
theorem dX9_headFaults_30 : decode cX9_headFaults 30 = .ok (.baload, 1) := by decide +kernel
theorem dX9_headFaults_31 : decode cX9_headFaults 31 = .ok (.aload_n 0, 1) := by decide +kernel
theorem dX9_headFaults_32 : decode cX9_headFaults 32 = .ok (.getfield 22, 3) := by decide +kernel
theorem dX9_headFaults_35 : decode cX9_headFaults 35 = .ok (.getfield 36, 3) := by decide +kernel
theorem dX9_headFaults_38 : decode cX9_headFaults 38 = .ok (.iload_n 2, 1) := by decide +kernel
theorem dX9_headFaults_39 : decode cX9_headFaults 39 = .ok (.iload_n 3, 1) := by decide +kernel
theorem dX9_headFaults_40 : decode cX9_headFaults 40 = .ok (.iadd, 1) := by decide +kernel
theorem dX9_headFaults_41 : decode cX9_headFaults 41 = .ok (.baload, 1) := by decide +kernel
theorem dX9_headFaults_42 : decode cX9_headFaults 42 = .ok (.if_icmp .eq 5, 3) := by decide +kernel
theorem dX9_headFaults_45 : decode cX9_headFaults 45 = .ok (.iconst 1, 1) := by decide +kernel
theorem dX9_headFaults_46 : decode cX9_headFaults 46 = .ok (.ireturn, 1) := by decide +kernel
theorem dX9_headFaults_47 : decode cX9_headFaults 47 = .ok (.iinc 3 1, 3) := by decide +kernel
theorem dX9_headFaults_50 : decode cX9_headFaults 50 = .ok (.goto (-34), 3) := by decide +kernel
theorem dX9_headFaults_53 : decode cX9_headFaults 53 = .ok (.iconst 0, 1) := by decide +kernel
theorem dX9_headFaults_54 : decode cX9_headFaults 54 = .ok (.ireturn, 1) := by decide +kernel
theorem dX9_batchFaults_0 : decode cX9_batchFaults 0 = .ok (.iconst 0, 1) := by decide +kernel
theorem dX9_batchFaults_1 : decode cX9_batchFaults 1 = .ok (.istore_n 2, 1) := by decide +kernel
theorem dX9_batchFaults_2 : decode cX9_batchFaults 2 = .ok (.iconst 0, 1) := by decide +kernel
theorem dX9_batchFaults_3 : decode cX9_batchFaults 3 = .ok (.istore_n 3, 1) := by decide +kernel
theorem dX9_batchFaults_4 : decode cX9_batchFaults 4 = .ok (.aload_n 1, 1) := by decide +kernel
theorem dX9_batchFaults_5 : decode cX9_batchFaults 5 = .ok (.getfield 175, 3) := by decide +kernel
theorem dX9_batchFaults_8 : decode cX9_batchFaults 8 = .ok (.lstore 4, 2) := by decide +kernel
theorem dX9_batchFaults_10 : decode cX9_batchFaults 10 = .ok (.iconst 0, 1) := by decide +kernel
theorem dX9_batchFaults_11 : decode cX9_batchFaults 11 = .ok (.istore 6, 2) := by decide +kernel
theorem dX9_batchFaults_13 : decode cX9_batchFaults 13 = .ok (.iload 6, 2) := by decide +kernel
theorem dX9_batchFaults_15 : decode cX9_batchFaults 15 = .ok (.aload_n 1, 1) := by decide +kernel
theorem dX9_batchFaults_16 : decode cX9_batchFaults 16 = .ok (.getfield 114, 3) := by decide +kernel
theorem dX9_batchFaults_19 : decode cX9_batchFaults 19 = .ok (.if_icmp .ge 215, 3) := by decide +kernel
theorem dX9_batchFaults_22 : decode cX9_batchFaults 22 = .ok (.aload_n 1, 1) := by decide +kernel
theorem dX9_batchFaults_23 : decode cX9_batchFaults 23 = .ok (.getfield 162, 3) := by decide +kernel
theorem dX9_batchFaults_26 : decode cX9_batchFaults 26 = .ok (.iload 6, 2) := by decide +kernel
theorem dX9_batchFaults_28 : decode cX9_batchFaults 28 = .ok (.iaload, 1) := by decide +kernel
theorem dX9_batchFaults_29 : decode cX9_batchFaults 29 = .ok (.sipush 1024, 3) := by decide +kernel
theorem dX9_batchFaults_32 : decode cX9_batchFaults 32 = .ok (.imul, 1) := by decide +kernel
theorem dX9_batchFaults_33 : decode cX9_batchFaults 33 = .ok (.istore 7, 2) := by decide +kernel
theorem dX9_batchFaults_35 : decode cX9_batchFaults 35 = .ok (.iload 7, 2) := by decide +kernel
theorem dX9_batchFaults_37 : decode cX9_batchFaults 37 = .ok (.aload_n 1, 1) := by decide +kernel
theorem dX9_batchFaults_38 : decode cX9_batchFaults 38 = .ok (.getfield 153, 3) := by decide +kernel
theorem dX9_batchFaults_41 : decode cX9_batchFaults 41 = .ok (.iload 6, 2) := by decide +kernel
theorem dX9_batchFaults_43 : decode cX9_batchFaults 43 = .ok (.iaload, 1) := by decide +kernel
theorem dX9_batchFaults_44 : decode cX9_batchFaults 44 = .ok (.iadd, 1) := by decide +kernel
theorem dX9_batchFaults_45 : decode cX9_batchFaults 45 = .ok (.istore 8, 2) := by decide +kernel
theorem dX9_batchFaults_47 : decode cX9_batchFaults 47 = .ok (.iconst 0, 1) := by decide +kernel
theorem dX9_batchFaults_48 : decode cX9_batchFaults 48 = .ok (.istore 9, 2) := by decide +kernel
theorem dX9_batchFaults_50 : decode cX9_batchFaults 50 = .ok (.iload 9, 2) := by decide +kernel
theorem dX9_batchFaults_52 : decode cX9_batchFaults 52 = .ok (.aload_n 1, 1) := by decide +kernel
theorem dX9_batchFaults_53 : decode cX9_batchFaults 53 = .ok (.getfield 248, 3) := by decide +kernel
theorem dX9_batchFaults_56 : decode cX9_batchFaults 56 = .ok (.iload 6, 2) := by decide +kernel
theorem dX9_batchFaults_58 : decode cX9_batchFaults 58 = .ok (.iaload, 1) := by decide +kernel
theorem dX9_batchFaults_59 : decode cX9_batchFaults 59 = .ok (.if_icmp .ge 159, 3) := by decide +kernel
theorem dX9_batchFaults_62 : decode cX9_batchFaults 62 = .ok (.iload_n 3, 1) := by decide +kernel
theorem dX9_batchFaults_63 : decode cX9_batchFaults 63 = .ok (.aload_n 1, 1) := by decide +kernel
theorem dX9_batchFaults_64 : decode cX9_batchFaults 64 = .ok (.getfield 100, 3) := by decide +kernel
theorem dX9_batchFaults_67 : decode cX9_batchFaults 67 = .ok (.if_icmp .ge 151, 3) := by decide +kernel
theorem dX9_batchFaults_70 : decode cX9_batchFaults 70 = .ok (.aload_n 0, 1) := by decide +kernel
theorem dX9_batchFaults_71 : decode cX9_batchFaults 71 = .ok (.getfield 22, 3) := by decide +kernel
theorem dX9_batchFaults_74 : decode cX9_batchFaults 74 = .ok (.getfield 36, 3) := by decide +kernel
theorem dX9_batchFaults_77 : decode cX9_batchFaults 77 = .ok (.aload_n 1, 1) := by decide +kernel
theorem dX9_batchFaults_78 : decode cX9_batchFaults 78 = .ok (.getfield 103, 3) := by decide +kernel
theorem dX9_batchFaults_81 : decode cX9_batchFaults 81 = .ok (.iload_n 3, 1) := by decide +kernel
theorem dX9_batchFaults_82 : decode cX9_batchFaults 82 = .ok (.iaload, 1) := by decide +kernel
theorem dX9_batchFaults_83 : decode cX9_batchFaults 83 = .ok (.invokestatic 198, 3) := by decide +kernel
theorem dX9_batchFaults_86 : decode cX9_batchFaults 86 = .ok (.istore 10, 2) := by decide +kernel
theorem dX9_batchFaults_88 : decode cX9_batchFaults 88 = .ok (.aload_n 1, 1) := by decide +kernel
theorem dX9_batchFaults_89 : decode cX9_batchFaults 89 = .ok (.getfield 103, 3) := by decide +kernel
theorem dX9_batchFaults_92 : decode cX9_batchFaults 92 = .ok (.iload_n 3, 1) := by decide +kernel
theorem dX9_batchFaults_93 : decode cX9_batchFaults 93 = .ok (.iaload, 1) := by decide +kernel
theorem dX9_batchFaults_94 : decode cX9_batchFaults 94 = .ok (.iload 7, 2) := by decide +kernel
theorem dX9_batchFaults_96 : decode cX9_batchFaults 96 = .ok (.if_icmp .ne 24, 3) := by decide +kernel
theorem dX9_batchFaults_99 : decode cX9_batchFaults 99 = .ok (.iload 10, 2) := by decide +kernel
theorem dX9_batchFaults_101 : decode cX9_batchFaults 101 = .ok (.bipush 61, 2) := by decide +kernel
theorem dX9_batchFaults_103 : decode cX9_batchFaults 103 = .ok (.if_icmp .lt 17, 3) := by decide +kernel
theorem dX9_batchFaults_106 : decode cX9_batchFaults 106 = .ok (.iload 10, 2) := by decide +kernel
theorem dX9_batchFaults_108 : decode cX9_batchFaults 108 = .ok (.iload 8, 2) := by decide +kernel
theorem dX9_batchFaults_110 : decode cX9_batchFaults 110 = .ok (.iload 7, 2) := by decide +kernel
theorem dX9_batchFaults_112 : decode cX9_batchFaults 112 = .ok (.isub, 1) := by decide +kernel
theorem dX9_batchFaults_113 : decode cX9_batchFaults 113 = .ok (.if_icmp .gt 7, 3) := by decide +kernel
theorem dX9_batchFaults_116 : decode cX9_batchFaults 116 = .ok (.iconst 1, 1) := by decide +kernel
theorem dX9_batchFaults_117 : decode cX9_batchFaults 117 = .ok (.goto 4, 3) := by decide +kernel
theorem dX9_batchFaults_120 : decode cX9_batchFaults 120 = .ok (.iconst 0, 1) := by decide +kernel
theorem dX9_batchFaults_121 : decode cX9_batchFaults 121 = .ok (.istore 11, 2) := by decide +kernel
theorem dX9_batchFaults_123 : decode cX9_batchFaults 123 = .ok (.iload 11, 2) := by decide +kernel
theorem dX9_batchFaults_125 : decode cX9_batchFaults 125 = .ok (.ifCond .eq 32, 3) := by decide +kernel
theorem dX9_batchFaults_128 : decode cX9_batchFaults 128 = .ok (.aload_n 0, 1) := by decide +kernel
theorem dX9_batchFaults_129 : decode cX9_batchFaults 129 = .ok (.getfield 22, 3) := by decide +kernel
theorem dX9_batchFaults_132 : decode cX9_batchFaults 132 = .ok (.getfield 36, 3) := by decide +kernel
theorem dX9_batchFaults_135 : decode cX9_batchFaults 135 = .ok (.iload 7, 2) := by decide +kernel
theorem dX9_batchFaults_137 : decode cX9_batchFaults 137 = .ok (.iload 10, 2) := by decide +kernel
theorem dX9_batchFaults_139 : decode cX9_batchFaults 139 = .ok (.invokestatic 251, 3) := by decide +kernel
theorem dX9_batchFaults_142 : decode cX9_batchFaults 142 = .ok (.ifCond .eq 15, 3) := by decide +kernel
theorem dX9_batchFaults_145 : decode cX9_batchFaults 145 = .ok (.aload_n 0, 1) := by decide +kernel
theorem dX9_batchFaults_146 : decode cX9_batchFaults 146 = .ok (.aload_n 1, 1) := by decide +kernel
theorem dX9_batchFaults_147 : decode cX9_batchFaults 147 = .ok (.iload 7, 2) := by decide +kernel
theorem dX9_batchFaults_149 : decode cX9_batchFaults 149 = .ok (.lload 4, 2) := by decide +kernel
theorem dX9_batchFaults_151 : decode cX9_batchFaults 151 = .ok (.invokevirtual 254, 3) := by decide +kernel
theorem dX9_batchFaults_154 : decode cX9_batchFaults 154 = .ok (.ifCond .ne 6, 3) := by decide +kernel
theorem dX9_batchFaults_157 : decode cX9_batchFaults 157 = .ok (.iinc 2 1, 3) := by decide +kernel
theorem dX9_batchFaults_160 : decode cX9_batchFaults 160 = .ok (.aload_n 0, 1) := by decide +kernel
theorem dX9_batchFaults_161 : decode cX9_batchFaults 161 = .ok (.getfield 22, 3) := by decide +kernel
theorem dX9_batchFaults_164 : decode cX9_batchFaults 164 = .ok (.getfield 36, 3) := by decide +kernel
theorem dX9_batchFaults_167 : decode cX9_batchFaults 167 = .ok (.aload_n 1, 1) := by decide +kernel
theorem dX9_batchFaults_168 : decode cX9_batchFaults 168 = .ok (.getfield 103, 3) := by decide +kernel
theorem dX9_batchFaults_171 : decode cX9_batchFaults 171 = .ok (.iload_n 3, 1) := by decide +kernel
theorem dX9_batchFaults_172 : decode cX9_batchFaults 172 = .ok (.iaload, 1) := by decide +kernel
theorem dX9_batchFaults_173 : decode cX9_batchFaults 173 = .ok (.invokestatic 86, 3) := by decide +kernel
theorem dX9_batchFaults_176 : decode cX9_batchFaults 176 = .ok (.aload_n 0, 1) := by decide +kernel
theorem dX9_batchFaults_177 : decode cX9_batchFaults 177 = .ok (.getfield 22, 3) := by decide +kernel
theorem dX9_batchFaults_180 : decode cX9_batchFaults 180 = .ok (.getfield 36, 3) := by decide +kernel
theorem dX9_batchFaults_183 : decode cX9_batchFaults 183 = .ok (.aload_n 1, 1) := by decide +kernel
theorem dX9_batchFaults_184 : decode cX9_batchFaults 184 = .ok (.getfield 103, 3) := by decide +kernel
theorem dX9_batchFaults_187 : decode cX9_batchFaults 187 = .ok (.iload_n 3, 1) := by decide +kernel
theorem dX9_batchFaults_188 : decode cX9_batchFaults 188 = .ok (.iaload, 1) := by decide +kernel
theorem dX9_batchFaults_189 : decode cX9_batchFaults 189 = .ok (.invokestatic 97, 3) := by decide +kernel
theorem dX9_batchFaults_192 : decode cX9_batchFaults 192 = .ok (.i2l, 1) := by decide +kernel
theorem dX9_batchFaults_193 : decode cX9_batchFaults 193 = .ok (.ladd, 1) := by decide +kernel
theorem dX9_batchFaults_194 : decode cX9_batchFaults 194 = .ok (.lconst 1, 1) := by decide +kernel
theorem dX9_batchFaults_195 : decode cX9_batchFaults 195 = .ok (.ladd, 1) := by decide +kernel
theorem dX9_batchFaults_196 : decode cX9_batchFaults 196 = .ok (.lstore 4, 2) := by decide +kernel
theorem dX9_batchFaults_198 : decode cX9_batchFaults 198 = .ok (.aload_n 1, 1) := by decide +kernel
theorem dX9_batchFaults_199 : decode cX9_batchFaults 199 = .ok (.getfield 103, 3) := by decide +kernel
theorem dX9_batchFaults_202 : decode cX9_batchFaults 202 = .ok (.iload_n 3, 1) := by decide +kernel
theorem dX9_batchFaults_203 : decode cX9_batchFaults 203 = .ok (.iaload, 1) := by decide +kernel
theorem dX9_batchFaults_204 : decode cX9_batchFaults 204 = .ok (.iload 10, 2) := by decide +kernel
theorem dX9_batchFaults_206 : decode cX9_batchFaults 206 = .ok (.iadd, 1) := by decide +kernel
theorem dX9_batchFaults_207 : decode cX9_batchFaults 207 = .ok (.istore 7, 2) := by decide +kernel
theorem dX9_batchFaults_209 : decode cX9_batchFaults 209 = .ok (.iinc 3 1, 3) := by decide +kernel
theorem dX9_batchFaults_212 : decode cX9_batchFaults 212 = .ok (.iinc 9 1, 3) := by decide +kernel
theorem dX9_batchFaults_215 : decode cX9_batchFaults 215 = .ok (.goto (-165), 3) := by decide +kernel
theorem dX9_batchFaults_218 : decode cX9_batchFaults 218 = .ok (.iload 7, 2) := by decide +kernel
theorem dX9_batchFaults_220 : decode cX9_batchFaults 220 = .ok (.iload 8, 2) := by decide +kernel
theorem dX9_batchFaults_222 : decode cX9_batchFaults 222 = .ok (.if_icmp .eq 6, 3) := by decide +kernel
theorem dX9_batchFaults_225 : decode cX9_batchFaults 225 = .ok (.iinc 2 1, 3) := by decide +kernel
theorem dX9_batchFaults_228 : decode cX9_batchFaults 228 = .ok (.iinc 6 1, 3) := by decide +kernel
theorem dX9_batchFaults_231 : decode cX9_batchFaults 231 = .ok (.goto (-218), 3) := by decide +kernel
theorem dX9_batchFaults_234 : decode cX9_batchFaults 234 = .ok (.iload_n 2, 1) := by decide +kernel
theorem dX9_batchFaults_235 : decode cX9_batchFaults 235 = .ok (.ireturn, 1) := by decide +kernel
theorem dX9_isInOrder_0 : decode cX9_isInOrder 0 = .ok (.aload_n 0, 1) := by decide +kernel
theorem dX9_isInOrder_1 : decode cX9_isInOrder 1 = .ok (.getfield 22, 3) := by decide +kernel
theorem dX9_isInOrder_4 : decode cX9_isInOrder 4 = .ok (.getfield 36, 3) := by decide +kernel
theorem dX9_isInOrder_7 : decode cX9_isInOrder 7 = .ok (.iload_n 2, 1) := by decide +kernel
theorem dX9_isInOrder_8 : decode cX9_isInOrder 8 = .ok (.invokestatic 86, 3) := by decide +kernel
theorem dX9_isInOrder_11 : decode cX9_isInOrder 11 = .ok (.lstore 5, 2) := by decide +kernel
theorem dX9_isInOrder_13 : decode cX9_isInOrder 13 = .ok (.lload 5, 2) := by decide +kernel
theorem dX9_isInOrder_15 : decode cX9_isInOrder 15 = .ok (.lload_n 3, 1) := by decide +kernel
theorem dX9_isInOrder_16 : decode cX9_isInOrder 16 = .ok (.lcmp, 1) := by decide +kernel
theorem dX9_isInOrder_17 : decode cX9_isInOrder 17 = .ok (.ifCond .lt 30, 3) := by decide +kernel
theorem dX9_isInOrder_20 : decode cX9_isInOrder 20 = .ok (.lload 5, 2) := by decide +kernel
theorem dX9_isInOrder_22 : decode cX9_isInOrder 22 = .ok (.aload_n 0, 1) := by decide +kernel
theorem dX9_isInOrder_23 : decode cX9_isInOrder 23 = .ok (.getfield 22, 3) := by decide +kernel
theorem dX9_isInOrder_26 : decode cX9_isInOrder 26 = .ok (.getfield 36, 3) := by decide +kernel
theorem dX9_isInOrder_29 : decode cX9_isInOrder 29 = .ok (.iload_n 2, 1) := by decide +kernel
theorem dX9_isInOrder_30 : decode cX9_isInOrder 30 = .ok (.invokestatic 97, 3) := by decide +kernel
theorem dX9_isInOrder_33 : decode cX9_isInOrder 33 = .ok (.i2l, 1) := by decide +kernel
theorem dX9_isInOrder_34 : decode cX9_isInOrder 34 = .ok (.ladd, 1) := by decide +kernel
theorem dX9_isInOrder_35 : decode cX9_isInOrder 35 = .ok (.aload_n 1, 1) := by decide +kernel
theorem dX9_isInOrder_36 : decode cX9_isInOrder 36 = .ok (.getfield 126, 3) := by decide +kernel
theorem dX9_isInOrder_39 : decode cX9_isInOrder 39 = .ok (.lcmp, 1) := by decide +kernel
theorem dX9_isInOrder_40 : decode cX9_isInOrder 40 = .ok (.ifCond .ge 7, 3) := by decide +kernel
theorem dX9_isInOrder_43 : decode cX9_isInOrder 43 = .ok (.iconst 1, 1) := by decide +kernel
theorem dX9_isInOrder_44 : decode cX9_isInOrder 44 = .ok (.goto 4, 3) := by decide +kernel
theorem dX9_isInOrder_47 : decode cX9_isInOrder 47 = .ok (.iconst 0, 1) := by decide +kernel
theorem dX9_isInOrder_48 : decode cX9_isInOrder 48 = .ok (.ireturn, 1) := by decide +kernel
theorem dX10_init_0 : decode cX10_init 0 = .ok (.aload_n 0, 1) := by decide +kernel
theorem dX10_init_1 : decode cX10_init 1 = .ok (.invokespecial 3, 3) := by decide +kernel
theorem dX10_init_4 : decode cX10_init 4 = .ok (.return_, 1) := by decide +kernel
theorem dX10_read_0 : decode cX10_read 0 = .ok (.aload_n 0, 1) := by decide +kernel
theorem dX10_read_1 : decode cX10_read 1 = .ok (.iconst 1, 1) := by decide +kernel
theorem dX10_read_2 : decode cX10_read 2 = .ok (.putfield 9, 3) := by decide +kernel
theorem dX10_read_5 : decode cX10_read 5 = .ok (.aload_n 0, 1) := by decide +kernel
theorem dX10_read_6 : decode cX10_read 6 = .ok (.iload_n 2, 1) := by decide +kernel
theorem dX10_read_7 : decode cX10_read 7 = .ok (.putfield 15, 3) := by decide +kernel
theorem dX10_read_10 : decode cX10_read 10 = .ok (.aload_n 0, 1) := by decide +kernel
theorem dX10_read_11 : decode cX10_read 11 = .ok (.aload_n 1, 1) := by decide +kernel
theorem dX10_read_12 : decode cX10_read 12 = .ok (.iload_n 3, 1) := by decide +kernel
theorem dX10_read_13 : decode cX10_read 13 = .ok (.invokevirtual 19, 3) := by decide +kernel
theorem dX10_read_16 : decode cX10_read 16 = .ok (.lstore 4, 2) := by decide +kernel
theorem dX10_read_18 : decode cX10_read 18 = .ok (.aload_n 0, 1) := by decide +kernel
theorem dX10_read_19 : decode cX10_read 19 = .ok (.getfield 9, 3) := by decide +kernel
theorem dX10_read_22 : decode cX10_read 22 = .ok (.ifCond .eq 23, 3) := by decide +kernel
theorem dX10_read_25 : decode cX10_read 25 = .ok (.lload 4, 2) := by decide +kernel
theorem dX10_read_27 : decode cX10_read 27 = .ok (.lconst 0, 1) := by decide +kernel
theorem dX10_read_28 : decode cX10_read 28 = .ok (.lcmp, 1) := by decide +kernel
theorem dX10_read_29 : decode cX10_read 29 = .ok (.ifCond .lt 16, 3) := by decide +kernel
theorem dX10_read_32 : decode cX10_read 32 = .ok (.lload 4, 2) := by decide +kernel
theorem dX10_read_34 : decode cX10_read 34 = .ok (.iload_n 3, 1) := by decide +kernel
theorem dX10_read_35 : decode cX10_read 35 = .ok (.aload_n 0, 1) := by decide +kernel
theorem dX10_read_36 : decode cX10_read 36 = .ok (.getfield 15, 3) := by decide +kernel
theorem dX10_read_39 : decode cX10_read 39 = .ok (.isub, 1) := by decide +kernel
theorem dX10_read_40 : decode cX10_read 40 = .ok (.i2l, 1) := by decide +kernel
theorem dX10_read_41 : decode cX10_read 41 = .ok (.lcmp, 1) := by decide +kernel
theorem dX10_read_42 : decode cX10_read 42 = .ok (.ifCond .le 5, 3) := by decide +kernel
theorem dX10_read_45 : decode cX10_read 45 = .ok (.iconst 0, 1) := by decide +kernel
theorem dX10_read_46 : decode cX10_read 46 = .ok (.ireturn, 1) := by decide +kernel
theorem dX10_read_47 : decode cX10_read 47 = .ok (.aload_n 0, 1) := by decide +kernel
theorem dX10_read_48 : decode cX10_read 48 = .ok (.getfield 15, 3) := by decide +kernel
theorem dX10_read_51 : decode cX10_read 51 = .ok (.lload 4, 2) := by decide +kernel
theorem dX10_read_53 : decode cX10_read 53 = .ok (.l2i, 1) := by decide +kernel
theorem dX10_read_54 : decode cX10_read 54 = .ok (.iadd, 1) := by decide +kernel
theorem dX10_read_55 : decode cX10_read 55 = .ok (.istore 6, 2) := by decide +kernel
theorem dX10_read_57 : decode cX10_read 57 = .ok (.aload_n 0, 1) := by decide +kernel
theorem dX10_read_58 : decode cX10_read 58 = .ok (.aload_n 1, 1) := by decide +kernel
theorem dX10_read_59 : decode cX10_read 59 = .ok (.iload 6, 2) := by decide +kernel
theorem dX10_read_61 : decode cX10_read 61 = .ok (.invokevirtual 23, 3) := by decide +kernel
theorem dX10_read_64 : decode cX10_read 64 = .ok (.aload_n 0, 1) := by decide +kernel
theorem dX10_read_65 : decode cX10_read 65 = .ok (.aload_n 0, 1) := by decide +kernel
theorem dX10_read_66 : decode cX10_read 66 = .ok (.aload_n 1, 1) := by decide +kernel
theorem dX10_read_67 : decode cX10_read 67 = .ok (.iload 6, 2) := by decide +kernel
theorem dX10_read_69 : decode cX10_read 69 = .ok (.invokevirtual 19, 3) := by decide +kernel
theorem dX10_read_72 : decode cX10_read 72 = .ok (.putfield 27, 3) := by decide +kernel
theorem dX10_read_75 : decode cX10_read 75 = .ok (.aload_n 0, 1) := by decide +kernel
theorem dX10_read_76 : decode cX10_read 76 = .ok (.aload_n 0, 1) := by decide +kernel
theorem dX10_read_77 : decode cX10_read 77 = .ok (.aload_n 1, 1) := by decide +kernel
theorem dX10_read_78 : decode cX10_read 78 = .ok (.iload 6, 2) := by decide +kernel
theorem dX10_read_80 : decode cX10_read 80 = .ok (.invokevirtual 19, 3) := by decide +kernel
theorem dX10_read_83 : decode cX10_read 83 = .ok (.putfield 31, 3) := by decide +kernel
theorem dX10_read_86 : decode cX10_read 86 = .ok (.aload_n 0, 1) := by decide +kernel
theorem dX10_read_87 : decode cX10_read 87 = .ok (.aload_n 0, 1) := by decide +kernel
theorem dX10_read_88 : decode cX10_read 88 = .ok (.aload_n 1, 1) := by decide +kernel
theorem dX10_read_89 : decode cX10_read 89 = .ok (.iload 6, 2) := by decide +kernel
theorem dX10_read_91 : decode cX10_read 91 = .ok (.invokevirtual 34, 3) := by decide +kernel
theorem dX10_read_94 : decode cX10_read 94 = .ok (.putfield 38, 3) := by decide +kernel
theorem dX10_read_97 : decode cX10_read 97 = .ok (.aload_n 0, 1) := by decide +kernel
theorem dX10_read_98 : decode cX10_read 98 = .ok (.aload_n 0, 1) := by decide +kernel
theorem dX10_read_99 : decode cX10_read 99 = .ok (.getfield 15, 3) := by decide +kernel
theorem dX10_read_102 : decode cX10_read 102 = .ok (.aload_n 0, 1) := by decide +kernel
theorem dX10_read_103 : decode cX10_read 103 = .ok (.getfield 38, 3) := by decide +kernel
theorem dX10_read_106 : decode cX10_read 106 = .ok (.iconst 0, 1) := by decide +kernel
theorem dX10_read_107 : decode cX10_read 107 = .ok (.invokestatic 41, 3) := by decide +kernel
theorem dX10_read_110 : decode cX10_read 110 = .ok (.isub, 1) := by decide +kernel
theorem dX10_read_111 : decode cX10_read 111 = .ok (.putfield 47, 3) := by decide +kernel
theorem dX10_read_114 : decode cX10_read 114 = .ok (.aload_n 0, 1) := by decide +kernel
theorem dX10_read_115 : decode cX10_read 115 = .ok (.aload_n 0, 1) := by decide +kernel
theorem dX10_read_116 : decode cX10_read 116 = .ok (.aload_n 1, 1) := by decide +kernel
theorem dX10_read_117 : decode cX10_read 117 = .ok (.iload 6, 2) := by decide +kernel
theorem dX10_read_119 : decode cX10_read 119 = .ok (.invokevirtual 34, 3) := by decide +kernel
theorem dX10_read_122 : decode cX10_read 122 = .ok (.putfield 50, 3) := by decide +kernel
theorem dX10_read_125 : decode cX10_read 125 = .ok (.aload_n 0, 1) := by decide +kernel
theorem dX10_read_126 : decode cX10_read 126 = .ok (.aload_n 0, 1) := by decide +kernel
theorem dX10_read_127 : decode cX10_read 127 = .ok (.getfield 15, 3) := by decide +kernel
theorem dX10_read_130 : decode cX10_read 130 = .ok (.aload_n 0, 1) := by decide +kernel
theorem dX10_read_131 : decode cX10_read 131 = .ok (.getfield 50, 3) := by decide +kernel
theorem dX10_read_134 : decode cX10_read 134 = .ok (.iconst 0, 1) := by decide +kernel
theorem dX10_read_135 : decode cX10_read 135 = .ok (.invokestatic 41, 3) := by decide +kernel
theorem dX10_read_138 : decode cX10_read 138 = .ok (.isub, 1) := by decide +kernel
theorem dX10_read_139 : decode cX10_read 139 = .ok (.putfield 53, 3) := by decide +kernel
theorem dX10_read_142 : decode cX10_read 142 = .ok (.aload_n 0, 1) := by decide +kernel
theorem dX10_read_143 : decode cX10_read 143 = .ok (.aload_n 1, 1) := by decide +kernel
theorem dX10_read_144 : decode cX10_read 144 = .ok (.iload 6, 2) := by decide +kernel
theorem dX10_read_146 : decode cX10_read 146 = .ok (.invokevirtual 23, 3) := by decide +kernel
theorem dX10_read_149 : decode cX10_read 149 = .ok (.aload_n 0, 1) := by decide +kernel
theorem dX10_read_150 : decode cX10_read 150 = .ok (.getfield 9, 3) := by decide +kernel
theorem dX10_read_153 : decode cX10_read 153 = .ok (.ifCond .eq 16, 3) := by decide +kernel
theorem dX10_read_156 : decode cX10_read 156 = .ok (.aload_n 0, 1) := by decide +kernel
theorem dX10_read_157 : decode cX10_read 157 = .ok (.getfield 15, 3) := by decide +kernel
theorem dX10_read_160 : decode cX10_read 160 = .ok (.iload 6, 2) := by decide +kernel
theorem dX10_read_162 : decode cX10_read 162 = .ok (.if_icmp .ne 7, 3) := by decide +kernel
theorem dX10_read_165 : decode cX10_read 165 = .ok (.iconst 1, 1) := by decide +kernel
theorem dX10_read_166 : decode cX10_read 166 = .ok (.goto 4, 3) := by decide +kernel
theorem dX10_read_169 : decode cX10_read 169 = .ok (.iconst 0, 1) := by decide +kernel
theorem dX10_read_170 : decode cX10_read 170 = .ok (.ireturn, 1) := by decide +kernel
theorem dX10_readZero_0 : decode cX10_readZero 0 = .ok (.aload_n 0, 1) := by decide +kernel
theorem dX10_readZero_1 : decode cX10_readZero 1 = .ok (.getfield 15, 3) := by decide +kernel
theorem dX10_readZero_4 : decode cX10_readZero 4 = .ok (.iload_n 2, 1) := by decide +kernel
theorem dX10_readZero_5 : decode cX10_readZero 5 = .ok (.if_icmp .ge 25, 3) := by decide +kernel
theorem dX10_readZero_8 : decode cX10_readZero 8 = .ok (.aload_n 1, 1) := by decide +kernel
theorem dX10_readZero_9 : decode cX10_readZero 9 = .ok (.aload_n 0, 1) := by decide +kernel
theorem dX10_readZero_10 : decode cX10_readZero 10 = .ok (.getfield 15, 3) := by decide +kernel
theorem dX10_readZero_13 : decode cX10_readZero 13 = .ok (.baload, 1) := by decide +kernel
theorem dX10_readZero_14 : decode cX10_readZero 14 = .ok (.ifCond .ne 16, 3) := by decide +kernel
theorem dX10_readZero_17 : decode cX10_readZero 17 = .ok (.aload_n 0, 1) := by decide +kernel
theorem dX10_readZero_18 : decode cX10_readZero 18 = .ok (.dup, 1) := by decide +kernel
theorem dX10_readZero_19 : decode cX10_readZero 19 = .ok (.getfield 15, 3) := by decide +kernel
theorem dX10_readZero_22 : decode cX10_readZero 22 = .ok (.iconst 1, 1) := by decide +kernel
theorem dX10_readZero_23 : decode cX10_readZero 23 = .ok (.iadd, 1) := by decide +kernel
theorem dX10_readZero_24 : decode cX10_readZero 24 = .ok (.putfield 15, 3) := by decide +kernel
theorem dX10_readZero_27 : decode cX10_readZero 27 = .ok (.goto 8, 3) := by decide +kernel
theorem dX10_readZero_30 : decode cX10_readZero 30 = .ok (.aload_n 0, 1) := by decide +kernel
theorem dX10_readZero_31 : decode cX10_readZero 31 = .ok (.iconst 0, 1) := by decide +kernel
theorem dX10_readZero_32 : decode cX10_readZero 32 = .ok (.putfield 9, 3) := by decide +kernel
theorem dX10_readZero_35 : decode cX10_readZero 35 = .ok (.return_, 1) := by decide +kernel
theorem dX10_readText_0 : decode cX10_readText 0 = .ok (.aload_n 0, 1) := by decide +kernel
theorem dX10_readText_1 : decode cX10_readText 1 = .ok (.aload_n 1, 1) := by decide +kernel
theorem dX10_readText_2 : decode cX10_readText 2 = .ok (.iload_n 2, 1) := by decide +kernel
theorem dX10_readText_3 : decode cX10_readText 3 = .ok (.invokevirtual 19, 3) := by decide +kernel
theorem dX10_readText_6 : decode cX10_readText 6 = .ok (.lstore_n 3, 1) := by decide +kernel
theorem dX10_readText_7 : decode cX10_readText 7 = .ok (.lload_n 3, 1) := by decide +kernel
theorem dX10_readText_8 : decode cX10_readText 8 = .ok (.ldc2_w 56, 3) := by decide +kernel
theorem dX10_readText_11 : decode cX10_readText 11 = .ok (.lcmp, 1) := by decide +kernel
theorem dX10_readText_12 : decode cX10_readText 12 = .ok (.ifCond .lt 15, 3) := by decide +kernel
theorem dX10_readText_15 : decode cX10_readText 15 = .ok (.lload_n 3, 1) := by decide +kernel
theorem dX10_readText_16 : decode cX10_readText 16 = .ok (.iload_n 2, 1) := by decide +kernel
theorem dX10_readText_17 : decode cX10_readText 17 = .ok (.aload_n 0, 1) := by decide +kernel
theorem dX10_readText_18 : decode cX10_readText 18 = .ok (.getfield 15, 3) := by decide +kernel
theorem dX10_readText_21 : decode cX10_readText 21 = .ok (.isub, 1) := by decide +kernel
theorem dX10_readText_22 : decode cX10_readText 22 = .ok (.i2l, 1) := by decide +kernel
theorem dX10_readText_23 : decode cX10_readText 23 = .ok (.lcmp, 1) := by decide +kernel
theorem dX10_readText_24 : decode cX10_readText 24 = .ok (.ifCond .le 10, 3) := by decide +kernel
theorem dX10_readText_27 : decode cX10_readText 27 = .ok (.aload_n 0, 1) := by decide +kernel
theorem dX10_readText_28 : decode cX10_readText 28 = .ok (.iconst 0, 1) := by decide +kernel
theorem dX10_readText_29 : decode cX10_readText 29 = .ok (.putfield 9, 3) := by decide +kernel
theorem dX10_readText_32 : decode cX10_readText 32 = .ok (.iconst (-1), 1) := by decide +kernel
theorem dX10_readText_33 : decode cX10_readText 33 = .ok (.ireturn, 1) := by decide +kernel
theorem dX10_readText_34 : decode cX10_readText 34 = .ok (.aload_n 0, 1) := by decide +kernel
theorem dX10_readText_35 : decode cX10_readText 35 = .ok (.dup, 1) := by decide +kernel
theorem dX10_readText_36 : decode cX10_readText 36 = .ok (.getfield 15, 3) := by decide +kernel
theorem dX10_readText_39 : decode cX10_readText 39 = .ok (.lload_n 3, 1) := by decide +kernel
theorem dX10_readText_40 : decode cX10_readText 40 = .ok (.lconst 0, 1) := by decide +kernel
theorem dX10_readText_41 : decode cX10_readText 41 = .ok (.invokestatic 58, 3) := by decide +kernel
theorem dX10_readText_44 : decode cX10_readText 44 = .ok (.l2i, 1) := by decide +kernel
theorem dX10_readText_45 : decode cX10_readText 45 = .ok (.iadd, 1) := by decide +kernel
theorem dX10_readText_46 : decode cX10_readText 46 = .ok (.putfield 15, 3) := by decide +kernel
theorem dX10_readText_49 : decode cX10_readText 49 = .ok (.lload_n 3, 1) := by decide +kernel
theorem dX10_readText_50 : decode cX10_readText 50 = .ok (.l2i, 1) := by decide +kernel
theorem dX10_readText_51 : decode cX10_readText 51 = .ok (.ireturn, 1) := by decide +kernel
theorem dX10_readVarint_0 : decode cX10_readVarint 0 = .ok (.lconst 0, 1) := by decide +kernel
theorem dX10_readVarint_1 : decode cX10_readVarint 1 = .ok (.lstore_n 3, 1) := by decide +kernel
theorem dX10_readVarint_2 : decode cX10_readVarint 2 = .ok (.iconst 0, 1) := by decide +kernel
theorem dX10_readVarint_3 : decode cX10_readVarint 3 = .ok (.istore 5, 2) := by decide +kernel
theorem dX10_readVarint_5 : decode cX10_readVarint 5 = .ok (.iload 5, 2) := by decide +kernel
theorem dX10_readVarint_7 : decode cX10_readVarint 7 = .ok (.bipush 10, 2) := by decide +kernel
theorem dX10_readVarint_9 : decode cX10_readVarint 9 = .ok (.if_icmp .ge 127, 3) := by decide +kernel
theorem dX10_readVarint_12 : decode cX10_readVarint 12 = .ok (.aload_n 0, 1) := by decide +kernel
theorem dX10_readVarint_13 : decode cX10_readVarint 13 = .ok (.getfield 15, 3) := by decide +kernel
theorem dX10_readVarint_16 : decode cX10_readVarint 16 = .ok (.iload_n 2, 1) := by decide +kernel
theorem dX10_readVarint_17 : decode cX10_readVarint 17 = .ok (.if_icmp .ge 119, 3) := by decide +kernel
theorem dX10_readVarint_20 : decode cX10_readVarint 20 = .ok (.aload_n 1, 1) := by decide +kernel
theorem dX10_readVarint_21 : decode cX10_readVarint 21 = .ok (.aload_n 0, 1) := by decide +kernel
theorem dX10_readVarint_22 : decode cX10_readVarint 22 = .ok (.getfield 15, 3) := by decide +kernel
theorem dX10_readVarint_25 : decode cX10_readVarint 25 = .ok (.baload, 1) := by decide +kernel
theorem dX10_readVarint_26 : decode cX10_readVarint 26 = .ok (.istore 6, 2) := by decide +kernel
theorem dX10_readVarint_28 : decode cX10_readVarint 28 = .ok (.aload_n 0, 1) := by decide +kernel
theorem dX10_readVarint_29 : decode cX10_readVarint 29 = .ok (.dup, 1) := by decide +kernel
theorem dX10_readVarint_30 : decode cX10_readVarint 30 = .ok (.getfield 15, 3) := by decide +kernel
theorem dX10_readVarint_33 : decode cX10_readVarint 33 = .ok (.iconst 1, 1) := by decide +kernel
theorem dX10_readVarint_34 : decode cX10_readVarint 34 = .ok (.iadd, 1) := by decide +kernel
theorem dX10_readVarint_35 : decode cX10_readVarint 35 = .ok (.putfield 15, 3) := by decide +kernel
theorem dX10_readVarint_38 : decode cX10_readVarint 38 = .ok (.lload_n 3, 1) := by decide +kernel
theorem dX10_readVarint_39 : decode cX10_readVarint 39 = .ok (.iload 6, 2) := by decide +kernel
theorem dX10_readVarint_41 : decode cX10_readVarint 41 = .ok (.bipush 127, 2) := by decide +kernel
theorem dX10_readVarint_43 : decode cX10_readVarint 43 = .ok (.iand, 1) := by decide +kernel
theorem dX10_readVarint_44 : decode cX10_readVarint 44 = .ok (.i2l, 1) := by decide +kernel
theorem dX10_readVarint_45 : decode cX10_readVarint 45 = .ok (.bipush 7, 2) := by decide +kernel
theorem dX10_readVarint_47 : decode cX10_readVarint 47 = .ok (.iload 5, 2) := by decide +kernel
theorem dX10_readVarint_49 : decode cX10_readVarint 49 = .ok (.imul, 1) := by decide +kernel
theorem dX10_readVarint_50 : decode cX10_readVarint 50 = .ok (.lshl, 1) := by decide +kernel
theorem dX10_readVarint_51 : decode cX10_readVarint 51 = .ok (.lor, 1) := by decide +kernel
theorem dX10_readVarint_52 : decode cX10_readVarint 52 = .ok (.lstore_n 3, 1) := by decide +kernel
theorem dX10_readVarint_53 : decode cX10_readVarint 53 = .ok (.iload 6, 2) := by decide +kernel
theorem dX10_readVarint_55 : decode cX10_readVarint 55 = .ok (.ifCond .lt 75, 3) := by decide +kernel
theorem dX10_readVarint_58 : decode cX10_readVarint 58 = .ok (.iload 5, 2) := by decide +kernel
theorem dX10_readVarint_60 : decode cX10_readVarint 60 = .ok (.ifCond .le 12, 3) := by decide +kernel
theorem dX10_readVarint_63 : decode cX10_readVarint 63 = .ok (.iload 6, 2) := by decide +kernel
theorem dX10_readVarint_65 : decode cX10_readVarint 65 = .ok (.ifCond .ne 7, 3) := by decide +kernel
theorem dX10_readVarint_68 : decode cX10_readVarint 68 = .ok (.iconst 1, 1) := by decide +kernel
theorem dX10_readVarint_69 : decode cX10_readVarint 69 = .ok (.goto 4, 3) := by decide +kernel
theorem dX10_readVarint_72 : decode cX10_readVarint 72 = .ok (.iconst 0, 1) := by decide +kernel
theorem dX10_readVarint_73 : decode cX10_readVarint 73 = .ok (.istore 7, 2) := by decide +kernel
theorem dX10_readVarint_75 : decode cX10_readVarint 75 = .ok (.iload 5, 2) := by decide +kernel
theorem dX10_readVarint_77 : decode cX10_readVarint 77 = .ok (.bipush 9, 2) := by decide +kernel
theorem dX10_readVarint_79 : decode cX10_readVarint 79 = .ok (.if_icmp .ne 13, 3) := by decide +kernel
theorem dX10_readVarint_82 : decode cX10_readVarint 82 = .ok (.iload 6, 2) := by decide +kernel
theorem dX10_readVarint_84 : decode cX10_readVarint 84 = .ok (.iconst 1, 1) := by decide +kernel
theorem dX10_readVarint_85 : decode cX10_readVarint 85 = .ok (.if_icmp .eq 7, 3) := by decide +kernel
theorem dX10_readVarint_88 : decode cX10_readVarint 88 = .ok (.iconst 1, 1) := by decide +kernel
theorem dX10_readVarint_89 : decode cX10_readVarint 89 = .ok (.goto 4, 3) := by decide +kernel
theorem dX10_readVarint_92 : decode cX10_readVarint 92 = .ok (.iconst 0, 1) := by decide +kernel
theorem dX10_readVarint_93 : decode cX10_readVarint 93 = .ok (.istore 8, 2) := by decide +kernel
theorem dX10_readVarint_95 : decode cX10_readVarint 95 = .ok (.aload_n 0, 1) := by decide +kernel
theorem dX10_readVarint_96 : decode cX10_readVarint 96 = .ok (.aload_n 0, 1) := by decide +kernel
theorem dX10_readVarint_97 : decode cX10_readVarint 97 = .ok (.getfield 9, 3) := by decide +kernel
theorem dX10_readVarint_100 : decode cX10_readVarint 100 = .ok (.ifCond .eq 17, 3) := by decide +kernel
theorem dX10_readVarint_103 : decode cX10_readVarint 103 = .ok (.iload 7, 2) := by decide +kernel
theorem dX10_readVarint_105 : decode cX10_readVarint 105 = .ok (.ifCond .ne 12, 3) := by decide +kernel
theorem dX10_readVarint_108 : decode cX10_readVarint 108 = .ok (.iload 8, 2) := by decide +kernel
theorem dX10_readVarint_110 : decode cX10_readVarint 110 = .ok (.ifCond .ne 7, 3) := by decide +kernel
theorem dX10_readVarint_113 : decode cX10_readVarint 113 = .ok (.iconst 1, 1) := by decide +kernel
theorem dX10_readVarint_114 : decode cX10_readVarint 114 = .ok (.goto 4, 3) := by decide +kernel
theorem dX10_readVarint_117 : decode cX10_readVarint 117 = .ok (.iconst 0, 1) := by decide +kernel
theorem dX10_readVarint_118 : decode cX10_readVarint 118 = .ok (.putfield 9, 3) := by decide +kernel
theorem dX10_readVarint_121 : decode cX10_readVarint 121 = .ok (.lload_n 3, 1) := by decide +kernel
theorem dX10_readVarint_122 : decode cX10_readVarint 122 = .ok (.iconst 1, 1) := by decide +kernel
theorem dX10_readVarint_123 : decode cX10_readVarint 123 = .ok (.lushr, 1) := by decide +kernel
theorem dX10_readVarint_124 : decode cX10_readVarint 124 = .ok (.lload_n 3, 1) := by decide +kernel
theorem dX10_readVarint_125 : decode cX10_readVarint 125 = .ok (.lconst 1, 1) := by decide +kernel
theorem dX10_readVarint_126 : decode cX10_readVarint 126 = .ok (.land, 1) := by decide +kernel
theorem dX10_readVarint_127 : decode cX10_readVarint 127 = .ok (.lneg, 1) := by decide +kernel
theorem dX10_readVarint_128 : decode cX10_readVarint 128 = .ok (.lxor, 1) := by decide +kernel
theorem dX10_readVarint_129 : decode cX10_readVarint 129 = .ok (.lreturn, 1) := by decide +kernel
theorem dX10_readVarint_130 : decode cX10_readVarint 130 = .ok (.iinc 5 1, 3) := by decide +kernel
theorem dX10_readVarint_133 : decode cX10_readVarint 133 = .ok (.goto (-128), 3) := by decide +kernel
theorem dX10_readVarint_136 : decode cX10_readVarint 136 = .ok (.aload_n 0, 1) := by decide +kernel
theorem dX10_readVarint_137 : decode cX10_readVarint 137 = .ok (.iconst 0, 1) := by decide +kernel
theorem dX10_readVarint_138 : decode cX10_readVarint 138 = .ok (.putfield 9, 3) := by decide +kernel
theorem dX10_readVarint_141 : decode cX10_readVarint 141 = .ok (.lconst 0, 1) := by decide +kernel
theorem dX10_readVarint_142 : decode cX10_readVarint 142 = .ok (.lreturn, 1) := by decide +kernel
theorem dX11_init_0 : decode cX11_init 0 = .ok (.aload_n 0, 1) := by decide +kernel
theorem dX11_init_1 : decode cX11_init 1 = .ok (.invokespecial 1, 3) := by decide +kernel
theorem dX11_init_4 : decode cX11_init 4 = .ok (.aload_n 0, 1) := by decide +kernel
theorem dX11_init_5 : decode cX11_init 5 = .ok (.sipush 16384, 3) := by decide +kernel
theorem dX11_init_8 : decode cX11_init 8 = .ok (.newarray .byte, 2) := by decide +kernel
theorem dX11_init_10 : decode cX11_init 10 = .ok (.putfield 9, 3) := by decide +kernel
theorem dX11_init_13 : decode cX11_init 13 = .ok (.aload_n 0, 1) := by decide +kernel
theorem dX11_init_14 : decode cX11_init 14 = .ok (.new 13, 3) := by decide +kernel
theorem dX11_init_17 : decode cX11_init 17 = .ok (.dup, 1) := by decide +kernel
theorem dX11_init_18 : decode cX11_init 18 = .ok (.invokespecial 15, 3) := by decide +kernel
theorem dX11_init_21 : decode cX11_init 21 = .ok (.putfield 16, 3) := by decide +kernel
theorem dX11_init_24 : decode cX11_init 24 = .ok (.aload_n 0, 1) := by decide +kernel
theorem dX11_init_25 : decode cX11_init 25 = .ok (.new 20, 3) := by decide +kernel
theorem dX11_init_28 : decode cX11_init 28 = .ok (.dup, 1) := by decide +kernel
theorem dX11_init_29 : decode cX11_init 29 = .ok (.invokespecial 22, 3) := by decide +kernel
theorem dX11_init_32 : decode cX11_init 32 = .ok (.putfield 23, 3) := by decide +kernel
theorem dX11_init_35 : decode cX11_init 35 = .ok (.aload_n 0, 1) := by decide +kernel
theorem dX11_init_36 : decode cX11_init 36 = .ok (.new 27, 3) := by decide +kernel
theorem dX11_init_39 : decode cX11_init 39 = .ok (.dup, 1) := by decide +kernel
theorem dX11_init_40 : decode cX11_init 40 = .ok (.invokespecial 29, 3) := by decide +kernel
theorem dX11_init_43 : decode cX11_init 43 = .ok (.putfield 30, 3) := by decide +kernel
theorem dX11_init_46 : decode cX11_init 46 = .ok (.aload_n 0, 1) := by decide +kernel
theorem dX11_init_47 : decode cX11_init 47 = .ok (.bipush 8, 2) := by decide +kernel
theorem dX11_init_49 : decode cX11_init 49 = .ok (.newarray .byte, 2) := by decide +kernel
theorem dX11_init_51 : decode cX11_init 51 = .ok (.putfield 34, 3) := by decide +kernel
theorem dX11_init_54 : decode cX11_init 54 = .ok (.iconst 1, 1) := by decide +kernel
theorem dX11_init_55 : decode cX11_init 55 = .ok (.iload_n 1, 1) := by decide +kernel
theorem dX11_init_56 : decode cX11_init 56 = .ok (.bipush 8, 2) := by decide +kernel
theorem dX11_init_58 : decode cX11_init 58 = .ok (.invokestatic 37, 3) := by decide +kernel
theorem dX11_init_61 : decode cX11_init 61 = .ok (.invokestatic 43, 3) := by decide +kernel
theorem dX11_init_64 : decode cX11_init 64 = .ok (.istore 4, 2) := by decide +kernel
theorem dX11_init_66 : decode cX11_init 66 = .ok (.new 46, 3) := by decide +kernel
theorem dX11_init_69 : decode cX11_init 69 = .ok (.dup, 1) := by decide +kernel
theorem dX11_init_70 : decode cX11_init 70 = .ok (.bipush 32, 2) := by decide +kernel
theorem dX11_init_72 : decode cX11_init 72 = .ok (.iload_n 3, 1) := by decide +kernel
theorem dX11_init_73 : decode cX11_init 73 = .ok (.sipush 256, 3) := by decide +kernel
theorem dX11_init_76 : decode cX11_init 76 = .ok (.invokestatic 37, 3) := by decide +kernel
theorem dX11_init_79 : decode cX11_init 79 = .ok (.invokestatic 43, 3) := by decide +kernel
theorem dX11_init_82 : decode cX11_init 82 = .ok (.invokespecial 48, 3) := by decide +kernel
theorem dX11_init_85 : decode cX11_init 85 = .ok (.astore 5, 2) := by decide +kernel
theorem dX11_init_87 : decode cX11_init 87 = .ok (.new 51, 3) := by decide +kernel
theorem dX11_init_90 : decode cX11_init 90 = .ok (.dup, 1) := by decide +kernel
theorem dX11_init_91 : decode cX11_init 91 = .ok (.aload 5, 2) := by decide +kernel
theorem dX11_init_93 : decode cX11_init 93 = .ok (.iload 4, 2) := by decide +kernel
theorem dX11_init_95 : decode cX11_init 95 = .ok (.iconst 1, 1) := by decide +kernel
theorem dX11_init_96 : decode cX11_init 96 = .ok (.iload_n 2, 1) := by decide +kernel
theorem dX11_init_97 : decode cX11_init 97 = .ok (.bipush 16, 2) := by decide +kernel
theorem dX11_init_99 : decode cX11_init 99 = .ok (.invokestatic 37, 3) := by decide +kernel
theorem dX11_init_102 : decode cX11_init 102 = .ok (.invokestatic 43, 3) := by decide +kernel
theorem dX11_init_105 : decode cX11_init 105 = .ok (.invokespecial 53, 3) := by decide +kernel
theorem dX11_init_108 : decode cX11_init 108 = .ok (.astore 6, 2) := by decide +kernel
theorem dX11_init_110 : decode cX11_init 110 = .ok (.aload_n 0, 1) := by decide +kernel
theorem dX11_init_111 : decode cX11_init 111 = .ok (.iload 4, 2) := by decide +kernel
theorem dX11_init_113 : decode cX11_init 113 = .ok (.putfield 56, 3) := by decide +kernel
theorem dX11_init_116 : decode cX11_init 116 = .ok (.aload_n 0, 1) := by decide +kernel
theorem dX11_init_117 : decode cX11_init 117 = .ok (.aload 5, 2) := by decide +kernel
theorem dX11_init_119 : decode cX11_init 119 = .ok (.putfield 60, 3) := by decide +kernel
theorem dX11_init_122 : decode cX11_init 122 = .ok (.aload_n 0, 1) := by decide +kernel
theorem dX11_init_123 : decode cX11_init 123 = .ok (.aload 6, 2) := by decide +kernel
theorem dX11_init_125 : decode cX11_init 125 = .ok (.putfield 64, 3) := by decide +kernel
theorem dX11_init_128 : decode cX11_init 128 = .ok (.aload_n 0, 1) := by decide +kernel
theorem dX11_init_129 : decode cX11_init 129 = .ok (.new 68, 3) := by decide +kernel
theorem dX11_init_132 : decode cX11_init 132 = .ok (.dup, 1) := by decide +kernel
theorem dX11_init_133 : decode cX11_init 133 = .ok (.aload 6, 2) := by decide +kernel
theorem dX11_init_135 : decode cX11_init 135 = .ok (.invokespecial 70, 3) := by decide +kernel
theorem dX11_init_138 : decode cX11_init 138 = .ok (.putfield 73, 3) := by decide +kernel
theorem dX11_init_141 : decode cX11_init 141 = .ok (.aload_n 0, 1) := by decide +kernel
theorem dX11_init_142 : decode cX11_init 142 = .ok (.new 77, 3) := by decide +kernel
theorem dX11_init_145 : decode cX11_init 145 = .ok (.dup, 1) := by decide +kernel
theorem dX11_init_146 : decode cX11_init 146 = .ok (.aload 6, 2) := by decide +kernel
theorem dX11_init_148 : decode cX11_init 148 = .ok (.invokespecial 79, 3) := by decide +kernel
theorem dX11_init_151 : decode cX11_init 151 = .ok (.putfield 80, 3) := by decide +kernel
theorem dX11_init_154 : decode cX11_init 154 = .ok (.return_, 1) := by decide +kernel
theorem dX11_feed_0 : decode cX11_feed 0 = .ok (.aload_n 0, 1) := by decide +kernel
theorem dX11_feed_1 : decode cX11_feed 1 = .ok (.getfield 84, 3) := by decide +kernel
theorem dX11_feed_4 : decode cX11_feed 4 = .ok (.bipush 20, 2) := by decide +kernel
theorem dX11_feed_6 : decode cX11_feed 6 = .ok (.iadd, 1) := by decide +kernel
theorem dX11_feed_7 : decode cX11_feed 7 = .ok (.sipush 16384, 3) := by decide +kernel
theorem dX11_feed_10 : decode cX11_feed 10 = .ok (.if_icmp .gt 7, 3) := by decide +kernel
theorem dX11_feed_13 : decode cX11_feed 13 = .ok (.iconst 1, 1) := by decide +kernel
theorem dX11_feed_14 : decode cX11_feed 14 = .ok (.goto 4, 3) := by decide +kernel
theorem dX11_feed_17 : decode cX11_feed 17 = .ok (.iconst 0, 1) := by decide +kernel
theorem dX11_feed_18 : decode cX11_feed 18 = .ok (.invokestatic 87, 3) := by decide +kernel
theorem dX11_feed_21 : decode cX11_feed 21 = .ok (.aload_n 0, 1) := by decide +kernel
theorem dX11_feed_22 : decode cX11_feed 22 = .ok (.getfield 9, 3) := by decide +kernel
theorem dX11_feed_25 : decode cX11_feed 25 = .ok (.aload_n 0, 1) := by decide +kernel
theorem dX11_feed_26 : decode cX11_feed 26 = .ok (.getfield 84, 3) := by decide +kernel
theorem dX11_feed_29 : decode cX11_feed 29 = .ok (.iconst 4, 1) := by decide +kernel
theorem dX11_feed_30 : decode cX11_feed 30 = .ok (.iload_n 1, 1) := by decide +kernel
theorem dX11_feed_31 : decode cX11_feed 31 = .ok (.i2l, 1) := by decide +kernel
theorem dX11_feed_32 : decode cX11_feed 32 = .ok (.invokestatic 91, 3) := by decide +kernel
theorem dX11_feed_35 : decode cX11_feed 35 = .ok (.aload_n 0, 1) := by decide +kernel
theorem dX11_feed_36 : decode cX11_feed 36 = .ok (.getfield 9, 3) := by decide +kernel
theorem dX11_feed_39 : decode cX11_feed 39 = .ok (.aload_n 0, 1) := by decide +kernel
theorem dX11_feed_40 : decode cX11_feed 40 = .ok (.getfield 84, 3) := by decide +kernel
theorem dX11_feed_43 : decode cX11_feed 43 = .ok (.iconst 4, 1) := by decide +kernel
theorem dX11_feed_44 : decode cX11_feed 44 = .ok (.iadd, 1) := by decide +kernel
theorem dX11_feed_45 : decode cX11_feed 45 = .ok (.iconst 4, 1) := by decide +kernel
theorem dX11_feed_46 : decode cX11_feed 46 = .ok (.iload_n 2, 1) := by decide +kernel
theorem dX11_feed_47 : decode cX11_feed 47 = .ok (.i2l, 1) := by decide +kernel
theorem dX11_feed_48 : decode cX11_feed 48 = .ok (.invokestatic 91, 3) := by decide +kernel
theorem dX11_feed_51 : decode cX11_feed 51 = .ok (.aload_n 0, 1) := by decide +kernel
theorem dX11_feed_52 : decode cX11_feed 52 = .ok (.getfield 9, 3) := by decide +kernel
theorem dX11_feed_55 : decode cX11_feed 55 = .ok (.aload_n 0, 1) := by decide +kernel
theorem dX11_feed_56 : decode cX11_feed 56 = .ok (.getfield 84, 3) := by decide +kernel
theorem dX11_feed_59 : decode cX11_feed 59 = .ok (.bipush 8, 2) := by decide +kernel
theorem dX11_feed_61 : decode cX11_feed 61 = .ok (.iadd, 1) := by decide +kernel
theorem dX11_feed_62 : decode cX11_feed 62 = .ok (.iconst 4, 1) := by decide +kernel
theorem dX11_feed_63 : decode cX11_feed 63 = .ok (.iload_n 3, 1) := by decide +kernel
theorem dX11_feed_64 : decode cX11_feed 64 = .ok (.i2l, 1) := by decide +kernel
theorem dX11_feed_65 : decode cX11_feed 65 = .ok (.invokestatic 91, 3) := by decide +kernel
theorem dX11_feed_68 : decode cX11_feed 68 = .ok (.aload_n 0, 1) := by decide +kernel
theorem dX11_feed_69 : decode cX11_feed 69 = .ok (.getfield 9, 3) := by decide +kernel
theorem dX11_feed_72 : decode cX11_feed 72 = .ok (.aload_n 0, 1) := by decide +kernel
theorem dX11_feed_73 : decode cX11_feed 73 = .ok (.getfield 84, 3) := by decide +kernel
theorem dX11_feed_76 : decode cX11_feed 76 = .ok (.bipush 12, 2) := by decide +kernel
theorem dX11_feed_78 : decode cX11_feed 78 = .ok (.iadd, 1) := by decide +kernel
theorem dX11_feed_79 : decode cX11_feed 79 = .ok (.iconst 4, 1) := by decide +kernel
theorem dX11_feed_80 : decode cX11_feed 80 = .ok (.iload 4, 2) := by decide +kernel
theorem dX11_feed_82 : decode cX11_feed 82 = .ok (.i2l, 1) := by decide +kernel
theorem dX11_feed_83 : decode cX11_feed 83 = .ok (.invokestatic 91, 3) := by decide +kernel
theorem dX11_feed_86 : decode cX11_feed 86 = .ok (.aload_n 0, 1) := by decide +kernel
theorem dX11_feed_87 : decode cX11_feed 87 = .ok (.getfield 9, 3) := by decide +kernel
theorem dX11_feed_90 : decode cX11_feed 90 = .ok (.aload_n 0, 1) := by decide +kernel
theorem dX11_feed_91 : decode cX11_feed 91 = .ok (.getfield 84, 3) := by decide +kernel
theorem dX11_feed_94 : decode cX11_feed 94 = .ok (.bipush 16, 2) := by decide +kernel
theorem dX11_feed_96 : decode cX11_feed 96 = .ok (.iadd, 1) := by decide +kernel
theorem dX11_feed_97 : decode cX11_feed 97 = .ok (.iconst 4, 1) := by decide +kernel
theorem dX11_feed_98 : decode cX11_feed 98 = .ok (.iload 5, 2) := by decide +kernel
theorem dX11_feed_100 : decode cX11_feed 100 = .ok (.i2l, 1) := by decide +kernel
theorem dX11_feed_101 : decode cX11_feed 101 = .ok (.invokestatic 91, 3) := by decide +kernel
theorem dX11_feed_104 : decode cX11_feed 104 = .ok (.aload_n 0, 1) := by decide +kernel
theorem dX11_feed_105 : decode cX11_feed 105 = .ok (.dup, 1) := by decide +kernel
theorem dX11_feed_106 : decode cX11_feed 106 = .ok (.getfield 84, 3) := by decide +kernel
theorem dX11_feed_109 : decode cX11_feed 109 = .ok (.bipush 20, 2) := by decide +kernel
theorem dX11_feed_111 : decode cX11_feed 111 = .ok (.iadd, 1) := by decide +kernel
theorem dX11_feed_112 : decode cX11_feed 112 = .ok (.putfield 84, 3) := by decide +kernel
theorem dX11_feed_115 : decode cX11_feed 115 = .ok (.aload_n 0, 1) := by decide +kernel
theorem dX11_feed_116 : decode cX11_feed 116 = .ok (.getfield 84, 3) := by decide +kernel
theorem dX11_feed_119 : decode cX11_feed 119 = .ok (.ireturn, 1) := by decide +kernel
theorem dX11_trim_0 : decode cX11_trim 0 = .ok (.iload_n 1, 1) := by decide +kernel
theorem dX11_trim_1 : decode cX11_trim 1 = .ok (.i2l, 1) := by decide +kernel
theorem dX11_trim_2 : decode cX11_trim 2 = .ok (.lconst 0, 1) := by decide +kernel
theorem dX11_trim_3 : decode cX11_trim 3 = .ok (.aload_n 0, 1) := by decide +kernel
theorem dX11_trim_4 : decode cX11_trim 4 = .ok (.getfield 84, 3) := by decide +kernel
theorem dX11_trim_7 : decode cX11_trim 7 = .ok (.i2l, 1) := by decide +kernel
theorem dX11_trim_8 : decode cX11_trim 8 = .ok (.invokestatic 97, 3) := by decide +kernel
theorem dX11_trim_11 : decode cX11_trim 11 = .ok (.invokestatic 101, 3) := by decide +kernel
theorem dX11_trim_14 : decode cX11_trim 14 = .ok (.aload_n 0, 1) := by decide +kernel
theorem dX11_trim_15 : decode cX11_trim 15 = .ok (.dup, 1) := by decide +kernel
theorem dX11_trim_16 : decode cX11_trim 16 = .ok (.getfield 84, 3) := by decide +kernel
theorem dX11_trim_19 : decode cX11_trim 19 = .ok (.iload_n 1, 1) := by decide +kernel
theorem dX11_trim_20 : decode cX11_trim 20 = .ok (.isub, 1) := by decide +kernel
theorem dX11_trim_21 : decode cX11_trim 21 = .ok (.putfield 84, 3) := by decide +kernel
theorem dX11_trim_24 : decode cX11_trim 24 = .ok (.aload_n 0, 1) := by decide +kernel
theorem dX11_trim_25 : decode cX11_trim 25 = .ok (.getfield 84, 3) := by decide +kernel
theorem dX11_trim_28 : decode cX11_trim 28 = .ok (.ireturn, 1) := by decide +kernel
theorem dX11_spoil_0 : decode cX11_spoil 0 = .ok (.iload_n 1, 1) := by decide +kernel
theorem dX11_spoil_1 : decode cX11_spoil 1 = .ok (.i2l, 1) := by decide +kernel
theorem dX11_spoil_2 : decode cX11_spoil 2 = .ok (.lconst 0, 1) := by decide +kernel
theorem dX11_spoil_3 : decode cX11_spoil 3 = .ok (.aload_n 0, 1) := by decide +kernel
theorem dX11_spoil_4 : decode cX11_spoil 4 = .ok (.getfield 84, 3) := by decide +kernel
theorem dX11_spoil_7 : decode cX11_spoil 7 = .ok (.iconst 1, 1) := by decide +kernel
theorem dX11_spoil_8 : decode cX11_spoil 8 = .ok (.isub, 1) := by decide +kernel
theorem dX11_spoil_9 : decode cX11_spoil 9 = .ok (.i2l, 1) := by decide +kernel
theorem dX11_spoil_10 : decode cX11_spoil 10 = .ok (.invokestatic 97, 3) := by decide +kernel
theorem dX11_spoil_13 : decode cX11_spoil 13 = .ok (.ifCond .eq 19, 3) := by decide +kernel
theorem dX11_spoil_16 : decode cX11_spoil 16 = .ok (.iload_n 2, 1) := by decide +kernel
theorem dX11_spoil_17 : decode cX11_spoil 17 = .ok (.i2l, 1) := by decide +kernel
theorem dX11_spoil_18 : decode cX11_spoil 18 = .ok (.lconst 0, 1) := by decide +kernel
theorem dX11_spoil_19 : decode cX11_spoil 19 = .ok (.ldc2_w 104, 3) := by decide +kernel
theorem dX11_spoil_22 : decode cX11_spoil 22 = .ok (.invokestatic 97, 3) := by decide +kernel
theorem dX11_spoil_25 : decode cX11_spoil 25 = .ok (.ifCond .eq 7, 3) := by decide +kernel
theorem dX11_spoil_28 : decode cX11_spoil 28 = .ok (.iconst 1, 1) := by decide +kernel
theorem dX11_spoil_29 : decode cX11_spoil 29 = .ok (.goto 4, 3) := by decide +kernel
theorem dX11_spoil_32 : decode cX11_spoil 32 = .ok (.iconst 0, 1) := by decide +kernel
theorem dX11_spoil_33 : decode cX11_spoil 33 = .ok (.invokestatic 101, 3) := by decide +kernel
theorem dX11_spoil_36 : decode cX11_spoil 36 = .ok (.aload_n 0, 1) := by decide +kernel
theorem dX11_spoil_37 : decode cX11_spoil 37 = .ok (.getfield 9, 3) := by decide +kernel
theorem dX11_spoil_40 : decode cX11_spoil 40 = .ok (.iload_n 1, 1) := by decide +kernel
theorem dX11_spoil_41 : decode cX11_spoil 41 = .ok (.dup2, 1) := by decide +kernel
theorem dX11_spoil_42 : decode cX11_spoil 42 = .ok (.baload, 1) := by decide +kernel
theorem dX11_spoil_43 : decode cX11_spoil 43 = .ok (.iload_n 2, 1) := by decide +kernel
theorem dX11_spoil_44 : decode cX11_spoil 44 = .ok (.i2b, 1) := by decide +kernel
theorem dX11_spoil_45 : decode cX11_spoil 45 = .ok (.ixor, 1) := by decide +kernel
theorem dX11_spoil_46 : decode cX11_spoil 46 = .ok (.i2b, 1) := by decide +kernel
theorem dX11_spoil_47 : decode cX11_spoil 47 = .ok (.bastore, 1) := by decide +kernel
theorem dX11_spoil_48 : decode cX11_spoil 48 = .ok (.aload_n 0, 1) := by decide +kernel
theorem dX11_spoil_49 : decode cX11_spoil 49 = .ok (.getfield 9, 3) := by decide +kernel
theorem dX11_spoil_52 : decode cX11_spoil 52 = .ok (.iload_n 1, 1) := by decide +kernel
theorem dX11_spoil_53 : decode cX11_spoil 53 = .ok (.baload, 1) := by decide +kernel
theorem dX11_spoil_54 : decode cX11_spoil 54 = .ok (.sipush 255, 3) := by decide +kernel
theorem dX11_spoil_57 : decode cX11_spoil 57 = .ok (.iand, 1) := by decide +kernel
theorem dX11_spoil_58 : decode cX11_spoil 58 = .ok (.ireturn, 1) := by decide +kernel
theorem dX11_record_0 : decode cX11_record 0 = .ok (.iload_n 1, 1) := by decide +kernel
theorem dX11_record_1 : decode cX11_record 1 = .ok (.i2l, 1) := by decide +kernel
theorem dX11_record_2 : decode cX11_record 2 = .ok (.lconst 1, 1) := by decide +kernel
theorem dX11_record_3 : decode cX11_record 3 = .ok (.ldc2_w 106, 3) := by decide +kernel
theorem dX11_record_6 : decode cX11_record 6 = .ok (.invokestatic 97, 3) := by decide +kernel
theorem dX11_record_9 : decode cX11_record 9 = .ok (.ifCond .eq 22, 3) := by decide +kernel
theorem dX11_record_12 : decode cX11_record 12 = .ok (.iload 4, 2) := by decide +kernel
theorem dX11_record_14 : decode cX11_record 14 = .ok (.i2l, 1) := by decide +kernel
theorem dX11_record_15 : decode cX11_record 15 = .ok (.ldc2_w 108, 3) := by decide +kernel
theorem dX11_record_18 : decode cX11_record 18 = .ok (.ldc2_w 110, 3) := by decide +kernel
theorem dX11_record_21 : decode cX11_record 21 = .ok (.invokestatic 97, 3) := by decide +kernel
theorem dX11_record_24 : decode cX11_record 24 = .ok (.ifCond .eq 7, 3) := by decide +kernel
theorem dX11_record_27 : decode cX11_record 27 = .ok (.iconst 1, 1) := by decide +kernel
theorem dX11_record_28 : decode cX11_record 28 = .ok (.goto 4, 3) := by decide +kernel
theorem dX11_record_31 : decode cX11_record 31 = .ok (.iconst 0, 1) := by decide +kernel
theorem dX11_record_32 : decode cX11_record 32 = .ok (.invokestatic 101, 3) := by decide +kernel
theorem dX11_record_35 : decode cX11_record 35 = .ok (.iload 7, 2) := by decide +kernel
theorem dX11_record_37 : decode cX11_record 37 = .ok (.i2l, 1) := by decide +kernel
theorem dX11_record_38 : decode cX11_record 38 = .ok (.ldc2_w 108, 3) := by decide +kernel
theorem dX11_record_41 : decode cX11_record 41 = .ok (.ldc2_w 112, 3) := by decide +kernel
theorem dX11_record_44 : decode cX11_record 44 = .ok (.invokestatic 97, 3) := by decide +kernel
theorem dX11_record_47 : decode cX11_record 47 = .ok (.ifCond .eq 20, 3) := by decide +kernel
theorem dX11_record_50 : decode cX11_record 50 = .ok (.iload 8, 2) := by decide +kernel
theorem dX11_record_52 : decode cX11_record 52 = .ok (.i2l, 1) := by decide +kernel
theorem dX11_record_53 : decode cX11_record 53 = .ok (.lconst 0, 1) := by decide +kernel
theorem dX11_record_54 : decode cX11_record 54 = .ok (.ldc2_w 114, 3) := by decide +kernel
theorem dX11_record_57 : decode cX11_record 57 = .ok (.invokestatic 97, 3) := by decide +kernel
theorem dX11_record_60 : decode cX11_record 60 = .ok (.ifCond .eq 7, 3) := by decide +kernel
theorem dX11_record_63 : decode cX11_record 63 = .ok (.iconst 1, 1) := by decide +kernel
theorem dX11_record_64 : decode cX11_record 64 = .ok (.goto 4, 3) := by decide +kernel
theorem dX11_record_67 : decode cX11_record 67 = .ok (.iconst 0, 1) := by decide +kernel
theorem dX11_record_68 : decode cX11_record 68 = .ok (.invokestatic 101, 3) := by decide +kernel
theorem dX11_record_71 : decode cX11_record 71 = .ok (.aload_n 0, 1) := by decide +kernel
theorem dX11_record_72 : decode cX11_record 72 = .ok (.getfield 16, 3) := by decide +kernel
theorem dX11_record_75 : decode cX11_record 75 = .ok (.iload_n 1, 1) := by decide +kernel
theorem dX11_record_76 : decode cX11_record 76 = .ok (.iload 4, 2) := by decide +kernel
theorem dX11_record_78 : decode cX11_record 78 = .ok (.iload 7, 2) := by decide +kernel
theorem dX11_record_80 : decode cX11_record 80 = .ok (.iload 8, 2) := by decide +kernel
theorem dX11_record_82 : decode cX11_record 82 = .ok (.invokevirtual 116, 3) := by decide +kernel
theorem dX11_record_85 : decode cX11_record 85 = .ok (.invokestatic 87, 3) := by decide +kernel
theorem dX11_record_88 : decode cX11_record 88 = .ok (.iconst 0, 1) := by decide +kernel
theorem dX11_record_89 : decode cX11_record 89 = .ok (.istore 9, 2) := by decide +kernel
theorem dX11_record_91 : decode cX11_record 91 = .ok (.iload 9, 2) := by decide +kernel
theorem dX11_record_93 : decode cX11_record 93 = .ok (.iload_n 1, 1) := by decide +kernel
theorem dX11_record_94 : decode cX11_record 94 = .ok (.if_icmp .ge 36, 3) := by decide +kernel
theorem dX11_record_97 : decode cX11_record 97 = .ok (.aload_n 0, 1) := by decide +kernel
theorem dX11_record_98 : decode cX11_record 98 = .ok (.getfield 16, 3) := by decide +kernel
theorem dX11_record_101 : decode cX11_record 101 = .ok (.lload_n 2, 1) := by decide +kernel
theorem dX11_record_102 : decode cX11_record 102 = .ok (.iload 9, 2) := by decide +kernel
theorem dX11_record_104 : decode cX11_record 104 = .ok (.i2l, 1) := by decide +kernel
theorem dX11_record_105 : decode cX11_record 105 = .ok (.ladd, 1) := by decide +kernel
theorem dX11_record_106 : decode cX11_record 106 = .ok (.iload 4, 2) := by decide +kernel
theorem dX11_record_108 : decode cX11_record 108 = .ok (.lload 5, 2) := by decide +kernel
theorem dX11_record_110 : decode cX11_record 110 = .ok (.iload 9, 2) := by decide +kernel
theorem dX11_record_112 : decode cX11_record 112 = .ok (.i2l, 1) := by decide +kernel
theorem dX11_record_113 : decode cX11_record 113 = .ok (.ladd, 1) := by decide +kernel
theorem dX11_record_114 : decode cX11_record 114 = .ok (.iload 7, 2) := by decide +kernel
theorem dX11_record_116 : decode cX11_record 116 = .ok (.iload 8, 2) := by decide +kernel
theorem dX11_record_118 : decode cX11_record 118 = .ok (.iload 9, 2) := by decide +kernel
theorem dX11_record_120 : decode cX11_record 120 = .ok (.iadd, 1) := by decide +kernel
theorem dX11_record_121 : decode cX11_record 121 = .ok (.invokevirtual 120, 3) := by decide +kernel
theorem dX11_record_124 : decode cX11_record 124 = .ok (.iinc 9 1, 3) := by decide +kernel
theorem dX11_record_127 : decode cX11_record 127 = .ok (.goto (-36), 3) := by decide +kernel
theorem dX11_record_130 : decode cX11_record 130 = .ok (.aload_n 0, 1) := by decide +kernel
theorem dX11_record_131 : decode cX11_record 131 = .ok (.getfield 16, 3) := by decide +kernel
theorem dX11_record_134 : decode cX11_record 134 = .ok (.getfield 124, 3) := by decide +kernel
theorem dX11_record_137 : decode cX11_record 137 = .ok (.ireturn, 1) := by decide +kernel
theorem dX11_seal_0 : decode cX11_seal 0 = .ok (.lload 5, 2) := by decide +kernel
theorem dX11_seal_2 : decode cX11_seal 2 = .ok (.lconst 0, 1) := by decide +kernel
theorem dX11_seal_3 : decode cX11_seal 3 = .ok (.ldc2_w 127, 3) := by decide +kernel
theorem dX11_seal_6 : decode cX11_seal 6 = .ok (.invokestatic 97, 3) := by decide +kernel
theorem dX11_seal_9 : decode cX11_seal 9 = .ok (.invokestatic 101, 3) := by decide +kernel
theorem dX11_seal_12 : decode cX11_seal 12 = .ok (.bipush 61, 2) := by decide +kernel
theorem dX11_seal_14 : decode cX11_seal 14 = .ok (.aload_n 0, 1) := by decide +kernel
theorem dX11_seal_15 : decode cX11_seal 15 = .ok (.getfield 16, 3) := by decide +kernel
theorem dX11_seal_18 : decode cX11_seal 18 = .ok (.getfield 129, 3) := by decide +kernel
theorem dX11_seal_21 : decode cX11_seal 21 = .ok (.iadd, 1) := by decide +kernel
theorem dX11_seal_22 : decode cX11_seal 22 = .ok (.istore 7, 2) := by decide +kernel
theorem dX11_seal_24 : decode cX11_seal 24 = .ok (.aload_n 0, 1) := by decide +kernel
theorem dX11_seal_25 : decode cX11_seal 25 = .ok (.getfield 84, 3) := by decide +kernel
theorem dX11_seal_28 : decode cX11_seal 28 = .ok (.iload 7, 2) := by decide +kernel
theorem dX11_seal_30 : decode cX11_seal 30 = .ok (.iadd, 1) := by decide +kernel
theorem dX11_seal_31 : decode cX11_seal 31 = .ok (.sipush 16384, 3) := by decide +kernel
theorem dX11_seal_34 : decode cX11_seal 34 = .ok (.if_icmp .gt 7, 3) := by decide +kernel
theorem dX11_seal_37 : decode cX11_seal 37 = .ok (.iconst 1, 1) := by decide +kernel
theorem dX11_seal_38 : decode cX11_seal 38 = .ok (.goto 4, 3) := by decide +kernel
theorem dX11_seal_41 : decode cX11_seal 41 = .ok (.iconst 0, 1) := by decide +kernel
theorem dX11_seal_42 : decode cX11_seal 42 = .ok (.invokestatic 87, 3) := by decide +kernel
theorem dX11_seal_45 : decode cX11_seal 45 = .ok (.aload_n 0, 1) := by decide +kernel
theorem dX11_seal_46 : decode cX11_seal 46 = .ok (.getfield 84, 3) := by decide +kernel
theorem dX11_seal_49 : decode cX11_seal 49 = .ok (.istore 8, 2) := by decide +kernel
theorem dX11_seal_51 : decode cX11_seal 51 = .ok (.aload_n 0, 1) := by decide +kernel
theorem dX11_seal_52 : decode cX11_seal 52 = .ok (.getfield 16, 3) := by decide +kernel
theorem dX11_seal_55 : decode cX11_seal 55 = .ok (.getfield 132, 3) := by decide +kernel
theorem dX11_seal_58 : decode cX11_seal 58 = .ok (.iconst 0, 1) := by decide +kernel
theorem dX11_seal_59 : decode cX11_seal 59 = .ok (.aload_n 0, 1) := by decide +kernel
theorem dX11_seal_60 : decode cX11_seal 60 = .ok (.getfield 9, 3) := by decide +kernel
theorem dX11_seal_63 : decode cX11_seal 63 = .ok (.iload 8, 2) := by decide +kernel
theorem dX11_seal_65 : decode cX11_seal 65 = .ok (.bipush 61, 2) := by decide +kernel
theorem dX11_seal_67 : decode cX11_seal 67 = .ok (.iadd, 1) := by decide +kernel
theorem dX11_seal_68 : decode cX11_seal 68 = .ok (.aload_n 0, 1) := by decide +kernel
theorem dX11_seal_69 : decode cX11_seal 69 = .ok (.getfield 16, 3) := by decide +kernel
theorem dX11_seal_72 : decode cX11_seal 72 = .ok (.getfield 129, 3) := by decide +kernel
theorem dX11_seal_75 : decode cX11_seal 75 = .ok (.invokestatic 135, 3) := by decide +kernel
theorem dX11_seal_78 : decode cX11_seal 78 = .ok (.aload_n 0, 1) := by decide +kernel
theorem dX11_seal_79 : decode cX11_seal 79 = .ok (.getfield 16, 3) := by decide +kernel
theorem dX11_seal_82 : decode cX11_seal 82 = .ok (.getfield 124, 3) := by decide +kernel
theorem dX11_seal_85 : decode cX11_seal 85 = .ok (.ifCond .ne 7, 3) := by decide +kernel
theorem dX11_seal_88 : decode cX11_seal 88 = .ok (.lconst 0, 1) := by decide +kernel
theorem dX11_seal_89 : decode cX11_seal 89 = .ok (.goto 14, 3) := by decide +kernel
theorem dX11_seal_92 : decode cX11_seal 92 = .ok (.lload 5, 2) := by decide +kernel
theorem dX11_seal_94 : decode cX11_seal 94 = .ok (.aload_n 0, 1) := by decide +kernel
theorem dX11_seal_95 : decode cX11_seal 95 = .ok (.getfield 16, 3) := by decide +kernel
theorem dX11_seal_98 : decode cX11_seal 98 = .ok (.getfield 141, 3) := by decide +kernel
theorem dX11_seal_101 : decode cX11_seal 101 = .ok (.i2l, 1) := by decide +kernel
theorem dX11_seal_102 : decode cX11_seal 102 = .ok (.ladd, 1) := by decide +kernel
theorem dX11_seal_103 : decode cX11_seal 103 = .ok (.lstore 9, 2) := by decide +kernel
theorem dX11_seal_105 : decode cX11_seal 105 = .ok (.aload_n 0, 1) := by decide +kernel
theorem dX11_seal_106 : decode cX11_seal 106 = .ok (.getfield 9, 3) := by decide +kernel
theorem dX11_seal_109 : decode cX11_seal 109 = .ok (.iload 8, 2) := by decide +kernel
theorem dX11_seal_111 : decode cX11_seal 111 = .ok (.aload_n 0, 1) := by decide +kernel
theorem dX11_seal_112 : decode cX11_seal 112 = .ok (.getfield 16, 3) := by decide +kernel
theorem dX11_seal_115 : decode cX11_seal 115 = .ok (.getfield 124, 3) := by decide +kernel
theorem dX11_seal_118 : decode cX11_seal 118 = .ok (.lload 5, 2) := by decide +kernel
theorem dX11_seal_120 : decode cX11_seal 120 = .ok (.lload 9, 2) := by decide +kernel
theorem dX11_seal_122 : decode cX11_seal 122 = .ok (.invokestatic 144, 3) := by decide +kernel
theorem dX11_seal_125 : decode cX11_seal 125 = .ok (.aload_n 0, 1) := by decide +kernel
theorem dX11_seal_126 : decode cX11_seal 126 = .ok (.getfield 9, 3) := by decide +kernel
theorem dX11_seal_129 : decode cX11_seal 129 = .ok (.iload 8, 2) := by decide +kernel
theorem dX11_seal_131 : decode cX11_seal 131 = .ok (.lload_n 1, 1) := by decide +kernel
theorem dX11_seal_132 : decode cX11_seal 132 = .ok (.iload_n 3, 1) := by decide +kernel
theorem dX11_seal_133 : decode cX11_seal 133 = .ok (.iload 4, 2) := by decide +kernel
theorem dX11_seal_135 : decode cX11_seal 135 = .ok (.invokestatic 150, 3) := by decide +kernel
theorem dX11_seal_138 : decode cX11_seal 138 = .ok (.aload_n 0, 1) := by decide +kernel
theorem dX11_seal_139 : decode cX11_seal 139 = .ok (.getfield 9, 3) := by decide +kernel
theorem dX11_seal_142 : decode cX11_seal 142 = .ok (.iload 8, 2) := by decide +kernel
theorem dX11_seal_144 : decode cX11_seal 144 = .ok (.iload 7, 2) := by decide +kernel
theorem dX11_seal_146 : decode cX11_seal 146 = .ok (.invokestatic 154, 3) := by decide +kernel
theorem dX11_seal_149 : decode cX11_seal 149 = .ok (.aload_n 0, 1) := by decide +kernel
theorem dX11_seal_150 : decode cX11_seal 150 = .ok (.dup, 1) := by decide +kernel
theorem dX11_seal_151 : decode cX11_seal 151 = .ok (.getfield 84, 3) := by decide +kernel
theorem dX11_seal_154 : decode cX11_seal 154 = .ok (.iload 7, 2) := by decide +kernel
theorem dX11_seal_156 : decode cX11_seal 156 = .ok (.iadd, 1) := by decide +kernel
theorem dX11_seal_157 : decode cX11_seal 157 = .ok (.putfield 84, 3) := by decide +kernel
theorem dX11_seal_160 : decode cX11_seal 160 = .ok (.aload_n 0, 1) := by decide +kernel
theorem dX11_seal_161 : decode cX11_seal 161 = .ok (.getfield 16, 3) := by decide +kernel
theorem dX11_seal_164 : decode cX11_seal 164 = .ok (.invokevirtual 158, 3) := by decide +kernel
theorem dX11_seal_167 : decode cX11_seal 167 = .ok (.aload_n 0, 1) := by decide +kernel
theorem dX11_seal_168 : decode cX11_seal 168 = .ok (.getfield 84, 3) := by decide +kernel
theorem dX11_seal_171 : decode cX11_seal 171 = .ok (.ireturn, 1) := by decide +kernel
theorem dX11_fault_0 : decode cX11_fault 0 = .ok (.iload_n 1, 1) := by decide +kernel
theorem dX11_fault_1 : decode cX11_fault 1 = .ok (.i2l, 1) := by decide +kernel
theorem dX11_fault_2 : decode cX11_fault 2 = .ok (.lconst 0, 1) := by decide +kernel
theorem dX11_fault_3 : decode cX11_fault 3 = .ok (.lconst 1, 1) := by decide +kernel
theorem dX11_fault_4 : decode cX11_fault 4 = .ok (.invokestatic 97, 3) := by decide +kernel
theorem dX11_fault_7 : decode cX11_fault 7 = .ok (.invokestatic 101, 3) := by decide +kernel
theorem dX11_fault_10 : decode cX11_fault 10 = .ok (.aload_n 0, 1) := by decide +kernel
theorem dX11_fault_11 : decode cX11_fault 11 = .ok (.getfield 23, 3) := by decide +kernel
theorem dX11_fault_14 : decode cX11_fault 14 = .ok (.aload_n 0, 1) := by decide +kernel
theorem dX11_fault_15 : decode cX11_fault 15 = .ok (.getfield 9, 3) := by decide +kernel
theorem dX11_fault_18 : decode cX11_fault 18 = .ok (.aload_n 0, 1) := by decide +kernel
theorem dX11_fault_19 : decode cX11_fault 19 = .ok (.getfield 84, 3) := by decide +kernel
theorem dX11_fault_22 : decode cX11_fault 22 = .ok (.invokevirtual 161, 3) := by decide +kernel
theorem dX11_fault_25 : decode cX11_fault 25 = .ok (.iload_n 1, 1) := by decide +kernel
theorem dX11_fault_26 : decode cX11_fault 26 = .ok (.ifCond .ne 13, 3) := by decide +kernel
theorem dX11_fault_29 : decode cX11_fault 29 = .ok (.aload_n 0, 1) := by decide +kernel
theorem dX11_fault_30 : decode cX11_fault 30 = .ok (.getfield 23, 3) := by decide +kernel
theorem dX11_fault_33 : decode cX11_fault 33 = .ok (.getfield 165, 3) := by decide +kernel
theorem dX11_fault_36 : decode cX11_fault 36 = .ok (.goto 10, 3) := by decide +kernel
theorem dX11_fault_39 : decode cX11_fault 39 = .ok (.aload_n 0, 1) := by decide +kernel
theorem dX11_fault_40 : decode cX11_fault 40 = .ok (.getfield 23, 3) := by decide +kernel
theorem dX11_fault_43 : decode cX11_fault 43 = .ok (.getfield 168, 3) := by decide +kernel
theorem dX11_fault_46 : decode cX11_fault 46 = .ok (.ireturn, 1) := by decide +kernel
theorem dX11_producer_0 : decode cX11_producer 0 = .ok (.aload_n 0, 1) := by decide +kernel
theorem dX11_producer_1 : decode cX11_producer 1 = .ok (.invokevirtual 171, 3) := by decide +kernel
theorem dX11_producer_4 : decode cX11_producer 4 = .ok (.aload_n 0, 1) := by decide +kernel
theorem dX11_producer_5 : decode cX11_producer 5 = .ok (.getfield 174, 3) := by decide +kernel
theorem dX11_producer_8 : decode cX11_producer 8 = .ok (.aload_n 0, 1) := by decide +kernel
theorem dX11_producer_9 : decode cX11_producer 9 = .ok (.getfield 178, 3) := by decide +kernel
theorem dX11_producer_12 : decode cX11_producer 12 = .ok (.lcmp, 1) := by decide +kernel
theorem dX11_producer_13 : decode cX11_producer 13 = .ok (.ifCond .ne 51, 3) := by decide +kernel
theorem dX11_producer_16 : decode cX11_producer 16 = .ok (.aload_n 0, 1) := by decide +kernel
theorem dX11_producer_17 : decode cX11_producer 17 = .ok (.dup, 1) := by decide +kernel
theorem dX11_producer_18 : decode cX11_producer 18 = .ok (.getfield 178, 3) := by decide +kernel
theorem dX11_producer_21 : decode cX11_producer 21 = .ok (.ldc2_w 106, 3) := by decide +kernel
theorem dX11_producer_24 : decode cX11_producer 24 = .ok (.ladd, 1) := by decide +kernel
theorem dX11_producer_25 : decode cX11_producer 25 = .ok (.putfield 178, 3) := by decide +kernel
theorem dX11_producer_28 : decode cX11_producer 28 = .ok (.aload_n 0, 1) := by decide +kernel
theorem dX11_producer_29 : decode cX11_producer 29 = .ok (.getfield 34, 3) := by decide +kernel
theorem dX11_producer_32 : decode cX11_producer 32 = .ok (.iconst 0, 1) := by decide +kernel
theorem dX11_producer_33 : decode cX11_producer 33 = .ok (.bipush 8, 2) := by decide +kernel
theorem dX11_producer_35 : decode cX11_producer 35 = .ok (.aload_n 0, 1) := by decide +kernel
theorem dX11_producer_36 : decode cX11_producer 36 = .ok (.getfield 178, 3) := by decide +kernel
theorem dX11_producer_39 : decode cX11_producer 39 = .ok (.invokestatic 91, 3) := by decide +kernel
theorem dX11_producer_42 : decode cX11_producer 42 = .ok (.aload_n 0, 1) := by decide +kernel
theorem dX11_producer_43 : decode cX11_producer 43 = .ok (.getfield 60, 3) := by decide +kernel
theorem dX11_producer_46 : decode cX11_producer 46 = .ok (.iconst 0, 1) := by decide +kernel
theorem dX11_producer_47 : decode cX11_producer 47 = .ok (.aload_n 0, 1) := by decide +kernel
theorem dX11_producer_48 : decode cX11_producer 48 = .ok (.getfield 34, 3) := by decide +kernel
theorem dX11_producer_51 : decode cX11_producer 51 = .ok (.iconst 0, 1) := by decide +kernel
theorem dX11_producer_52 : decode cX11_producer 52 = .ok (.bipush 8, 2) := by decide +kernel
theorem dX11_producer_54 : decode cX11_producer 54 = .ok (.invokevirtual 181, 3) := by decide +kernel
theorem dX11_producer_57 : decode cX11_producer 57 = .ok (.ifCond .ne 7, 3) := by decide +kernel
theorem dX11_producer_60 : decode cX11_producer 60 = .ok (.ldc2_w 185, 3) := by decide +kernel
theorem dX11_producer_63 : decode cX11_producer 63 = .ok (.lreturn, 1) := by decide +kernel
theorem dX11_producer_64 : decode cX11_producer 64 = .ok (.aload_n 0, 1) := by decide +kernel
theorem dX11_producer_65 : decode cX11_producer 65 = .ok (.dup, 1) := by decide +kernel
theorem dX11_producer_66 : decode cX11_producer 66 = .ok (.getfield 174, 3) := by decide +kernel
theorem dX11_producer_69 : decode cX11_producer 69 = .ok (.lconst 1, 1) := by decide +kernel
theorem dX11_producer_70 : decode cX11_producer 70 = .ok (.ladd, 1) := by decide +kernel
theorem dX11_producer_71 : decode cX11_producer 71 = .ok (.putfield 174, 3) := by decide +kernel
theorem dX11_producer_74 : decode cX11_producer 74 = .ok (.aload_n 0, 1) := by decide +kernel
theorem dX11_producer_75 : decode cX11_producer 75 = .ok (.getfield 174, 3) := by decide +kernel
theorem dX11_producer_78 : decode cX11_producer 78 = .ok (.lconst 1, 1) := by decide +kernel
theorem dX11_producer_79 : decode cX11_producer 79 = .ok (.lsub, 1) := by decide +kernel
theorem dX11_producer_80 : decode cX11_producer 80 = .ok (.lreturn, 1) := by decide +kernel
theorem dX11_produce_0 : decode cX11_produce 0 = .ok (.aload_n 0, 1) := by decide +kernel
theorem dX11_produce_1 : decode cX11_produce 1 = .ok (.iload_n 1, 1) := by decide +kernel
theorem dX11_produce_2 : decode cX11_produce 2 = .ok (.invokevirtual 187, 3) := by decide +kernel
theorem dX11_produce_5 : decode cX11_produce 5 = .ok (.invokestatic 101, 3) := by decide +kernel
theorem dX11_produce_8 : decode cX11_produce 8 = .ok (.aload_n 0, 1) := by decide +kernel
theorem dX11_produce_9 : decode cX11_produce 9 = .ok (.invokevirtual 171, 3) := by decide +kernel
theorem dX11_produce_12 : decode cX11_produce 12 = .ok (.aload_n 0, 1) := by decide +kernel
theorem dX11_produce_13 : decode cX11_produce 13 = .ok (.getfield 84, 3) := by decide +kernel
theorem dX11_produce_16 : decode cX11_produce 16 = .ok (.istore_n 2, 1) := by decide +kernel
theorem dX11_produce_17 : decode cX11_produce 17 = .ok (.aload_n 0, 1) := by decide +kernel
theorem dX11_produce_18 : decode cX11_produce 18 = .ok (.iconst 0, 1) := by decide +kernel
theorem dX11_produce_19 : decode cX11_produce 19 = .ok (.putfield 84, 3) := by decide +kernel
theorem dX11_produce_22 : decode cX11_produce 22 = .ok (.aload_n 0, 1) := by decide +kernel
theorem dX11_produce_23 : decode cX11_produce 23 = .ok (.getfield 23, 3) := by decide +kernel
theorem dX11_produce_26 : decode cX11_produce 26 = .ok (.aload_n 0, 1) := by decide +kernel
theorem dX11_produce_27 : decode cX11_produce 27 = .ok (.getfield 9, 3) := by decide +kernel
theorem dX11_produce_30 : decode cX11_produce 30 = .ok (.iload_n 2, 1) := by decide +kernel
theorem dX11_produce_31 : decode cX11_produce 31 = .ok (.invokevirtual 161, 3) := by decide +kernel
theorem dX11_produce_34 : decode cX11_produce 34 = .ok (.aload_n 0, 1) := by decide +kernel
theorem dX11_produce_35 : decode cX11_produce 35 = .ok (.getfield 23, 3) := by decide +kernel
theorem dX11_produce_38 : decode cX11_produce 38 = .ok (.getfield 165, 3) := by decide +kernel
theorem dX11_produce_41 : decode cX11_produce 41 = .ok (.ifCond .eq 7, 3) := by decide +kernel
theorem dX11_produce_44 : decode cX11_produce 44 = .ok (.ldc2_w 191, 3) := by decide +kernel
theorem dX11_produce_47 : decode cX11_produce 47 = .ok (.lreturn, 1) := by decide +kernel
theorem dX11_produce_48 : decode cX11_produce 48 = .ok (.aload_n 0, 1) := by decide +kernel
theorem dX11_produce_49 : decode cX11_produce 49 = .ok (.getfield 64, 3) := by decide +kernel
theorem dX11_produce_52 : decode cX11_produce 52 = .ok (.aload_n 0, 1) := by decide +kernel
theorem dX11_produce_53 : decode cX11_produce 53 = .ok (.getfield 64, 3) := by decide +kernel
theorem dX11_produce_56 : decode cX11_produce 56 = .ok (.getfield 193, 3) := by decide +kernel
theorem dX11_produce_59 : decode cX11_produce 59 = .ok (.iload_n 1, 1) := by decide +kernel
theorem dX11_produce_60 : decode cX11_produce 60 = .ok (.aaload, 1) := by decide +kernel
theorem dX11_produce_61 : decode cX11_produce 61 = .ok (.aload_n 0, 1) := by decide +kernel
theorem dX11_produce_62 : decode cX11_produce 62 = .ok (.getfield 9, 3) := by decide +kernel
theorem dX11_produce_65 : decode cX11_produce 65 = .ok (.iload_n 2, 1) := by decide +kernel
theorem dX11_produce_66 : decode cX11_produce 66 = .ok (.invokevirtual 197, 3) := by decide +kernel
theorem dX11_produce_69 : decode cX11_produce 69 = .ok (.lreturn, 1) := by decide +kernel
theorem dX11_known_0 : decode cX11_known 0 = .ok (.aload_n 0, 1) := by decide +kernel
theorem dX11_known_1 : decode cX11_known 1 = .ok (.iload_n 1, 1) := by decide +kernel
theorem dX11_known_2 : decode cX11_known 2 = .ok (.invokevirtual 201, 3) := by decide +kernel
theorem dX11_known_5 : decode cX11_known 5 = .ok (.ifCond .eq 26, 3) := by decide +kernel
theorem dX11_known_8 : decode cX11_known 8 = .ok (.lload_n 2, 1) := by decide +kernel
theorem dX11_known_9 : decode cX11_known 9 = .ok (.lconst 0, 1) := by decide +kernel
theorem dX11_known_10 : decode cX11_known 10 = .ok (.lcmp, 1) := by decide +kernel
theorem dX11_known_11 : decode cX11_known 11 = .ok (.ifCond .lt 20, 3) := by decide +kernel
theorem dX11_known_14 : decode cX11_known 14 = .ok (.iload 4, 2) := by decide +kernel
theorem dX11_known_16 : decode cX11_known 16 = .ok (.i2l, 1) := by decide +kernel
theorem dX11_known_17 : decode cX11_known 17 = .ok (.lconst 0, 1) := by decide +kernel
theorem dX11_known_18 : decode cX11_known 18 = .ok (.ldc2_w 204, 3) := by decide +kernel
theorem dX11_known_21 : decode cX11_known 21 = .ok (.invokestatic 97, 3) := by decide +kernel
theorem dX11_known_24 : decode cX11_known 24 = .ok (.ifCond .eq 7, 3) := by decide +kernel
theorem dX11_known_27 : decode cX11_known 27 = .ok (.iconst 1, 1) := by decide +kernel
theorem dX11_known_28 : decode cX11_known 28 = .ok (.goto 4, 3) := by decide +kernel
theorem dX11_known_31 : decode cX11_known 31 = .ok (.iconst 0, 1) := by decide +kernel
theorem dX11_known_32 : decode cX11_known 32 = .ok (.invokestatic 101, 3) := by decide +kernel
theorem dX11_known_35 : decode cX11_known 35 = .ok (.aload_n 0, 1) := by decide +kernel
theorem dX11_known_36 : decode cX11_known 36 = .ok (.invokevirtual 171, 3) := by decide +kernel
theorem dX11_known_39 : decode cX11_known 39 = .ok (.aload_n 0, 1) := by decide +kernel
theorem dX11_known_40 : decode cX11_known 40 = .ok (.getfield 64, 3) := by decide +kernel
theorem dX11_known_43 : decode cX11_known 43 = .ok (.getfield 193, 3) := by decide +kernel
theorem dX11_known_46 : decode cX11_known 46 = .ok (.iload_n 1, 1) := by decide +kernel
theorem dX11_known_47 : decode cX11_known 47 = .ok (.aaload, 1) := by decide +kernel
theorem dX11_known_48 : decode cX11_known 48 = .ok (.astore 5, 2) := by decide +kernel
theorem dX11_known_50 : decode cX11_known 50 = .ok (.iload 4, 2) := by decide +kernel
theorem dX11_known_52 : decode cX11_known 52 = .ok (.ifCond .ne 15, 3) := by decide +kernel
theorem dX11_known_55 : decode cX11_known 55 = .ok (.aload_n 0, 1) := by decide +kernel
theorem dX11_known_56 : decode cX11_known 56 = .ok (.getfield 64, 3) := by decide +kernel
theorem dX11_known_59 : decode cX11_known 59 = .ok (.aload 5, 2) := by decide +kernel
theorem dX11_known_61 : decode cX11_known 61 = .ok (.lload_n 2, 1) := by decide +kernel
theorem dX11_known_62 : decode cX11_known 62 = .ok (.invokevirtual 206, 3) := by decide +kernel
theorem dX11_known_65 : decode cX11_known 65 = .ok (.i2l, 1) := by decide +kernel
theorem dX11_known_66 : decode cX11_known 66 = .ok (.lreturn, 1) := by decide +kernel
theorem dX11_known_67 : decode cX11_known 67 = .ok (.aload_n 0, 1) := by decide +kernel
theorem dX11_known_68 : decode cX11_known 68 = .ok (.getfield 64, 3) := by decide +kernel
theorem dX11_known_71 : decode cX11_known 71 = .ok (.aload 5, 2) := by decide +kernel
theorem dX11_known_73 : decode cX11_known 73 = .ok (.lload_n 2, 1) := by decide +kernel
theorem dX11_known_74 : decode cX11_known 74 = .ok (.iconst 0, 1) := by decide +kernel
theorem dX11_known_75 : decode cX11_known 75 = .ok (.invokevirtual 210, 3) := by decide +kernel
theorem dX11_known_78 : decode cX11_known 78 = .ok (.istore 6, 2) := by decide +kernel
theorem dX11_known_80 : decode cX11_known 80 = .ok (.iload 6, 2) := by decide +kernel
theorem dX11_known_82 : decode cX11_known 82 = .ok (.iconst (-1), 1) := by decide +kernel
theorem dX11_known_83 : decode cX11_known 83 = .ok (.if_icmp .ne 7, 3) := by decide +kernel
theorem dX11_known_86 : decode cX11_known 86 = .ok (.ldc2_w 108, 3) := by decide +kernel
theorem dX11_known_89 : decode cX11_known 89 = .ok (.lreturn, 1) := by decide +kernel
theorem dX11_known_90 : decode cX11_known 90 = .ok (.iload 4, 2) := by decide +kernel
theorem dX11_known_92 : decode cX11_known 92 = .ok (.lookupswitch 56 #[(1, 28), (2, 42)], 28) := by decide +kernel
theorem dX11_known_120 : decode cX11_known 120 = .ok (.aload_n 0, 1) := by decide +kernel
theorem dX11_known_121 : decode cX11_known 121 = .ok (.getfield 60, 3) := by decide +kernel
theorem dX11_known_124 : decode cX11_known 124 = .ok (.getfield 214, 3) := by decide +kernel
theorem dX11_known_127 : decode cX11_known 127 = .ok (.iload 6, 2) := by decide +kernel
theorem dX11_known_129 : decode cX11_known 129 = .ok (.invokestatic 215, 3) := by decide +kernel
theorem dX11_known_132 : decode cX11_known 132 = .ok (.i2l, 1) := by decide +kernel
theorem dX11_known_133 : decode cX11_known 133 = .ok (.lreturn, 1) := by decide +kernel
theorem dX11_known_134 : decode cX11_known 134 = .ok (.aload_n 0, 1) := by decide +kernel
theorem dX11_known_135 : decode cX11_known 135 = .ok (.getfield 60, 3) := by decide +kernel
theorem dX11_known_138 : decode cX11_known 138 = .ok (.getfield 214, 3) := by decide +kernel
theorem dX11_known_141 : decode cX11_known 141 = .ok (.iload 6, 2) := by decide +kernel
theorem dX11_known_143 : decode cX11_known 143 = .ok (.invokestatic 219, 3) := by decide +kernel
theorem dX11_known_146 : decode cX11_known 146 = .ok (.i2l, 1) := by decide +kernel
theorem dX11_known_147 : decode cX11_known 147 = .ok (.lreturn, 1) := by decide +kernel
theorem dX11_known_148 : decode cX11_known 148 = .ok (.aload_n 0, 1) := by decide +kernel
theorem dX11_known_149 : decode cX11_known 149 = .ok (.getfield 60, 3) := by decide +kernel
theorem dX11_known_152 : decode cX11_known 152 = .ok (.getfield 214, 3) := by decide +kernel
theorem dX11_known_155 : decode cX11_known 155 = .ok (.iload 6, 2) := by decide +kernel
theorem dX11_known_157 : decode cX11_known 157 = .ok (.invokestatic 222, 3) := by decide +kernel
theorem dX11_known_160 : decode cX11_known 160 = .ok (.lreturn, 1) := by decide +kernel
theorem dX11_log_0 : decode cX11_log 0 = .ok (.aload_n 0, 1) := by decide +kernel
theorem dX11_log_1 : decode cX11_log 1 = .ok (.iload_n 1, 1) := by decide +kernel
theorem dX11_log_2 : decode cX11_log 2 = .ok (.invokevirtual 201, 3) := by decide +kernel
theorem dX11_log_5 : decode cX11_log 5 = .ok (.ifCond .eq 19, 3) := by decide +kernel
theorem dX11_log_8 : decode cX11_log 8 = .ok (.iload_n 2, 1) := by decide +kernel
theorem dX11_log_9 : decode cX11_log 9 = .ok (.i2l, 1) := by decide +kernel
theorem dX11_log_10 : decode cX11_log 10 = .ok (.lconst 0, 1) := by decide +kernel
theorem dX11_log_11 : decode cX11_log 11 = .ok (.ldc2_w 226, 3) := by decide +kernel
theorem dX11_log_14 : decode cX11_log 14 = .ok (.invokestatic 97, 3) := by decide +kernel
theorem dX11_log_17 : decode cX11_log 17 = .ok (.ifCond .eq 7, 3) := by decide +kernel
theorem dX11_log_20 : decode cX11_log 20 = .ok (.iconst 1, 1) := by decide +kernel
theorem dX11_log_21 : decode cX11_log 21 = .ok (.goto 4, 3) := by decide +kernel
theorem dX11_log_24 : decode cX11_log 24 = .ok (.iconst 0, 1) := by decide +kernel
theorem dX11_log_25 : decode cX11_log 25 = .ok (.invokestatic 101, 3) := by decide +kernel
theorem dX11_log_28 : decode cX11_log 28 = .ok (.aload_n 0, 1) := by decide +kernel
theorem dX11_log_29 : decode cX11_log 29 = .ok (.invokevirtual 171, 3) := by decide +kernel
theorem dX11_log_32 : decode cX11_log 32 = .ok (.aload_n 0, 1) := by decide +kernel
theorem dX11_log_33 : decode cX11_log 33 = .ok (.getfield 64, 3) := by decide +kernel
theorem dX11_log_36 : decode cX11_log 36 = .ok (.getfield 193, 3) := by decide +kernel
theorem dX11_log_39 : decode cX11_log 39 = .ok (.iload_n 1, 1) := by decide +kernel
theorem dX11_log_40 : decode cX11_log 40 = .ok (.aaload, 1) := by decide +kernel
theorem dX11_log_41 : decode cX11_log 41 = .ok (.astore_n 3, 1) := by decide +kernel
theorem dX11_log_42 : decode cX11_log 42 = .ok (.iload_n 2, 1) := by decide +kernel
theorem dX11_log_43 : decode cX11_log 43 = .ok (.tableswitch 64 0 4 #[33, 38, 43, 49, 55], 33) := by decide +kernel
theorem dX11_log_76 : decode cX11_log 76 = .ok (.aload_n 3, 1) := by decide +kernel
theorem dX11_log_77 : decode cX11_log 77 = .ok (.getfield 228, 3) := by decide +kernel
theorem dX11_log_80 : decode cX11_log 80 = .ok (.lreturn, 1) := by decide +kernel
theorem dX11_log_81 : decode cX11_log 81 = .ok (.aload_n 3, 1) := by decide +kernel
theorem dX11_log_82 : decode cX11_log 82 = .ok (.getfield 233, 3) := by decide +kernel
theorem dX11_log_85 : decode cX11_log 85 = .ok (.lreturn, 1) := by decide +kernel
theorem dX11_log_86 : decode cX11_log 86 = .ok (.aload_n 3, 1) := by decide +kernel
theorem dX11_log_87 : decode cX11_log 87 = .ok (.getfield 236, 3) := by decide +kernel
theorem dX11_log_90 : decode cX11_log 90 = .ok (.i2l, 1) := by decide +kernel
theorem dX11_log_91 : decode cX11_log 91 = .ok (.lreturn, 1) := by decide +kernel
theorem dX11_log_92 : decode cX11_log 92 = .ok (.aload_n 3, 1) := by decide +kernel
theorem dX11_log_93 : decode cX11_log 93 = .ok (.getfield 239, 3) := by decide +kernel
theorem dX11_log_96 : decode cX11_log 96 = .ok (.i2l, 1) := by decide +kernel
theorem dX11_log_97 : decode cX11_log 97 = .ok (.lreturn, 1) := by decide +kernel
theorem dX11_log_98 : decode cX11_log 98 = .ok (.aload_n 0, 1) := by decide +kernel
theorem dX11_log_99 : decode cX11_log 99 = .ok (.getfield 64, 3) := by decide +kernel
theorem dX11_log_102 : decode cX11_log 102 = .ok (.aload_n 3, 1) := by decide +kernel
theorem dX11_log_103 : decode cX11_log 103 = .ok (.invokevirtual 242, 3) := by decide +kernel
theorem dX11_log_106 : decode cX11_log 106 = .ok (.lreturn, 1) := by decide +kernel
theorem dX11_log_107 : decode cX11_log 107 = .ok (.aload_n 3, 1) := by decide +kernel
theorem dX11_log_108 : decode cX11_log 108 = .ok (.invokevirtual 246, 3) := by decide +kernel
theorem dX11_log_111 : decode cX11_log 111 = .ok (.lreturn, 1) := by decide +kernel
theorem dX11_fetch_0 : decode cX11_fetch 0 = .ok (.iload 4, 2) := by decide +kernel
theorem dX11_fetch_2 : decode cX11_fetch 2 = .ok (.i2l, 1) := by decide +kernel
theorem dX11_fetch_3 : decode cX11_fetch 3 = .ok (.lconst 0, 1) := by decide +kernel
theorem dX11_fetch_4 : decode cX11_fetch 4 = .ok (.ldc2_w 250, 3) := by decide +kernel
theorem dX11_fetch_7 : decode cX11_fetch 7 = .ok (.invokestatic 97, 3) := by decide +kernel
theorem dX11_fetch_10 : decode cX11_fetch 10 = .ok (.ifCond .eq 15, 3) := by decide +kernel
theorem dX11_fetch_13 : decode cX11_fetch 13 = .ok (.aload_n 0, 1) := by decide +kernel
theorem dX11_fetch_14 : decode cX11_fetch 14 = .ok (.iload_n 1, 1) := by decide +kernel
theorem dX11_fetch_15 : decode cX11_fetch 15 = .ok (.invokevirtual 201, 3) := by decide +kernel
theorem dX11_fetch_18 : decode cX11_fetch 18 = .ok (.ifCond .eq 7, 3) := by decide +kernel
theorem dX11_fetch_21 : decode cX11_fetch 21 = .ok (.iconst 1, 1) := by decide +kernel
theorem dX11_fetch_22 : decode cX11_fetch 22 = .ok (.goto 4, 3) := by decide +kernel
theorem dX11_fetch_25 : decode cX11_fetch 25 = .ok (.iconst 0, 1) := by decide +kernel
theorem dX11_fetch_26 : decode cX11_fetch 26 = .ok (.invokestatic 101, 3) := by decide +kernel
theorem dX11_fetch_29 : decode cX11_fetch 29 = .ok (.aload_n 0, 1) := by decide +kernel
theorem dX11_fetch_30 : decode cX11_fetch 30 = .ok (.invokevirtual 171, 3) := by decide +kernel
theorem dX11_fetch_33 : decode cX11_fetch 33 = .ok (.aload_n 0, 1) := by decide +kernel
theorem dX11_fetch_34 : decode cX11_fetch 34 = .ok (.getfield 64, 3) := by decide +kernel
theorem dX11_fetch_37 : decode cX11_fetch 37 = .ok (.getfield 193, 3) := by decide +kernel
theorem dX11_fetch_40 : decode cX11_fetch 40 = .ok (.iload_n 1, 1) := by decide +kernel
theorem dX11_fetch_41 : decode cX11_fetch 41 = .ok (.aaload, 1) := by decide +kernel
theorem dX11_fetch_42 : decode cX11_fetch 42 = .ok (.astore 5, 2) := by decide +kernel
theorem dX11_fetch_44 : decode cX11_fetch 44 = .ok (.aload 5, 2) := by decide +kernel
theorem dX11_fetch_46 : decode cX11_fetch 46 = .ok (.lload_n 2, 1) := by decide +kernel
theorem dX11_fetch_47 : decode cX11_fetch 47 = .ok (.invokevirtual 252, 3) := by decide +kernel
theorem dX11_fetch_50 : decode cX11_fetch 50 = .ok (.ifCond .ne 6, 3) := by decide +kernel
theorem dX11_fetch_53 : decode cX11_fetch 53 = .ok (.bipush (-12), 2) := by decide +kernel
theorem dX11_fetch_55 : decode cX11_fetch 55 = .ok (.ireturn, 1) := by decide +kernel
theorem dX11_fetch_56 : decode cX11_fetch 56 = .ok (.aload_n 0, 1) := by decide +kernel
theorem dX11_fetch_57 : decode cX11_fetch 57 = .ok (.getfield 30, 3) := by decide +kernel
theorem dX11_fetch_60 : decode cX11_fetch 60 = .ok (.invokevirtual 256, 3) := by decide +kernel
theorem dX11_fetch_63 : decode cX11_fetch 63 = .ok (.aload_n 0, 1) := by decide +kernel
theorem dX11_fetch_64 : decode cX11_fetch 64 = .ok (.getfield 64, 3) := by decide +kernel
theorem dX11_fetch_67 : decode cX11_fetch 67 = .ok (.aload 5, 2) := by decide +kernel
theorem dX11_fetch_69 : decode cX11_fetch 69 = .ok (.lload_n 2, 1) := by decide +kernel
theorem dX11_fetch_70 : decode cX11_fetch 70 = .ok (.invokevirtual 257, 3) := by decide +kernel
theorem dX11_fetch_73 : decode cX11_fetch 73 = .ok (.istore 6, 2) := by decide +kernel
theorem dX11_fetch_75 : decode cX11_fetch 75 = .ok (.iload 6, 2) := by decide +kernel
theorem dX11_fetch_77 : decode cX11_fetch 77 = .ok (.aload 5, 2) := by decide +kernel
theorem dX11_fetch_79 : decode cX11_fetch 79 = .ok (.getfield 239, 3) := by decide +kernel
theorem dX11_fetch_82 : decode cX11_fetch 82 = .ok (.if_icmp .ge 61, 3) := by decide +kernel
theorem dX11_fetch_85 : decode cX11_fetch 85 = .ok (.aload_n 0, 1) := by decide +kernel
theorem dX11_fetch_86 : decode cX11_fetch 86 = .ok (.getfield 30, 3) := by decide +kernel
theorem dX11_fetch_89 : decode cX11_fetch 89 = .ok (.aload_n 0, 1) := by decide +kernel
theorem dX11_fetch_90 : decode cX11_fetch 90 = .ok (.getfield 60, 3) := by decide +kernel
theorem dX11_fetch_93 : decode cX11_fetch 93 = .ok (.getfield 214, 3) := by decide +kernel
theorem dX11_fetch_96 : decode cX11_fetch 96 = .ok (.aload 5, 2) := by decide +kernel
theorem dX11_fetch_98 : decode cX11_fetch 98 = .ok (.getfield 260, 3) := by decide +kernel
theorem dX11_fetch_101 : decode cX11_fetch 101 = .ok (.iload 6, 2) := by decide +kernel
theorem dX11_fetch_103 : decode cX11_fetch 103 = .ok (.iaload, 1) := by decide +kernel
theorem dX11_fetch_104 : decode cX11_fetch 104 = .ok (.invokestatic 264, 3) := by decide +kernel
theorem dX11_fetch_107 : decode cX11_fetch 107 = .ok (.iload 4, 2) := by decide +kernel
theorem dX11_fetch_109 : decode cX11_fetch 109 = .ok (.invokevirtual 267, 3) := by decide +kernel
theorem dX11_fetch_112 : decode cX11_fetch 112 = .ok (.ifCond .eq 31, 3) := by decide +kernel
theorem dX11_fetch_115 : decode cX11_fetch 115 = .ok (.aload_n 0, 1) := by decide +kernel
theorem dX11_fetch_116 : decode cX11_fetch 116 = .ok (.getfield 30, 3) := by decide +kernel
theorem dX11_fetch_119 : decode cX11_fetch 119 = .ok (.aload_n 0, 1) := by decide +kernel
theorem dX11_fetch_120 : decode cX11_fetch 120 = .ok (.getfield 60, 3) := by decide +kernel
theorem dX11_fetch_123 : decode cX11_fetch 123 = .ok (.getfield 214, 3) := by decide +kernel
theorem dX11_fetch_126 : decode cX11_fetch 126 = .ok (.aload 5, 2) := by decide +kernel
theorem dX11_fetch_128 : decode cX11_fetch 128 = .ok (.getfield 260, 3) := by decide +kernel
theorem dX11_fetch_131 : decode cX11_fetch 131 = .ok (.iload 6, 2) := by decide +kernel
theorem dX11_fetch_133 : decode cX11_fetch 133 = .ok (.iaload, 1) := by decide +kernel
theorem dX11_fetch_134 : decode cX11_fetch 134 = .ok (.invokevirtual 271, 3) := by decide +kernel
theorem dX11_fetch_137 : decode cX11_fetch 137 = .ok (.iinc 6 1, 3) := by decide +kernel
theorem dX11_fetch_140 : decode cX11_fetch 140 = .ok (.goto (-65), 3) := by decide +kernel
theorem dX11_fetch_143 : decode cX11_fetch 143 = .ok (.aload_n 0, 1) := by decide +kernel
theorem dX11_fetch_144 : decode cX11_fetch 144 = .ok (.getfield 30, 3) := by decide +kernel
theorem dX11_fetch_147 : decode cX11_fetch 147 = .ok (.getfield 273, 3) := by decide +kernel
theorem dX11_fetch_150 : decode cX11_fetch 150 = .ok (.ireturn, 1) := by decide +kernel
theorem dX11_byteAt_0 : decode cX11_byteAt 0 = .ok (.iload_n 1, 1) := by decide +kernel
theorem dX11_byteAt_1 : decode cX11_byteAt 1 = .ok (.i2l, 1) := by decide +kernel
theorem dX11_byteAt_2 : decode cX11_byteAt 2 = .ok (.lconst 0, 1) := by decide +kernel
theorem dX11_byteAt_3 : decode cX11_byteAt 3 = .ok (.aload_n 0, 1) := by decide +kernel
theorem dX11_byteAt_4 : decode cX11_byteAt 4 = .ok (.getfield 30, 3) := by decide +kernel
theorem dX11_byteAt_7 : decode cX11_byteAt 7 = .ok (.getfield 273, 3) := by decide +kernel
theorem dX11_byteAt_10 : decode cX11_byteAt 10 = .ok (.iconst 1, 1) := by decide +kernel
theorem dX11_byteAt_11 : decode cX11_byteAt 11 = .ok (.isub, 1) := by decide +kernel
theorem dX11_byteAt_12 : decode cX11_byteAt 12 = .ok (.i2l, 1) := by decide +kernel
theorem dX11_byteAt_13 : decode cX11_byteAt 13 = .ok (.invokestatic 97, 3) := by decide +kernel
theorem dX11_byteAt_16 : decode cX11_byteAt 16 = .ok (.invokestatic 101, 3) := by decide +kernel
theorem dX11_byteAt_19 : decode cX11_byteAt 19 = .ok (.aload_n 0, 1) := by decide +kernel
theorem dX11_byteAt_20 : decode cX11_byteAt 20 = .ok (.getfield 30, 3) := by decide +kernel
theorem dX11_byteAt_23 : decode cX11_byteAt 23 = .ok (.getfield 276, 3) := by decide +kernel
theorem dX11_byteAt_26 : decode cX11_byteAt 26 = .ok (.iload_n 1, 1) := by decide +kernel
theorem dX11_byteAt_27 : decode cX11_byteAt 27 = .ok (.baload, 1) := by decide +kernel
theorem dX11_byteAt_28 : decode cX11_byteAt 28 = .ok (.sipush 255, 3) := by decide +kernel
theorem dX11_byteAt_31 : decode cX11_byteAt 31 = .ok (.iand, 1) := by decide +kernel
theorem dX11_byteAt_32 : decode cX11_byteAt 32 = .ok (.ireturn, 1) := by decide +kernel
theorem dX11_taken_0 : decode cX11_taken 0 = .ok (.iload_n 1, 1) := by decide +kernel
theorem dX11_taken_1 : decode cX11_taken 1 = .ok (.ifCond .lt 30, 3) := by decide +kernel
theorem dX11_taken_4 : decode cX11_taken 4 = .ok (.iload_n 2, 1) := by decide +kernel
theorem dX11_taken_5 : decode cX11_taken 5 = .ok (.i2l, 1) := by decide +kernel
theorem dX11_taken_6 : decode cX11_taken 6 = .ok (.lconst 0, 1) := by decide +kernel
theorem dX11_taken_7 : decode cX11_taken 7 = .ok (.ldc2_w 226, 3) := by decide +kernel
theorem dX11_taken_10 : decode cX11_taken 10 = .ok (.invokestatic 97, 3) := by decide +kernel
theorem dX11_taken_13 : decode cX11_taken 13 = .ok (.ifCond .eq 18, 3) := by decide +kernel
theorem dX11_taken_16 : decode cX11_taken 16 = .ok (.aload_n 0, 1) := by decide +kernel
theorem dX11_taken_17 : decode cX11_taken 17 = .ok (.getfield 30, 3) := by decide +kernel
theorem dX11_taken_20 : decode cX11_taken 20 = .ok (.iload_n 1, 1) := by decide +kernel
theorem dX11_taken_21 : decode cX11_taken 21 = .ok (.invokevirtual 277, 3) := by decide +kernel
theorem dX11_taken_24 : decode cX11_taken 24 = .ok (.ifCond .eq 7, 3) := by decide +kernel
theorem dX11_taken_27 : decode cX11_taken 27 = .ok (.iconst 1, 1) := by decide +kernel
theorem dX11_taken_28 : decode cX11_taken 28 = .ok (.goto 4, 3) := by decide +kernel
theorem dX11_taken_31 : decode cX11_taken 31 = .ok (.iconst 0, 1) := by decide +kernel
theorem dX11_taken_32 : decode cX11_taken 32 = .ok (.invokestatic 101, 3) := by decide +kernel
theorem dX11_taken_35 : decode cX11_taken 35 = .ok (.aload_n 0, 1) := by decide +kernel
theorem dX11_taken_36 : decode cX11_taken 36 = .ok (.getfield 30, 3) := by decide +kernel
theorem dX11_taken_39 : decode cX11_taken 39 = .ok (.iload_n 2, 1) := by decide +kernel
theorem dX11_taken_40 : decode cX11_taken 40 = .ok (.invokevirtual 280, 3) := by decide +kernel
theorem dX11_taken_43 : decode cX11_taken 43 = .ok (.lreturn, 1) := by decide +kernel
theorem dX11_find_0 : decode cX11_find 0 = .ok (.aload_n 0, 1) := by decide +kernel
theorem dX11_find_1 : decode cX11_find 1 = .ok (.iload_n 1, 1) := by decide +kernel
theorem dX11_find_2 : decode cX11_find 2 = .ok (.invokevirtual 201, 3) := by decide +kernel
theorem dX11_find_5 : decode cX11_find 5 = .ok (.invokestatic 101, 3) := by decide +kernel
theorem dX11_find_8 : decode cX11_find 8 = .ok (.aload_n 0, 1) := by decide +kernel
theorem dX11_find_9 : decode cX11_find 9 = .ok (.invokevirtual 171, 3) := by decide +kernel
theorem dX11_find_12 : decode cX11_find 12 = .ok (.aload_n 0, 1) := by decide +kernel
theorem dX11_find_13 : decode cX11_find 13 = .ok (.getfield 64, 3) := by decide +kernel
theorem dX11_find_16 : decode cX11_find 16 = .ok (.aload_n 0, 1) := by decide +kernel
theorem dX11_find_17 : decode cX11_find 17 = .ok (.getfield 64, 3) := by decide +kernel
theorem dX11_find_20 : decode cX11_find 20 = .ok (.getfield 193, 3) := by decide +kernel
theorem dX11_find_23 : decode cX11_find 23 = .ok (.iload_n 1, 1) := by decide +kernel
theorem dX11_find_24 : decode cX11_find 24 = .ok (.aaload, 1) := by decide +kernel
theorem dX11_find_25 : decode cX11_find 25 = .ok (.lload_n 2, 1) := by decide +kernel
theorem dX11_find_26 : decode cX11_find 26 = .ok (.invokevirtual 284, 3) := by decide +kernel
theorem dX11_find_29 : decode cX11_find 29 = .ok (.lreturn, 1) := by decide +kernel
theorem dX11_retain_0 : decode cX11_retain 0 = .ok (.aload_n 0, 1) := by decide +kernel
theorem dX11_retain_1 : decode cX11_retain 1 = .ok (.iload_n 1, 1) := by decide +kernel
theorem dX11_retain_2 : decode cX11_retain 2 = .ok (.invokevirtual 187, 3) := by decide +kernel
theorem dX11_retain_5 : decode cX11_retain 5 = .ok (.ifCond .eq 11, 3) := by decide +kernel
theorem dX11_retain_8 : decode cX11_retain 8 = .ok (.iload_n 2, 1) := by decide +kernel
theorem dX11_retain_9 : decode cX11_retain 9 = .ok (.ifCond .lt 7, 3) := by decide +kernel
theorem dX11_retain_12 : decode cX11_retain 12 = .ok (.iconst 1, 1) := by decide +kernel
theorem dX11_retain_13 : decode cX11_retain 13 = .ok (.goto 4, 3) := by decide +kernel
theorem dX11_retain_16 : decode cX11_retain 16 = .ok (.iconst 0, 1) := by decide +kernel
theorem dX11_retain_17 : decode cX11_retain 17 = .ok (.invokestatic 101, 3) := by decide +kernel
theorem dX11_retain_20 : decode cX11_retain 20 = .ok (.aload_n 0, 1) := by decide +kernel
theorem dX11_retain_21 : decode cX11_retain 21 = .ok (.invokevirtual 171, 3) := by decide +kernel
theorem dX11_retain_24 : decode cX11_retain 24 = .ok (.aload_n 0, 1) := by decide +kernel
theorem dX11_retain_25 : decode cX11_retain 25 = .ok (.getfield 64, 3) := by decide +kernel
theorem dX11_retain_28 : decode cX11_retain 28 = .ok (.aload_n 0, 1) := by decide +kernel
theorem dX11_retain_29 : decode cX11_retain 29 = .ok (.getfield 64, 3) := by decide +kernel
theorem dX11_retain_32 : decode cX11_retain 32 = .ok (.getfield 193, 3) := by decide +kernel
theorem dX11_retain_35 : decode cX11_retain 35 = .ok (.iload_n 1, 1) := by decide +kernel
theorem dX11_retain_36 : decode cX11_retain 36 = .ok (.aaload, 1) := by decide +kernel
theorem dX11_retain_37 : decode cX11_retain 37 = .ok (.iload_n 2, 1) := by decide +kernel
theorem dX11_retain_38 : decode cX11_retain 38 = .ok (.invokevirtual 288, 3) := by decide +kernel
theorem dX11_retain_41 : decode cX11_retain 41 = .ok (.ireturn, 1) := by decide +kernel
theorem dX11_compact_0 : decode cX11_compact 0 = .ok (.aload_n 0, 1) := by decide +kernel
theorem dX11_compact_1 : decode cX11_compact 1 = .ok (.iload_n 1, 1) := by decide +kernel
theorem dX11_compact_2 : decode cX11_compact 2 = .ok (.invokevirtual 201, 3) := by decide +kernel
theorem dX11_compact_5 : decode cX11_compact 5 = .ok (.invokestatic 101, 3) := by decide +kernel
theorem dX11_compact_8 : decode cX11_compact 8 = .ok (.aload_n 0, 1) := by decide +kernel
theorem dX11_compact_9 : decode cX11_compact 9 = .ok (.invokevirtual 171, 3) := by decide +kernel
theorem dX11_compact_12 : decode cX11_compact 12 = .ok (.aload_n 0, 1) := by decide +kernel
theorem dX11_compact_13 : decode cX11_compact 13 = .ok (.getfield 73, 3) := by decide +kernel
theorem dX11_compact_16 : decode cX11_compact 16 = .ok (.aload_n 0, 1) := by decide +kernel
theorem dX11_compact_17 : decode cX11_compact 17 = .ok (.getfield 64, 3) := by decide +kernel
theorem dX11_compact_20 : decode cX11_compact 20 = .ok (.getfield 193, 3) := by decide +kernel
theorem dX11_compact_23 : decode cX11_compact 23 = .ok (.iload_n 1, 1) := by decide +kernel
theorem dX11_compact_24 : decode cX11_compact 24 = .ok (.aaload, 1) := by decide +kernel
theorem dX11_compact_25 : decode cX11_compact 25 = .ok (.aload_n 0, 1) := by decide +kernel
theorem dX11_compact_26 : decode cX11_compact 26 = .ok (.getfield 80, 3) := by decide +kernel
theorem dX11_compact_29 : decode cX11_compact 29 = .ok (.getfield 292, 3) := by decide +kernel
theorem dX11_compact_32 : decode cX11_compact 32 = .ok (.invokevirtual 295, 3) := by decide +kernel
theorem dX11_compact_35 : decode cX11_compact 35 = .ok (.ireturn, 1) := by decide +kernel
theorem dX11_join_0 : decode cX11_join 0 = .ok (.iload_n 1, 1) := by decide +kernel
theorem dX11_join_1 : decode cX11_join 1 = .ok (.invokestatic 298, 3) := by decide +kernel
theorem dX11_join_4 : decode cX11_join 4 = .ok (.ifCond .eq 14, 3) := by decide +kernel
theorem dX11_join_7 : decode cX11_join 7 = .ok (.iload_n 2, 1) := by decide +kernel
theorem dX11_join_8 : decode cX11_join 8 = .ok (.invokestatic 298, 3) := by decide +kernel
theorem dX11_join_11 : decode cX11_join 11 = .ok (.ifCond .eq 7, 3) := by decide +kernel
theorem dX11_join_14 : decode cX11_join 14 = .ok (.iconst 1, 1) := by decide +kernel
theorem dX11_join_15 : decode cX11_join 15 = .ok (.goto 4, 3) := by decide +kernel
theorem dX11_join_18 : decode cX11_join 18 = .ok (.iconst 0, 1) := by decide +kernel
theorem dX11_join_19 : decode cX11_join 19 = .ok (.invokestatic 101, 3) := by decide +kernel
theorem dX11_join_22 : decode cX11_join 22 = .ok (.aload_n 0, 1) := by decide +kernel
theorem dX11_join_23 : decode cX11_join 23 = .ok (.invokevirtual 171, 3) := by decide +kernel
theorem dX11_join_26 : decode cX11_join 26 = .ok (.aload_n 0, 1) := by decide +kernel
theorem dX11_join_27 : decode cX11_join 27 = .ok (.getfield 80, 3) := by decide +kernel
theorem dX11_join_30 : decode cX11_join 30 = .ok (.iload_n 1, 1) := by decide +kernel
theorem dX11_join_31 : decode cX11_join 31 = .ok (.iload_n 2, 1) := by decide +kernel
theorem dX11_join_32 : decode cX11_join 32 = .ok (.invokevirtual 301, 3) := by decide +kernel
theorem dX11_join_35 : decode cX11_join 35 = .ok (.ireturn, 1) := by decide +kernel
theorem dX11_leave_0 : decode cX11_leave 0 = .ok (.iload_n 1, 1) := by decide +kernel
theorem dX11_leave_1 : decode cX11_leave 1 = .ok (.invokestatic 298, 3) := by decide +kernel
theorem dX11_leave_4 : decode cX11_leave 4 = .ok (.ifCond .eq 14, 3) := by decide +kernel
theorem dX11_leave_7 : decode cX11_leave 7 = .ok (.iload_n 2, 1) := by decide +kernel
theorem dX11_leave_8 : decode cX11_leave 8 = .ok (.invokestatic 298, 3) := by decide +kernel
theorem dX11_leave_11 : decode cX11_leave 11 = .ok (.ifCond .eq 7, 3) := by decide +kernel
theorem dX11_leave_14 : decode cX11_leave 14 = .ok (.iconst 1, 1) := by decide +kernel
theorem dX11_leave_15 : decode cX11_leave 15 = .ok (.goto 4, 3) := by decide +kernel
theorem dX11_leave_18 : decode cX11_leave 18 = .ok (.iconst 0, 1) := by decide +kernel
theorem dX11_leave_19 : decode cX11_leave 19 = .ok (.invokestatic 101, 3) := by decide +kernel
theorem dX11_leave_22 : decode cX11_leave 22 = .ok (.aload_n 0, 1) := by decide +kernel
theorem dX11_leave_23 : decode cX11_leave 23 = .ok (.invokevirtual 171, 3) := by decide +kernel
theorem dX11_leave_26 : decode cX11_leave 26 = .ok (.aload_n 0, 1) := by decide +kernel
theorem dX11_leave_27 : decode cX11_leave 27 = .ok (.getfield 80, 3) := by decide +kernel
theorem dX11_leave_30 : decode cX11_leave 30 = .ok (.iload_n 1, 1) := by decide +kernel
theorem dX11_leave_31 : decode cX11_leave 31 = .ok (.iload_n 2, 1) := by decide +kernel
theorem dX11_leave_32 : decode cX11_leave 32 = .ok (.invokevirtual 304, 3) := by decide +kernel
theorem dX11_leave_35 : decode cX11_leave 35 = .ok (.ireturn, 1) := by decide +kernel
theorem dX11_beat_0 : decode cX11_beat 0 = .ok (.iload_n 1, 1) := by decide +kernel
theorem dX11_beat_1 : decode cX11_beat 1 = .ok (.invokestatic 298, 3) := by decide +kernel
theorem dX11_beat_4 : decode cX11_beat 4 = .ok (.ifCond .eq 14, 3) := by decide +kernel
theorem dX11_beat_7 : decode cX11_beat 7 = .ok (.iload_n 2, 1) := by decide +kernel
theorem dX11_beat_8 : decode cX11_beat 8 = .ok (.invokestatic 298, 3) := by decide +kernel
theorem dX11_beat_11 : decode cX11_beat 11 = .ok (.ifCond .eq 7, 3) := by decide +kernel
theorem dX11_beat_14 : decode cX11_beat 14 = .ok (.iconst 1, 1) := by decide +kernel
theorem dX11_beat_15 : decode cX11_beat 15 = .ok (.goto 4, 3) := by decide +kernel
theorem dX11_beat_18 : decode cX11_beat 18 = .ok (.iconst 0, 1) := by decide +kernel
theorem dX11_beat_19 : decode cX11_beat 19 = .ok (.invokestatic 101, 3) := by decide +kernel
theorem dX11_beat_22 : decode cX11_beat 22 = .ok (.aload_n 0, 1) := by decide +kernel
theorem dX11_beat_23 : decode cX11_beat 23 = .ok (.invokevirtual 171, 3) := by decide +kernel
theorem dX11_beat_26 : decode cX11_beat 26 = .ok (.aload_n 0, 1) := by decide +kernel
theorem dX11_beat_27 : decode cX11_beat 27 = .ok (.getfield 80, 3) := by decide +kernel
theorem dX11_beat_30 : decode cX11_beat 30 = .ok (.iload_n 1, 1) := by decide +kernel
theorem dX11_beat_31 : decode cX11_beat 31 = .ok (.iload_n 2, 1) := by decide +kernel
theorem dX11_beat_32 : decode cX11_beat 32 = .ok (.iload_n 3, 1) := by decide +kernel
theorem dX11_beat_33 : decode cX11_beat 33 = .ok (.invokevirtual 307, 3) := by decide +kernel
theorem dX11_beat_36 : decode cX11_beat 36 = .ok (.ireturn, 1) := by decide +kernel
theorem dX11_commit_0 : decode cX11_commit 0 = .ok (.iload_n 1, 1) := by decide +kernel
theorem dX11_commit_1 : decode cX11_commit 1 = .ok (.invokestatic 298, 3) := by decide +kernel
theorem dX11_commit_4 : decode cX11_commit 4 = .ok (.ifCond .eq 23, 3) := by decide +kernel
theorem dX11_commit_7 : decode cX11_commit 7 = .ok (.iload_n 2, 1) := by decide +kernel
theorem dX11_commit_8 : decode cX11_commit 8 = .ok (.invokestatic 298, 3) := by decide +kernel
theorem dX11_commit_11 : decode cX11_commit 11 = .ok (.ifCond .eq 16, 3) := by decide +kernel
theorem dX11_commit_14 : decode cX11_commit 14 = .ok (.aload_n 0, 1) := by decide +kernel
theorem dX11_commit_15 : decode cX11_commit 15 = .ok (.iload 4, 2) := by decide +kernel
theorem dX11_commit_17 : decode cX11_commit 17 = .ok (.invokevirtual 187, 3) := by decide +kernel
theorem dX11_commit_20 : decode cX11_commit 20 = .ok (.ifCond .eq 7, 3) := by decide +kernel
theorem dX11_commit_23 : decode cX11_commit 23 = .ok (.iconst 1, 1) := by decide +kernel
theorem dX11_commit_24 : decode cX11_commit 24 = .ok (.goto 4, 3) := by decide +kernel
theorem dX11_commit_27 : decode cX11_commit 27 = .ok (.iconst 0, 1) := by decide +kernel
theorem dX11_commit_28 : decode cX11_commit 28 = .ok (.invokestatic 101, 3) := by decide +kernel
theorem dX11_commit_31 : decode cX11_commit 31 = .ok (.aload_n 0, 1) := by decide +kernel
theorem dX11_commit_32 : decode cX11_commit 32 = .ok (.invokevirtual 171, 3) := by decide +kernel
theorem dX11_commit_35 : decode cX11_commit 35 = .ok (.aload_n 0, 1) := by decide +kernel
theorem dX11_commit_36 : decode cX11_commit 36 = .ok (.getfield 80, 3) := by decide +kernel
theorem dX11_commit_39 : decode cX11_commit 39 = .ok (.iload_n 1, 1) := by decide +kernel
theorem dX11_commit_40 : decode cX11_commit 40 = .ok (.iload_n 2, 1) := by decide +kernel
theorem dX11_commit_41 : decode cX11_commit 41 = .ok (.iload_n 3, 1) := by decide +kernel
theorem dX11_commit_42 : decode cX11_commit 42 = .ok (.invokevirtual 311, 3) := by decide +kernel
theorem dX11_commit_45 : decode cX11_commit 45 = .ok (.istore 7, 2) := by decide +kernel
theorem dX11_commit_47 : decode cX11_commit 47 = .ok (.iload 7, 2) := by decide +kernel
theorem dX11_commit_49 : decode cX11_commit 49 = .ok (.ifCond .eq 6, 3) := by decide +kernel
theorem dX11_commit_52 : decode cX11_commit 52 = .ok (.iload 7, 2) := by decide +kernel
theorem dX11_commit_54 : decode cX11_commit 54 = .ok (.ireturn, 1) := by decide +kernel
theorem dX11_commit_55 : decode cX11_commit 55 = .ok (.aload_n 0, 1) := by decide +kernel
theorem dX11_commit_56 : decode cX11_commit 56 = .ok (.getfield 80, 3) := by decide +kernel
theorem dX11_commit_59 : decode cX11_commit 59 = .ok (.iload_n 1, 1) := by decide +kernel
theorem dX11_commit_60 : decode cX11_commit 60 = .ok (.iload_n 2, 1) := by decide +kernel
theorem dX11_commit_61 : decode cX11_commit 61 = .ok (.iload 4, 2) := by decide +kernel
theorem dX11_commit_63 : decode cX11_commit 63 = .ok (.lload 5, 2) := by decide +kernel
theorem dX11_commit_65 : decode cX11_commit 65 = .ok (.invokevirtual 314, 3) := by decide +kernel
theorem dX11_commit_68 : decode cX11_commit 68 = .ok (.ireturn, 1) := by decide +kernel
theorem dX11_committed_0 : decode cX11_committed 0 = .ok (.iload_n 1, 1) := by decide +kernel
theorem dX11_committed_1 : decode cX11_committed 1 = .ok (.invokestatic 298, 3) := by decide +kernel
theorem dX11_committed_4 : decode cX11_committed 4 = .ok (.ifCond .eq 15, 3) := by decide +kernel
theorem dX11_committed_7 : decode cX11_committed 7 = .ok (.aload_n 0, 1) := by decide +kernel
theorem dX11_committed_8 : decode cX11_committed 8 = .ok (.iload_n 2, 1) := by decide +kernel
theorem dX11_committed_9 : decode cX11_committed 9 = .ok (.invokevirtual 187, 3) := by decide +kernel
theorem dX11_committed_12 : decode cX11_committed 12 = .ok (.ifCond .eq 7, 3) := by decide +kernel
theorem dX11_committed_15 : decode cX11_committed 15 = .ok (.iconst 1, 1) := by decide +kernel
theorem dX11_committed_16 : decode cX11_committed 16 = .ok (.goto 4, 3) := by decide +kernel
theorem dX11_committed_19 : decode cX11_committed 19 = .ok (.iconst 0, 1) := by decide +kernel
theorem dX11_committed_20 : decode cX11_committed 20 = .ok (.invokestatic 101, 3) := by decide +kernel
theorem dX11_committed_23 : decode cX11_committed 23 = .ok (.aload_n 0, 1) := by decide +kernel
theorem dX11_committed_24 : decode cX11_committed 24 = .ok (.invokevirtual 171, 3) := by decide +kernel
theorem dX11_committed_27 : decode cX11_committed 27 = .ok (.aload_n 0, 1) := by decide +kernel
theorem dX11_committed_28 : decode cX11_committed 28 = .ok (.getfield 80, 3) := by decide +kernel
theorem dX11_committed_31 : decode cX11_committed 31 = .ok (.iload_n 1, 1) := by decide +kernel
theorem dX11_committed_32 : decode cX11_committed 32 = .ok (.iload_n 2, 1) := by decide +kernel
theorem dX11_committed_33 : decode cX11_committed 33 = .ok (.invokevirtual 318, 3) := by decide +kernel
theorem dX11_committed_36 : decode cX11_committed 36 = .ok (.lreturn, 1) := by decide +kernel
theorem dX11_group_0 : decode cX11_group 0 = .ok (.iload_n 1, 1) := by decide +kernel
theorem dX11_group_1 : decode cX11_group 1 = .ok (.invokestatic 298, 3) := by decide +kernel
theorem dX11_group_4 : decode cX11_group 4 = .ok (.ifCond .eq 19, 3) := by decide +kernel
theorem dX11_group_7 : decode cX11_group 7 = .ok (.iload_n 2, 1) := by decide +kernel
theorem dX11_group_8 : decode cX11_group 8 = .ok (.i2l, 1) := by decide +kernel
theorem dX11_group_9 : decode cX11_group 9 = .ok (.lconst 0, 1) := by decide +kernel
theorem dX11_group_10 : decode cX11_group 10 = .ok (.ldc2_w 322, 3) := by decide +kernel
theorem dX11_group_13 : decode cX11_group 13 = .ok (.invokestatic 97, 3) := by decide +kernel
theorem dX11_group_16 : decode cX11_group 16 = .ok (.ifCond .eq 7, 3) := by decide +kernel
theorem dX11_group_19 : decode cX11_group 19 = .ok (.iconst 1, 1) := by decide +kernel
theorem dX11_group_20 : decode cX11_group 20 = .ok (.goto 4, 3) := by decide +kernel
theorem dX11_group_23 : decode cX11_group 23 = .ok (.iconst 0, 1) := by decide +kernel
theorem dX11_group_24 : decode cX11_group 24 = .ok (.invokestatic 101, 3) := by decide +kernel
theorem dX11_group_27 : decode cX11_group 27 = .ok (.aload_n 0, 1) := by decide +kernel
theorem dX11_group_28 : decode cX11_group 28 = .ok (.invokevirtual 171, 3) := by decide +kernel
theorem dX11_group_31 : decode cX11_group 31 = .ok (.iload_n 2, 1) := by decide +kernel
theorem dX11_group_32 : decode cX11_group 32 = .ok (.tableswitch 72 0 3 #[32, 42, 52, 62], 32) := by decide +kernel
theorem dX11_group_64 : decode cX11_group 64 = .ok (.aload_n 0, 1) := by decide +kernel
theorem dX11_group_65 : decode cX11_group 65 = .ok (.getfield 80, 3) := by decide +kernel
theorem dX11_group_68 : decode cX11_group 68 = .ok (.getfield 324, 3) := by decide +kernel
theorem dX11_group_71 : decode cX11_group 71 = .ok (.iload_n 1, 1) := by decide +kernel
theorem dX11_group_72 : decode cX11_group 72 = .ok (.iaload, 1) := by decide +kernel
theorem dX11_group_73 : decode cX11_group 73 = .ok (.ireturn, 1) := by decide +kernel
theorem dX11_group_74 : decode cX11_group 74 = .ok (.aload_n 0, 1) := by decide +kernel
theorem dX11_group_75 : decode cX11_group 75 = .ok (.getfield 80, 3) := by decide +kernel
theorem dX11_group_78 : decode cX11_group 78 = .ok (.getfield 327, 3) := by decide +kernel
theorem dX11_group_81 : decode cX11_group 81 = .ok (.iload_n 1, 1) := by decide +kernel
theorem dX11_group_82 : decode cX11_group 82 = .ok (.iaload, 1) := by decide +kernel
theorem dX11_group_83 : decode cX11_group 83 = .ok (.ireturn, 1) := by decide +kernel
theorem dX11_group_84 : decode cX11_group 84 = .ok (.aload_n 0, 1) := by decide +kernel
theorem dX11_group_85 : decode cX11_group 85 = .ok (.getfield 80, 3) := by decide +kernel
theorem dX11_group_88 : decode cX11_group 88 = .ok (.getfield 330, 3) := by decide +kernel
theorem dX11_group_91 : decode cX11_group 91 = .ok (.iload_n 1, 1) := by decide +kernel
theorem dX11_group_92 : decode cX11_group 92 = .ok (.iaload, 1) := by decide +kernel
theorem dX11_group_93 : decode cX11_group 93 = .ok (.ireturn, 1) := by decide +kernel
theorem dX11_group_94 : decode cX11_group 94 = .ok (.aload_n 0, 1) := by decide +kernel
theorem dX11_group_95 : decode cX11_group 95 = .ok (.getfield 80, 3) := by decide +kernel
theorem dX11_group_98 : decode cX11_group 98 = .ok (.getfield 333, 3) := by decide +kernel
theorem dX11_group_101 : decode cX11_group 101 = .ok (.iload_n 1, 1) := by decide +kernel
theorem dX11_group_102 : decode cX11_group 102 = .ok (.iaload, 1) := by decide +kernel
theorem dX11_group_103 : decode cX11_group 103 = .ok (.ireturn, 1) := by decide +kernel
theorem dX11_group_104 : decode cX11_group 104 = .ok (.aload_n 0, 1) := by decide +kernel
theorem dX11_group_105 : decode cX11_group 105 = .ok (.getfield 80, 3) := by decide +kernel
theorem dX11_group_108 : decode cX11_group 108 = .ok (.iload_n 1, 1) := by decide +kernel
theorem dX11_group_109 : decode cX11_group 109 = .ok (.invokevirtual 336, 3) := by decide +kernel
theorem dX11_group_112 : decode cX11_group 112 = .ok (.ireturn, 1) := by decide +kernel
theorem dX11_share_0 : decode cX11_share 0 = .ok (.iload_n 1, 1) := by decide +kernel
theorem dX11_share_1 : decode cX11_share 1 = .ok (.invokestatic 298, 3) := by decide +kernel
theorem dX11_share_4 : decode cX11_share 4 = .ok (.ifCond .eq 14, 3) := by decide +kernel
theorem dX11_share_7 : decode cX11_share 7 = .ok (.iload_n 2, 1) := by decide +kernel
theorem dX11_share_8 : decode cX11_share 8 = .ok (.invokestatic 298, 3) := by decide +kernel
theorem dX11_share_11 : decode cX11_share 11 = .ok (.ifCond .eq 7, 3) := by decide +kernel
theorem dX11_share_14 : decode cX11_share 14 = .ok (.iconst 1, 1) := by decide +kernel
theorem dX11_share_15 : decode cX11_share 15 = .ok (.goto 4, 3) := by decide +kernel
theorem dX11_share_18 : decode cX11_share 18 = .ok (.iconst 0, 1) := by decide +kernel
theorem dX11_share_19 : decode cX11_share 19 = .ok (.invokestatic 101, 3) := by decide +kernel
theorem dX11_share_22 : decode cX11_share 22 = .ok (.aload_n 0, 1) := by decide +kernel
theorem dX11_share_23 : decode cX11_share 23 = .ok (.invokevirtual 171, 3) := by decide +kernel
theorem dX11_share_26 : decode cX11_share 26 = .ok (.aload_n 0, 1) := by decide +kernel
theorem dX11_share_27 : decode cX11_share 27 = .ok (.getfield 80, 3) := by decide +kernel
theorem dX11_share_30 : decode cX11_share 30 = .ok (.iload_n 1, 1) := by decide +kernel
theorem dX11_share_31 : decode cX11_share 31 = .ok (.iload_n 2, 1) := by decide +kernel
theorem dX11_share_32 : decode cX11_share 32 = .ok (.invokevirtual 340, 3) := by decide +kernel
theorem dX11_share_35 : decode cX11_share 35 = .ok (.ireturn, 1) := by decide +kernel
theorem dX11_ticks_0 : decode cX11_ticks 0 = .ok (.iload_n 1, 1) := by decide +kernel
theorem dX11_ticks_1 : decode cX11_ticks 1 = .ok (.i2l, 1) := by decide +kernel
theorem dX11_ticks_2 : decode cX11_ticks 2 = .ok (.lconst 1, 1) := by decide +kernel
theorem dX11_ticks_3 : decode cX11_ticks 3 = .ok (.ldc2_w 343, 3) := by decide +kernel
theorem dX11_ticks_6 : decode cX11_ticks 6 = .ok (.invokestatic 97, 3) := by decide +kernel
theorem dX11_ticks_9 : decode cX11_ticks 9 = .ok (.invokestatic 101, 3) := by decide +kernel
theorem dX11_ticks_12 : decode cX11_ticks 12 = .ok (.aload_n 0, 1) := by decide +kernel
theorem dX11_ticks_13 : decode cX11_ticks 13 = .ok (.invokevirtual 171, 3) := by decide +kernel
theorem dX11_ticks_16 : decode cX11_ticks 16 = .ok (.aload_n 0, 1) := by decide +kernel
theorem dX11_ticks_17 : decode cX11_ticks 17 = .ok (.getfield 80, 3) := by decide +kernel
theorem dX11_ticks_20 : decode cX11_ticks 20 = .ok (.getfield 292, 3) := by decide +kernel
theorem dX11_ticks_23 : decode cX11_ticks 23 = .ok (.iload_n 1, 1) := by decide +kernel
theorem dX11_ticks_24 : decode cX11_ticks 24 = .ok (.iadd, 1) := by decide +kernel
theorem dX11_ticks_25 : decode cX11_ticks 25 = .ok (.ldc_w 345, 3) := by decide +kernel
theorem dX11_ticks_28 : decode cX11_ticks 28 = .ok (.if_icmp .gt 7, 3) := by decide +kernel
theorem dX11_ticks_31 : decode cX11_ticks 31 = .ok (.iconst 1, 1) := by decide +kernel
theorem dX11_ticks_32 : decode cX11_ticks 32 = .ok (.goto 4, 3) := by decide +kernel
theorem dX11_ticks_35 : decode cX11_ticks 35 = .ok (.iconst 0, 1) := by decide +kernel
theorem dX11_ticks_36 : decode cX11_ticks 36 = .ok (.invokestatic 87, 3) := by decide +kernel
theorem dX11_ticks_39 : decode cX11_ticks 39 = .ok (.iconst 0, 1) := by decide +kernel
theorem dX11_ticks_40 : decode cX11_ticks 40 = .ok (.istore_n 2, 1) := by decide +kernel
theorem dX11_ticks_41 : decode cX11_ticks 41 = .ok (.iload_n 2, 1) := by decide +kernel
theorem dX11_ticks_42 : decode cX11_ticks 42 = .ok (.iload_n 1, 1) := by decide +kernel
theorem dX11_ticks_43 : decode cX11_ticks 43 = .ok (.if_icmp .ge 22, 3) := by decide +kernel
theorem dX11_ticks_46 : decode cX11_ticks 46 = .ok (.aload_n 0, 1) := by decide +kernel
theorem dX11_ticks_47 : decode cX11_ticks 47 = .ok (.getfield 80, 3) := by decide +kernel
theorem dX11_ticks_50 : decode cX11_ticks 50 = .ok (.invokevirtual 346, 3) := by decide +kernel
theorem dX11_ticks_53 : decode cX11_ticks 53 = .ok (.ifCond .ne 6, 3) := by decide +kernel
theorem dX11_ticks_56 : decode cX11_ticks 56 = .ok (.bipush (-3), 2) := by decide +kernel
theorem dX11_ticks_58 : decode cX11_ticks 58 = .ok (.ireturn, 1) := by decide +kernel
theorem dX11_ticks_59 : decode cX11_ticks 59 = .ok (.iinc 2 1, 3) := by decide +kernel
theorem dX11_ticks_62 : decode cX11_ticks 62 = .ok (.goto (-21), 3) := by decide +kernel
theorem dX11_ticks_65 : decode cX11_ticks 65 = .ok (.aload_n 0, 1) := by decide +kernel
theorem dX11_ticks_66 : decode cX11_ticks 66 = .ok (.getfield 80, 3) := by decide +kernel
theorem dX11_ticks_69 : decode cX11_ticks 69 = .ok (.getfield 292, 3) := by decide +kernel
theorem dX11_ticks_72 : decode cX11_ticks 72 = .ok (.ireturn, 1) := by decide +kernel
theorem dX11_time_0 : decode cX11_time 0 = .ok (.aload_n 0, 1) := by decide +kernel
theorem dX11_time_1 : decode cX11_time 1 = .ok (.getfield 80, 3) := by decide +kernel
theorem dX11_time_4 : decode cX11_time 4 = .ok (.getfield 292, 3) := by decide +kernel
theorem dX11_time_7 : decode cX11_time 7 = .ok (.ireturn, 1) := by decide +kernel
theorem dX11_crash_0 : decode cX11_crash 0 = .ok (.iload_n 1, 1) := by decide +kernel
theorem dX11_crash_1 : decode cX11_crash 1 = .ok (.i2l, 1) := by decide +kernel
theorem dX11_crash_2 : decode cX11_crash 2 = .ok (.ldc2_w 108, 3) := by decide +kernel
theorem dX11_crash_5 : decode cX11_crash 5 = .ok (.ldc2_w 350, 3) := by decide +kernel
theorem dX11_crash_8 : decode cX11_crash 8 = .ok (.invokestatic 97, 3) := by decide +kernel
theorem dX11_crash_11 : decode cX11_crash 11 = .ok (.invokestatic 101, 3) := by decide +kernel
theorem dX11_crash_14 : decode cX11_crash 14 = .ok (.aload_n 0, 1) := by decide +kernel
theorem dX11_crash_15 : decode cX11_crash 15 = .ok (.invokevirtual 171, 3) := by decide +kernel
theorem dX11_crash_18 : decode cX11_crash 18 = .ok (.aload_n 0, 1) := by decide +kernel
theorem dX11_crash_19 : decode cX11_crash 19 = .ok (.getfield 60, 3) := by decide +kernel
theorem dX11_crash_22 : decode cX11_crash 22 = .ok (.iload_n 1, 1) := by decide +kernel
theorem dX11_crash_23 : decode cX11_crash 23 = .ok (.putfield 352, 3) := by decide +kernel
theorem dX11_crash_26 : decode cX11_crash 26 = .ok (.aload_n 0, 1) := by decide +kernel
theorem dX11_crash_27 : decode cX11_crash 27 = .ok (.getfield 60, 3) := by decide +kernel
theorem dX11_crash_30 : decode cX11_crash 30 = .ok (.iload_n 1, 1) := by decide +kernel
theorem dX11_crash_31 : decode cX11_crash 31 = .ok (.ifCond .ne 7, 3) := by decide +kernel
theorem dX11_crash_34 : decode cX11_crash 34 = .ok (.iconst 1, 1) := by decide +kernel
theorem dX11_crash_35 : decode cX11_crash 35 = .ok (.goto 4, 3) := by decide +kernel
theorem dX11_crash_38 : decode cX11_crash 38 = .ok (.iconst 0, 1) := by decide +kernel
theorem dX11_crash_39 : decode cX11_crash 39 = .ok (.putfield 355, 3) := by decide +kernel
theorem dX11_crash_42 : decode cX11_crash 42 = .ok (.return_, 1) := by decide +kernel
theorem dX11_recover_0 : decode cX11_recover 0 = .ok (.aload_n 0, 1) := by decide +kernel
theorem dX11_recover_1 : decode cX11_recover 1 = .ok (.getfield 60, 3) := by decide +kernel
theorem dX11_recover_4 : decode cX11_recover 4 = .ok (.iconst 0, 1) := by decide +kernel
theorem dX11_recover_5 : decode cX11_recover 5 = .ok (.putfield 355, 3) := by decide +kernel
theorem dX11_recover_8 : decode cX11_recover 8 = .ok (.aload_n 0, 1) := by decide +kernel
theorem dX11_recover_9 : decode cX11_recover 9 = .ok (.getfield 60, 3) := by decide +kernel
theorem dX11_recover_12 : decode cX11_recover 12 = .ok (.iconst (-1), 1) := by decide +kernel
theorem dX11_recover_13 : decode cX11_recover 13 = .ok (.putfield 352, 3) := by decide +kernel
theorem dX11_recover_16 : decode cX11_recover 16 = .ok (.aload_n 0, 1) := by decide +kernel
theorem dX11_recover_17 : decode cX11_recover 17 = .ok (.aload_n 0, 1) := by decide +kernel
theorem dX11_recover_18 : decode cX11_recover 18 = .ok (.getfield 60, 3) := by decide +kernel
theorem dX11_recover_21 : decode cX11_recover 21 = .ok (.getfield 214, 3) := by decide +kernel
theorem dX11_recover_24 : decode cX11_recover 24 = .ok (.iconst 0, 1) := by decide +kernel
theorem dX11_recover_25 : decode cX11_recover 25 = .ok (.bipush 8, 2) := by decide +kernel
theorem dX11_recover_27 : decode cX11_recover 27 = .ok (.invokestatic 359, 3) := by decide +kernel
theorem dX11_recover_30 : decode cX11_recover 30 = .ok (.putfield 178, 3) := by decide +kernel
theorem dX11_recover_33 : decode cX11_recover 33 = .ok (.aload_n 0, 1) := by decide +kernel
theorem dX11_recover_34 : decode cX11_recover 34 = .ok (.aload_n 0, 1) := by decide +kernel
theorem dX11_recover_35 : decode cX11_recover 35 = .ok (.getfield 178, 3) := by decide +kernel
theorem dX11_recover_38 : decode cX11_recover 38 = .ok (.putfield 174, 3) := by decide +kernel
theorem dX11_recover_41 : decode cX11_recover 41 = .ok (.aload_n 0, 1) := by decide +kernel
theorem dX11_recover_42 : decode cX11_recover 42 = .ok (.getfield 64, 3) := by decide +kernel
theorem dX11_recover_45 : decode cX11_recover 45 = .ok (.invokevirtual 363, 3) := by decide +kernel
theorem dX11_recover_48 : decode cX11_recover 48 = .ok (.istore_n 1, 1) := by decide +kernel
theorem dX11_recover_49 : decode cX11_recover 49 = .ok (.aload_n 0, 1) := by decide +kernel
theorem dX11_recover_50 : decode cX11_recover 50 = .ok (.getfield 80, 3) := by decide +kernel
theorem dX11_recover_53 : decode cX11_recover 53 = .ok (.invokevirtual 367, 3) := by decide +kernel
theorem dX11_recover_56 : decode cX11_recover 56 = .ok (.iload_n 1, 1) := by decide +kernel
theorem dX11_recover_57 : decode cX11_recover 57 = .ok (.ireturn, 1) := by decide +kernel
theorem dX11_isDown_0 : decode cX11_isDown 0 = .ok (.aload_n 0, 1) := by decide +kernel
theorem dX11_isDown_1 : decode cX11_isDown 1 = .ok (.getfield 60, 3) := by decide +kernel
theorem dX11_isDown_4 : decode cX11_isDown 4 = .ok (.getfield 355, 3) := by decide +kernel
theorem dX11_isDown_7 : decode cX11_isDown 7 = .ok (.ireturn, 1) := by decide +kernel
theorem dX11_writes_0 : decode cX11_writes 0 = .ok (.aload_n 0, 1) := by decide +kernel
theorem dX11_writes_1 : decode cX11_writes 1 = .ok (.getfield 60, 3) := by decide +kernel
theorem dX11_writes_4 : decode cX11_writes 4 = .ok (.getfield 369, 3) := by decide +kernel
theorem dX11_writes_7 : decode cX11_writes 7 = .ok (.ireturn, 1) := by decide +kernel
theorem dX11_free_0 : decode cX11_free 0 = .ok (.aload_n 0, 1) := by decide +kernel
theorem dX11_free_1 : decode cX11_free 1 = .ok (.invokevirtual 171, 3) := by decide +kernel
theorem dX11_free_4 : decode cX11_free 4 = .ok (.aload_n 0, 1) := by decide +kernel
theorem dX11_free_5 : decode cX11_free 5 = .ok (.getfield 64, 3) := by decide +kernel
theorem dX11_free_8 : decode cX11_free 8 = .ok (.invokevirtual 372, 3) := by decide +kernel
theorem dX11_free_11 : decode cX11_free 11 = .ok (.ireturn, 1) := by decide +kernel
theorem dX11_audit_0 : decode cX11_audit 0 = .ok (.aload_n 0, 1) := by decide +kernel
theorem dX11_audit_1 : decode cX11_audit 1 = .ok (.invokevirtual 171, 3) := by decide +kernel
theorem dX11_audit_4 : decode cX11_audit 4 = .ok (.aload_n 0, 1) := by decide +kernel
theorem dX11_audit_5 : decode cX11_audit 5 = .ok (.getfield 64, 3) := by decide +kernel
theorem dX11_audit_8 : decode cX11_audit 8 = .ok (.invokevirtual 375, 3) := by decide +kernel
theorem dX11_audit_11 : decode cX11_audit 11 = .ok (.ireturn, 1) := by decide +kernel
theorem dX11_needArguments_0 : decode cX11_needArguments 0 = .ok (.iload_n 0, 1) := by decide +kernel
theorem dX11_needArguments_1 : decode cX11_needArguments 1 = .ok (.ifCond .ne 14, 3) := by decide +kernel
theorem dX11_needArguments_4 : decode cX11_needArguments 4 = .ok (.new 378, 3) := by decide +kernel
theorem dX11_needArguments_7 : decode cX11_needArguments 7 = .ok (.dup, 1) := by decide +kernel
theorem dX11_needArguments_8 : decode cX11_needArguments 8 = .ok (.ldc_w 380, 3) := by decide +kernel
theorem dX11_needArguments_11 : decode cX11_needArguments 11 = .ok (.invokespecial 382, 3) := by decide +kernel
theorem dX11_needArguments_14 : decode cX11_needArguments 14 = .ok (.athrow, 1) := by decide +kernel
theorem dX11_needArguments_15 : decode cX11_needArguments 15 = .ok (.return_, 1) := by decide +kernel
theorem dX11_needState_0 : decode cX11_needState 0 = .ok (.iload_n 0, 1) := by decide +kernel
theorem dX11_needState_1 : decode cX11_needState 1 = .ok (.ifCond .ne 14, 3) := by decide +kernel
theorem dX11_needState_4 : decode cX11_needState 4 = .ok (.new 385, 3) := by decide +kernel
theorem dX11_needState_7 : decode cX11_needState 7 = .ok (.dup, 1) := by decide +kernel
theorem dX11_needState_8 : decode cX11_needState 8 = .ok (.ldc_w 387, 3) := by decide +kernel
theorem dX11_needState_11 : decode cX11_needState 11 = .ok (.invokespecial 389, 3) := by decide +kernel
theorem dX11_needState_14 : decode cX11_needState 14 = .ok (.athrow, 1) := by decide +kernel
theorem dX11_needState_15 : decode cX11_needState 15 = .ok (.return_, 1) := by decide +kernel
theorem dX11_needPower_0 : decode cX11_needPower 0 = .ok (.aload_n 0, 1) := by decide +kernel
theorem dX11_needPower_1 : decode cX11_needPower 1 = .ok (.getfield 60, 3) := by decide +kernel
theorem dX11_needPower_4 : decode cX11_needPower 4 = .ok (.getfield 355, 3) := by decide +kernel
theorem dX11_needPower_7 : decode cX11_needPower 7 = .ok (.ifCond .ne 7, 3) := by decide +kernel
theorem dX11_needPower_10 : decode cX11_needPower 10 = .ok (.iconst 1, 1) := by decide +kernel
theorem dX11_needPower_11 : decode cX11_needPower 11 = .ok (.goto 4, 3) := by decide +kernel
theorem dX11_needPower_14 : decode cX11_needPower 14 = .ok (.iconst 0, 1) := by decide +kernel
theorem dX11_needPower_15 : decode cX11_needPower 15 = .ok (.invokestatic 87, 3) := by decide +kernel
theorem dX11_needPower_18 : decode cX11_needPower 18 = .ok (.return_, 1) := by decide +kernel
theorem dX11_isWithin_0 : decode cX11_isWithin 0 = .ok (.lload_n 0, 1) := by decide +kernel
theorem dX11_isWithin_1 : decode cX11_isWithin 1 = .ok (.lload_n 2, 1) := by decide +kernel
theorem dX11_isWithin_2 : decode cX11_isWithin 2 = .ok (.lcmp, 1) := by decide +kernel
theorem dX11_isWithin_3 : decode cX11_isWithin 3 = .ok (.ifCond .lt 14, 3) := by decide +kernel
theorem dX11_isWithin_6 : decode cX11_isWithin 6 = .ok (.lload_n 0, 1) := by decide +kernel
theorem dX11_isWithin_7 : decode cX11_isWithin 7 = .ok (.lload 4, 2) := by decide +kernel
theorem dX11_isWithin_9 : decode cX11_isWithin 9 = .ok (.lcmp, 1) := by decide +kernel
theorem dX11_isWithin_10 : decode cX11_isWithin 10 = .ok (.ifCond .gt 7, 3) := by decide +kernel
theorem dX11_isWithin_13 : decode cX11_isWithin 13 = .ok (.iconst 1, 1) := by decide +kernel
theorem dX11_isWithin_14 : decode cX11_isWithin 14 = .ok (.goto 4, 3) := by decide +kernel
theorem dX11_isWithin_17 : decode cX11_isWithin 17 = .ok (.iconst 0, 1) := by decide +kernel
theorem dX11_isWithin_18 : decode cX11_isWithin 18 = .ok (.ireturn, 1) := by decide +kernel
theorem dX11_isOfEight_0 : decode cX11_isOfEight 0 = .ok (.iload_n 0, 1) := by decide +kernel
theorem dX11_isOfEight_1 : decode cX11_isOfEight 1 = .ok (.i2l, 1) := by decide +kernel
theorem dX11_isOfEight_2 : decode cX11_isOfEight 2 = .ok (.lconst 0, 1) := by decide +kernel
theorem dX11_isOfEight_3 : decode cX11_isOfEight 3 = .ok (.ldc2_w 390, 3) := by decide +kernel
theorem dX11_isOfEight_6 : decode cX11_isOfEight 6 = .ok (.invokestatic 97, 3) := by decide +kernel
theorem dX11_isOfEight_9 : decode cX11_isOfEight 9 = .ok (.ireturn, 1) := by decide +kernel
theorem dX11_isLog_0 : decode cX11_isLog 0 = .ok (.iload_n 1, 1) := by decide +kernel
theorem dX11_isLog_1 : decode cX11_isLog 1 = .ok (.i2l, 1) := by decide +kernel
theorem dX11_isLog_2 : decode cX11_isLog 2 = .ok (.lconst 0, 1) := by decide +kernel
theorem dX11_isLog_3 : decode cX11_isLog 3 = .ok (.aload_n 0, 1) := by decide +kernel
theorem dX11_isLog_4 : decode cX11_isLog 4 = .ok (.getfield 56, 3) := by decide +kernel
theorem dX11_isLog_7 : decode cX11_isLog 7 = .ok (.i2l, 1) := by decide +kernel
theorem dX11_isLog_8 : decode cX11_isLog 8 = .ok (.invokestatic 97, 3) := by decide +kernel
theorem dX11_isLog_11 : decode cX11_isLog 11 = .ok (.ireturn, 1) := by decide +kernel
theorem dX11_isForProducers_0 : decode cX11_isForProducers 0 = .ok (.iload_n 1, 1) := by decide +kernel
theorem dX11_isForProducers_1 : decode cX11_isForProducers 1 = .ok (.i2l, 1) := by decide +kernel
theorem dX11_isForProducers_2 : decode cX11_isForProducers 2 = .ok (.lconst 0, 1) := by decide +kernel
theorem dX11_isForProducers_3 : decode cX11_isForProducers 3 = .ok (.aload_n 0, 1) := by decide +kernel
theorem dX11_isForProducers_4 : decode cX11_isForProducers 4 = .ok (.getfield 56, 3) := by decide +kernel
theorem dX11_isForProducers_7 : decode cX11_isForProducers 7 = .ok (.iconst 1, 1) := by decide +kernel
theorem dX11_isForProducers_8 : decode cX11_isForProducers 8 = .ok (.isub, 1) := by decide +kernel
theorem dX11_isForProducers_9 : decode cX11_isForProducers 9 = .ok (.i2l, 1) := by decide +kernel
theorem dX11_isForProducers_10 : decode cX11_isForProducers 10 = .ok (.invokestatic 97, 3) := by decide +kernel
theorem dX11_isForProducers_13 : decode cX11_isForProducers 13 = .ok (.ireturn, 1) := by decide +kernel
