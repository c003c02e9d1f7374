theorem dX0_init_0 : decode cX0_init 0 = .ok (.aload_n 0, 1) := by decide +kernel
theorem dX0_init_1 : decode cX0_init 1 = .ok (.invokespecial 3, 3) := by decide +kernel
theorem dX0_init_4 : decode cX0_init 4 = .ok (.aload_n 0, 1) := by decide +kernel
theorem dX0_init_5 : decode cX0_init 5 = .ok (.iconst 3, 1) := by decide +kernel
theorem dX0_init_6 : decode cX0_init 6 = .ok (.newarray .int, 2) := by decide +kernel
theorem dX0_init_8 : decode cX0_init 8 = .ok (.putfield 9, 3) := by decide +kernel
theorem dX0_init_11 : decode cX0_init 11 = .ok (.aload_n 0, 1) := by decide +kernel
theorem dX0_init_12 : decode cX0_init 12 = .ok (.iconst 3, 1) := by decide +kernel
theorem dX0_init_13 : decode cX0_init 13 = .ok (.newarray .int, 2) := by decide +kernel
theorem dX0_init_15 : decode cX0_init 15 = .ok (.putfield 15, 3) := by decide +kernel
theorem dX0_init_18 : decode cX0_init 18 = .ok (.aload_n 0, 1) := by decide +kernel
theorem dX0_init_19 : decode cX0_init 19 = .ok (.iconst 3, 1) := by decide +kernel
theorem dX0_init_20 : decode cX0_init 20 = .ok (.newarray .int, 2) := by decide +kernel
theorem dX0_init_22 : decode cX0_init 22 = .ok (.putfield 18, 3) := by decide +kernel
theorem dX0_init_25 : decode cX0_init 25 = .ok (.aload_n 0, 1) := by decide +kernel
theorem dX0_init_26 : decode cX0_init 26 = .ok (.bipush 7, 2) := by decide +kernel
theorem dX0_init_28 : decode cX0_init 28 = .ok (.newarray .int, 2) := by decide +kernel
theorem dX0_init_30 : decode cX0_init 30 = .ok (.putfield 21, 3) := by decide +kernel
theorem dX0_init_33 : decode cX0_init 33 = .ok (.aload_n 0, 1) := by decide +kernel
theorem dX0_init_34 : decode cX0_init 34 = .ok (.bipush 7, 2) := by decide +kernel
theorem dX0_init_36 : decode cX0_init 36 = .ok (.newarray .int, 2) := by decide +kernel
theorem dX0_init_38 : decode cX0_init 38 = .ok (.putfield 24, 3) := by decide +kernel
theorem dX0_init_41 : decode cX0_init 41 = .ok (.aload_n 0, 1) := by decide +kernel
theorem dX0_init_42 : decode cX0_init 42 = .ok (.bipush 7, 2) := by decide +kernel
theorem dX0_init_44 : decode cX0_init 44 = .ok (.newarray .int, 2) := by decide +kernel
theorem dX0_init_46 : decode cX0_init 46 = .ok (.putfield 27, 3) := by decide +kernel
theorem dX0_init_49 : decode cX0_init 49 = .ok (.aload_n 0, 1) := by decide +kernel
theorem dX0_init_50 : decode cX0_init 50 = .ok (.bipush 7, 2) := by decide +kernel
theorem dX0_init_52 : decode cX0_init 52 = .ok (.newarray .int, 2) := by decide +kernel
theorem dX0_init_54 : decode cX0_init 54 = .ok (.putfield 30, 3) := by decide +kernel
theorem dX0_init_57 : decode cX0_init 57 = .ok (.aload_n 0, 1) := by decide +kernel
theorem dX0_init_58 : decode cX0_init 58 = .ok (.bipush 7, 2) := by decide +kernel
theorem dX0_init_60 : decode cX0_init 60 = .ok (.newarray .int, 2) := by decide +kernel
theorem dX0_init_62 : decode cX0_init 62 = .ok (.putfield 33, 3) := by decide +kernel
theorem dX0_init_65 : decode cX0_init 65 = .ok (.aload_n 0, 1) := by decide +kernel
theorem dX0_init_66 : decode cX0_init 66 = .ok (.new 36, 3) := by decide +kernel
theorem dX0_init_69 : decode cX0_init 69 = .ok (.dup, 1) := by decide +kernel
theorem dX0_init_70 : decode cX0_init 70 = .ok (.invokespecial 38, 3) := by decide +kernel
theorem dX0_init_73 : decode cX0_init 73 = .ok (.putfield 39, 3) := by decide +kernel
theorem dX0_init_76 : decode cX0_init 76 = .ok (.return_, 1) := by decide +kernel
theorem dX0_clear_0 : decode cX0_clear 0 = .ok (.aload_n 0, 1) := by decide +kernel
theorem dX0_clear_1 : decode cX0_clear 1 = .ok (.iconst 4, 1) := by decide +kernel
theorem dX0_clear_2 : decode cX0_clear 2 = .ok (.putfield 43, 3) := by decide +kernel
theorem dX0_clear_5 : decode cX0_clear 5 = .ok (.aload_n 0, 1) := by decide +kernel
theorem dX0_clear_6 : decode cX0_clear 6 = .ok (.iconst 4, 1) := by decide +kernel
theorem dX0_clear_7 : decode cX0_clear 7 = .ok (.putfield 47, 3) := by decide +kernel
theorem dX0_clear_10 : decode cX0_clear 10 = .ok (.aload_n 0, 1) := by decide +kernel
theorem dX0_clear_11 : decode cX0_clear 11 = .ok (.iconst 0, 1) := by decide +kernel
theorem dX0_clear_12 : decode cX0_clear 12 = .ok (.putfield 50, 3) := by decide +kernel
theorem dX0_clear_15 : decode cX0_clear 15 = .ok (.aload_n 0, 1) := by decide +kernel
theorem dX0_clear_16 : decode cX0_clear 16 = .ok (.iconst 0, 1) := by decide +kernel
theorem dX0_clear_17 : decode cX0_clear 17 = .ok (.putfield 53, 3) := by decide +kernel
theorem dX0_clear_20 : decode cX0_clear 20 = .ok (.return_, 1) := by decide +kernel
theorem dX0_build_0 : decode cX0_build 0 = .ok (.aload_n 0, 1) := by decide +kernel
theorem dX0_build_1 : decode cX0_build 1 = .ok (.getfield 50, 3) := by decide +kernel
theorem dX0_build_4 : decode cX0_build 4 = .ok (.ifCond .gt 30, 3) := by decide +kernel
theorem dX0_build_7 : decode cX0_build 7 = .ok (.aload_n 0, 1) := by decide +kernel
theorem dX0_build_8 : decode cX0_build 8 = .ok (.getfield 53, 3) := by decide +kernel
theorem dX0_build_11 : decode cX0_build 11 = .ok (.ifCond .gt 23, 3) := by decide +kernel
theorem dX0_build_14 : decode cX0_build 14 = .ok (.iload_n 1, 1) := by decide +kernel
theorem dX0_build_15 : decode cX0_build 15 = .ok (.iconst 1, 1) := by decide +kernel
theorem dX0_build_16 : decode cX0_build 16 = .ok (.bipush 6, 2) := by decide +kernel
theorem dX0_build_18 : decode cX0_build 18 = .ok (.invokestatic 56, 3) := by decide +kernel
theorem dX0_build_21 : decode cX0_build 21 = .ok (.ifCond .eq 13, 3) := by decide +kernel
theorem dX0_build_24 : decode cX0_build 24 = .ok (.iload_n 2, 1) := by decide +kernel
theorem dX0_build_25 : decode cX0_build 25 = .ok (.iconst 1, 1) := by decide +kernel
theorem dX0_build_26 : decode cX0_build 26 = .ok (.bipush 6, 2) := by decide +kernel
theorem dX0_build_28 : decode cX0_build 28 = .ok (.invokestatic 56, 3) := by decide +kernel
theorem dX0_build_31 : decode cX0_build 31 = .ok (.ifCond .ne 5, 3) := by decide +kernel
theorem dX0_build_34 : decode cX0_build 34 = .ok (.iconst 0, 1) := by decide +kernel
theorem dX0_build_35 : decode cX0_build 35 = .ok (.ireturn, 1) := by decide +kernel
theorem dX0_build_36 : decode cX0_build 36 = .ok (.aload_n 0, 1) := by decide +kernel
theorem dX0_build_37 : decode cX0_build 37 = .ok (.iload_n 1, 1) := by decide +kernel
theorem dX0_build_38 : decode cX0_build 38 = .ok (.putfield 43, 3) := by decide +kernel
theorem dX0_build_41 : decode cX0_build 41 = .ok (.aload_n 0, 1) := by decide +kernel
theorem dX0_build_42 : decode cX0_build 42 = .ok (.iload_n 2, 1) := by decide +kernel
theorem dX0_build_43 : decode cX0_build 43 = .ok (.putfield 47, 3) := by decide +kernel
theorem dX0_build_46 : decode cX0_build 46 = .ok (.iconst 1, 1) := by decide +kernel
theorem dX0_build_47 : decode cX0_build 47 = .ok (.ireturn, 1) := by decide +kernel
theorem dX0_addCab_0 : decode cX0_addCab 0 = .ok (.aload_n 0, 1) := by decide +kernel
theorem dX0_addCab_1 : decode cX0_addCab 1 = .ok (.getfield 50, 3) := by decide +kernel
theorem dX0_addCab_4 : decode cX0_addCab 4 = .ok (.iconst 3, 1) := by decide +kernel
theorem dX0_addCab_5 : decode cX0_addCab 5 = .ok (.if_icmp .ge 28, 3) := by decide +kernel
theorem dX0_addCab_8 : decode cX0_addCab 8 = .ok (.iload_n 1, 1) := by decide +kernel
theorem dX0_addCab_9 : decode cX0_addCab 9 = .ok (.iconst 0, 1) := by decide +kernel
theorem dX0_addCab_10 : decode cX0_addCab 10 = .ok (.iconst 2, 1) := by decide +kernel
theorem dX0_addCab_11 : decode cX0_addCab 11 = .ok (.invokestatic 56, 3) := by decide +kernel
theorem dX0_addCab_14 : decode cX0_addCab 14 = .ok (.ifCond .eq 19, 3) := by decide +kernel
theorem dX0_addCab_17 : decode cX0_addCab 17 = .ok (.aload_n 0, 1) := by decide +kernel
theorem dX0_addCab_18 : decode cX0_addCab 18 = .ok (.iload_n 2, 1) := by decide +kernel
theorem dX0_addCab_19 : decode cX0_addCab 19 = .ok (.invokevirtual 60, 3) := by decide +kernel
theorem dX0_addCab_22 : decode cX0_addCab 22 = .ok (.ifCond .eq 11, 3) := by decide +kernel
theorem dX0_addCab_25 : decode cX0_addCab 25 = .ok (.aload_n 0, 1) := by decide +kernel
theorem dX0_addCab_26 : decode cX0_addCab 26 = .ok (.iload_n 3, 1) := by decide +kernel
theorem dX0_addCab_27 : decode cX0_addCab 27 = .ok (.invokevirtual 60, 3) := by decide +kernel
theorem dX0_addCab_30 : decode cX0_addCab 30 = .ok (.ifCond .ne 5, 3) := by decide +kernel
theorem dX0_addCab_33 : decode cX0_addCab 33 = .ok (.iconst 0, 1) := by decide +kernel
theorem dX0_addCab_34 : decode cX0_addCab 34 = .ok (.ireturn, 1) := by decide +kernel
theorem dX0_addCab_35 : decode cX0_addCab 35 = .ok (.aload_n 0, 1) := by decide +kernel
theorem dX0_addCab_36 : decode cX0_addCab 36 = .ok (.getfield 9, 3) := by decide +kernel
theorem dX0_addCab_39 : decode cX0_addCab 39 = .ok (.aload_n 0, 1) := by decide +kernel
theorem dX0_addCab_40 : decode cX0_addCab 40 = .ok (.getfield 50, 3) := by decide +kernel
theorem dX0_addCab_43 : decode cX0_addCab 43 = .ok (.iload_n 1, 1) := by decide +kernel
theorem dX0_addCab_44 : decode cX0_addCab 44 = .ok (.iastore, 1) := by decide +kernel
theorem dX0_addCab_45 : decode cX0_addCab 45 = .ok (.aload_n 0, 1) := by decide +kernel
theorem dX0_addCab_46 : decode cX0_addCab 46 = .ok (.getfield 15, 3) := by decide +kernel
theorem dX0_addCab_49 : decode cX0_addCab 49 = .ok (.aload_n 0, 1) := by decide +kernel
theorem dX0_addCab_50 : decode cX0_addCab 50 = .ok (.getfield 50, 3) := by decide +kernel
theorem dX0_addCab_53 : decode cX0_addCab 53 = .ok (.iload_n 2, 1) := by decide +kernel
theorem dX0_addCab_54 : decode cX0_addCab 54 = .ok (.iastore, 1) := by decide +kernel
theorem dX0_addCab_55 : decode cX0_addCab 55 = .ok (.aload_n 0, 1) := by decide +kernel
theorem dX0_addCab_56 : decode cX0_addCab 56 = .ok (.getfield 18, 3) := by decide +kernel
theorem dX0_addCab_59 : decode cX0_addCab 59 = .ok (.aload_n 0, 1) := by decide +kernel
theorem dX0_addCab_60 : decode cX0_addCab 60 = .ok (.getfield 50, 3) := by decide +kernel
theorem dX0_addCab_63 : decode cX0_addCab 63 = .ok (.iload_n 3, 1) := by decide +kernel
theorem dX0_addCab_64 : decode cX0_addCab 64 = .ok (.iload_n 2, 1) := by decide +kernel
theorem dX0_addCab_65 : decode cX0_addCab 65 = .ok (.if_icmp .ne 8, 3) := by decide +kernel
theorem dX0_addCab_68 : decode cX0_addCab 68 = .ok (.bipush (-4), 2) := by decide +kernel
theorem dX0_addCab_70 : decode cX0_addCab 70 = .ok (.goto 4, 3) := by decide +kernel
theorem dX0_addCab_73 : decode cX0_addCab 73 = .ok (.iload_n 3, 1) := by decide +kernel
theorem dX0_addCab_74 : decode cX0_addCab 74 = .ok (.iastore, 1) := by decide +kernel
theorem dX0_addCab_75 : decode cX0_addCab 75 = .ok (.aload_n 0, 1) := by decide +kernel
theorem dX0_addCab_76 : decode cX0_addCab 76 = .ok (.dup, 1) := by decide +kernel
theorem dX0_addCab_77 : decode cX0_addCab 77 = .ok (.getfield 50, 3) := by decide +kernel
theorem dX0_addCab_80 : decode cX0_addCab 80 = .ok (.iconst 1, 1) := by decide +kernel
theorem dX0_addCab_81 : decode cX0_addCab 81 = .ok (.iadd, 1) := by decide +kernel
theorem dX0_addCab_82 : decode cX0_addCab 82 = .ok (.putfield 50, 3) := by decide +kernel
theorem dX0_addCab_85 : decode cX0_addCab 85 = .ok (.iconst 1, 1) := by decide +kernel
theorem dX0_addCab_86 : decode cX0_addCab 86 = .ok (.ireturn, 1) := by decide +kernel
theorem dX0_addFare_0 : decode cX0_addFare 0 = .ok (.aload_n 0, 1) := by decide +kernel
theorem dX0_addFare_1 : decode cX0_addFare 1 = .ok (.getfield 53, 3) := by decide +kernel
theorem dX0_addFare_4 : decode cX0_addFare 4 = .ok (.bipush 7, 2) := by decide +kernel
theorem dX0_addFare_6 : decode cX0_addFare 6 = .ok (.if_icmp .ge 9, 3) := by decide +kernel
theorem dX0_addFare_9 : decode cX0_addFare 9 = .ok (.aload_n 1, 1) := by decide +kernel
theorem dX0_addFare_10 : decode cX0_addFare 10 = .ok (.arraylength, 1) := by decide +kernel
theorem dX0_addFare_11 : decode cX0_addFare 11 = .ok (.iconst 5, 1) := by decide +kernel
theorem dX0_addFare_12 : decode cX0_addFare 12 = .ok (.if_icmp .ge 5, 3) := by decide +kernel
theorem dX0_addFare_15 : decode cX0_addFare 15 = .ok (.iconst 0, 1) := by decide +kernel
theorem dX0_addFare_16 : decode cX0_addFare 16 = .ok (.ireturn, 1) := by decide +kernel
theorem dX0_addFare_17 : decode cX0_addFare 17 = .ok (.aload_n 1, 1) := by decide +kernel
theorem dX0_addFare_18 : decode cX0_addFare 18 = .ok (.iconst 0, 1) := by decide +kernel
theorem dX0_addFare_19 : decode cX0_addFare 19 = .ok (.iaload, 1) := by decide +kernel
theorem dX0_addFare_20 : decode cX0_addFare 20 = .ok (.iconst 0, 1) := by decide +kernel
theorem dX0_addFare_21 : decode cX0_addFare 21 = .ok (.iconst 3, 1) := by decide +kernel
theorem dX0_addFare_22 : decode cX0_addFare 22 = .ok (.invokestatic 56, 3) := by decide +kernel
theorem dX0_addFare_25 : decode cX0_addFare 25 = .ok (.ifCond .eq 27, 3) := by decide +kernel
theorem dX0_addFare_28 : decode cX0_addFare 28 = .ok (.aload_n 0, 1) := by decide +kernel
theorem dX0_addFare_29 : decode cX0_addFare 29 = .ok (.aload_n 1, 1) := by decide +kernel
theorem dX0_addFare_30 : decode cX0_addFare 30 = .ok (.iconst 1, 1) := by decide +kernel
theorem dX0_addFare_31 : decode cX0_addFare 31 = .ok (.iaload, 1) := by decide +kernel
theorem dX0_addFare_32 : decode cX0_addFare 32 = .ok (.invokevirtual 60, 3) := by decide +kernel
theorem dX0_addFare_35 : decode cX0_addFare 35 = .ok (.ifCond .eq 17, 3) := by decide +kernel
theorem dX0_addFare_38 : decode cX0_addFare 38 = .ok (.aload_n 0, 1) := by decide +kernel
theorem dX0_addFare_39 : decode cX0_addFare 39 = .ok (.aload_n 1, 1) := by decide +kernel
theorem dX0_addFare_40 : decode cX0_addFare 40 = .ok (.iconst 2, 1) := by decide +kernel
theorem dX0_addFare_41 : decode cX0_addFare 41 = .ok (.iaload, 1) := by decide +kernel
theorem dX0_addFare_42 : decode cX0_addFare 42 = .ok (.invokevirtual 60, 3) := by decide +kernel
theorem dX0_addFare_45 : decode cX0_addFare 45 = .ok (.ifCond .eq 7, 3) := by decide +kernel
theorem dX0_addFare_48 : decode cX0_addFare 48 = .ok (.iconst 1, 1) := by decide +kernel
theorem dX0_addFare_49 : decode cX0_addFare 49 = .ok (.goto 4, 3) := by decide +kernel
theorem dX0_addFare_52 : decode cX0_addFare 52 = .ok (.iconst 0, 1) := by decide +kernel
theorem dX0_addFare_53 : decode cX0_addFare 53 = .ok (.istore_n 2, 1) := by decide +kernel
theorem dX0_addFare_54 : decode cX0_addFare 54 = .ok (.iload_n 2, 1) := by decide +kernel
theorem dX0_addFare_55 : decode cX0_addFare 55 = .ok (.ifCond .eq 27, 3) := by decide +kernel
theorem dX0_addFare_58 : decode cX0_addFare 58 = .ok (.aload_n 1, 1) := by decide +kernel
theorem dX0_addFare_59 : decode cX0_addFare 59 = .ok (.iconst 3, 1) := by decide +kernel
theorem dX0_addFare_60 : decode cX0_addFare 60 = .ok (.iaload, 1) := by decide +kernel
theorem dX0_addFare_61 : decode cX0_addFare 61 = .ok (.iconst 0, 1) := by decide +kernel
theorem dX0_addFare_62 : decode cX0_addFare 62 = .ok (.bipush 99, 2) := by decide +kernel
theorem dX0_addFare_64 : decode cX0_addFare 64 = .ok (.invokestatic 56, 3) := by decide +kernel
theorem dX0_addFare_67 : decode cX0_addFare 67 = .ok (.ifCond .eq 15, 3) := by decide +kernel
theorem dX0_addFare_70 : decode cX0_addFare 70 = .ok (.aload_n 1, 1) := by decide +kernel
theorem dX0_addFare_71 : decode cX0_addFare 71 = .ok (.iconst 4, 1) := by decide +kernel
theorem dX0_addFare_72 : decode cX0_addFare 72 = .ok (.iaload, 1) := by decide +kernel
theorem dX0_addFare_73 : decode cX0_addFare 73 = .ok (.iconst 0, 1) := by decide +kernel
theorem dX0_addFare_74 : decode cX0_addFare 74 = .ok (.bipush 60, 2) := by decide +kernel
theorem dX0_addFare_76 : decode cX0_addFare 76 = .ok (.invokestatic 56, 3) := by decide +kernel
theorem dX0_addFare_79 : decode cX0_addFare 79 = .ok (.ifCond .ne 5, 3) := by decide +kernel
theorem dX0_addFare_82 : decode cX0_addFare 82 = .ok (.iconst 0, 1) := by decide +kernel
theorem dX0_addFare_83 : decode cX0_addFare 83 = .ok (.ireturn, 1) := by decide +kernel
theorem dX0_addFare_84 : decode cX0_addFare 84 = .ok (.aload_n 0, 1) := by decide +kernel
theorem dX0_addFare_85 : decode cX0_addFare 85 = .ok (.getfield 21, 3) := by decide +kernel
theorem dX0_addFare_88 : decode cX0_addFare 88 = .ok (.aload_n 0, 1) := by decide +kernel
theorem dX0_addFare_89 : decode cX0_addFare 89 = .ok (.getfield 53, 3) := by decide +kernel
theorem dX0_addFare_92 : decode cX0_addFare 92 = .ok (.aload_n 1, 1) := by decide +kernel
theorem dX0_addFare_93 : decode cX0_addFare 93 = .ok (.iconst 0, 1) := by decide +kernel
theorem dX0_addFare_94 : decode cX0_addFare 94 = .ok (.iaload, 1) := by decide +kernel
theorem dX0_addFare_95 : decode cX0_addFare 95 = .ok (.iastore, 1) := by decide +kernel
theorem dX0_addFare_96 : decode cX0_addFare 96 = .ok (.aload_n 0, 1) := by decide +kernel
theorem dX0_addFare_97 : decode cX0_addFare 97 = .ok (.getfield 24, 3) := by decide +kernel
theorem dX0_addFare_100 : decode cX0_addFare 100 = .ok (.aload_n 0, 1) := by decide +kernel
theorem dX0_addFare_101 : decode cX0_addFare 101 = .ok (.getfield 53, 3) := by decide +kernel
theorem dX0_addFare_104 : decode cX0_addFare 104 = .ok (.aload_n 1, 1) := by decide +kernel
theorem dX0_addFare_105 : decode cX0_addFare 105 = .ok (.iconst 1, 1) := by decide +kernel
theorem dX0_addFare_106 : decode cX0_addFare 106 = .ok (.iaload, 1) := by decide +kernel
theorem dX0_addFare_107 : decode cX0_addFare 107 = .ok (.iastore, 1) := by decide +kernel
theorem dX0_addFare_108 : decode cX0_addFare 108 = .ok (.aload_n 0, 1) := by decide +kernel
theorem dX0_addFare_109 : decode cX0_addFare 109 = .ok (.getfield 27, 3) := by decide +kernel
theorem dX0_addFare_112 : decode cX0_addFare 112 = .ok (.aload_n 0, 1) := by decide +kernel
theorem dX0_addFare_113 : decode cX0_addFare 113 = .ok (.getfield 53, 3) := by decide +kernel
theorem dX0_addFare_116 : decode cX0_addFare 116 = .ok (.aload_n 1, 1) := by decide +kernel
theorem dX0_addFare_117 : decode cX0_addFare 117 = .ok (.iconst 2, 1) := by decide +kernel
theorem dX0_addFare_118 : decode cX0_addFare 118 = .ok (.iaload, 1) := by decide +kernel
theorem dX0_addFare_119 : decode cX0_addFare 119 = .ok (.iastore, 1) := by decide +kernel
theorem dX0_addFare_120 : decode cX0_addFare 120 = .ok (.aload_n 0, 1) := by decide +kernel
theorem dX0_addFare_121 : decode cX0_addFare 121 = .ok (.getfield 30, 3) := by decide +kernel
theorem dX0_addFare_124 : decode cX0_addFare 124 = .ok (.aload_n 0, 1) := by decide +kernel
theorem dX0_addFare_125 : decode cX0_addFare 125 = .ok (.getfield 53, 3) := by decide +kernel
theorem dX0_addFare_128 : decode cX0_addFare 128 = .ok (.aload_n 1, 1) := by decide +kernel
theorem dX0_addFare_129 : decode cX0_addFare 129 = .ok (.iconst 3, 1) := by decide +kernel
theorem dX0_addFare_130 : decode cX0_addFare 130 = .ok (.iaload, 1) := by decide +kernel
theorem dX0_addFare_131 : decode cX0_addFare 131 = .ok (.iastore, 1) := by decide +kernel
theorem dX0_addFare_132 : decode cX0_addFare 132 = .ok (.aload_n 0, 1) := by decide +kernel
theorem dX0_addFare_133 : decode cX0_addFare 133 = .ok (.getfield 33, 3) := by decide +kernel
theorem dX0_addFare_136 : decode cX0_addFare 136 = .ok (.aload_n 0, 1) := by decide +kernel
theorem dX0_addFare_137 : decode cX0_addFare 137 = .ok (.getfield 53, 3) := by decide +kernel
theorem dX0_addFare_140 : decode cX0_addFare 140 = .ok (.aload_n 1, 1) := by decide +kernel
theorem dX0_addFare_141 : decode cX0_addFare 141 = .ok (.iconst 4, 1) := by decide +kernel
theorem dX0_addFare_142 : decode cX0_addFare 142 = .ok (.iaload, 1) := by decide +kernel
theorem dX0_addFare_143 : decode cX0_addFare 143 = .ok (.iastore, 1) := by decide +kernel
theorem dX0_addFare_144 : decode cX0_addFare 144 = .ok (.aload_n 0, 1) := by decide +kernel
theorem dX0_addFare_145 : decode cX0_addFare 145 = .ok (.dup, 1) := by decide +kernel
theorem dX0_addFare_146 : decode cX0_addFare 146 = .ok (.getfield 53, 3) := by decide +kernel
theorem dX0_addFare_149 : decode cX0_addFare 149 = .ok (.iconst 1, 1) := by decide +kernel
theorem dX0_addFare_150 : decode cX0_addFare 150 = .ok (.iadd, 1) := by decide +kernel
theorem dX0_addFare_151 : decode cX0_addFare 151 = .ok (.putfield 53, 3) := by decide +kernel
theorem dX0_addFare_154 : decode cX0_addFare 154 = .ok (.iconst 1, 1) := by decide +kernel
theorem dX0_addFare_155 : decode cX0_addFare 155 = .ok (.ireturn, 1) := by decide +kernel
theorem dX0_places_0 : decode cX0_places 0 = .ok (.aload_n 0, 1) := by decide +kernel
theorem dX0_places_1 : decode cX0_places 1 = .ok (.getfield 43, 3) := by decide +kernel
theorem dX0_places_4 : decode cX0_places 4 = .ok (.aload_n 0, 1) := by decide +kernel
theorem dX0_places_5 : decode cX0_places 5 = .ok (.getfield 47, 3) := by decide +kernel
theorem dX0_places_8 : decode cX0_places 8 = .ok (.imul, 1) := by decide +kernel
theorem dX0_places_9 : decode cX0_places 9 = .ok (.ireturn, 1) := by decide +kernel
theorem dX0_hasPlace_0 : decode cX0_hasPlace 0 = .ok (.iload_n 1, 1) := by decide +kernel
theorem dX0_hasPlace_1 : decode cX0_hasPlace 1 = .ok (.iconst 0, 1) := by decide +kernel
theorem dX0_hasPlace_2 : decode cX0_hasPlace 2 = .ok (.aload_n 0, 1) := by decide +kernel
theorem dX0_hasPlace_3 : decode cX0_hasPlace 3 = .ok (.invokevirtual 64, 3) := by decide +kernel
theorem dX0_hasPlace_6 : decode cX0_hasPlace 6 = .ok (.iconst 1, 1) := by decide +kernel
theorem dX0_hasPlace_7 : decode cX0_hasPlace 7 = .ok (.isub, 1) := by decide +kernel
theorem dX0_hasPlace_8 : decode cX0_hasPlace 8 = .ok (.invokestatic 56, 3) := by decide +kernel
theorem dX0_hasPlace_11 : decode cX0_hasPlace 11 = .ok (.ireturn, 1) := by decide +kernel
theorem dX0_hasCab_0 : decode cX0_hasCab 0 = .ok (.iload_n 1, 1) := by decide +kernel
theorem dX0_hasCab_1 : decode cX0_hasCab 1 = .ok (.iconst 0, 1) := by decide +kernel
theorem dX0_hasCab_2 : decode cX0_hasCab 2 = .ok (.aload_n 0, 1) := by decide +kernel
theorem dX0_hasCab_3 : decode cX0_hasCab 3 = .ok (.getfield 50, 3) := by decide +kernel
theorem dX0_hasCab_6 : decode cX0_hasCab 6 = .ok (.iconst 1, 1) := by decide +kernel
theorem dX0_hasCab_7 : decode cX0_hasCab 7 = .ok (.isub, 1) := by decide +kernel
theorem dX0_hasCab_8 : decode cX0_hasCab 8 = .ok (.invokestatic 56, 3) := by decide +kernel
theorem dX0_hasCab_11 : decode cX0_hasCab 11 = .ok (.ireturn, 1) := by decide +kernel
theorem dX0_hasFare_0 : decode cX0_hasFare 0 = .ok (.iload_n 1, 1) := by decide +kernel
theorem dX0_hasFare_1 : decode cX0_hasFare 1 = .ok (.iconst 0, 1) := by decide +kernel
theorem dX0_hasFare_2 : decode cX0_hasFare 2 = .ok (.aload_n 0, 1) := by decide +kernel
theorem dX0_hasFare_3 : decode cX0_hasFare 3 = .ok (.getfield 53, 3) := by decide +kernel
theorem dX0_hasFare_6 : decode cX0_hasFare 6 = .ok (.iconst 1, 1) := by decide +kernel
theorem dX0_hasFare_7 : decode cX0_hasFare 7 = .ok (.isub, 1) := by decide +kernel
theorem dX0_hasFare_8 : decode cX0_hasFare 8 = .ok (.invokestatic 56, 3) := by decide +kernel
theorem dX0_hasFare_11 : decode cX0_hasFare 11 = .ok (.ireturn, 1) := by decide +kernel
theorem dX0_steps_0 : decode cX0_steps 0 = .ok (.iconst 1, 1) := by decide +kernel
theorem dX0_steps_1 : decode cX0_steps 1 = .ok (.aload_n 0, 1) := by decide +kernel
theorem dX0_steps_2 : decode cX0_steps 2 = .ok (.getfield 47, 3) := by decide +kernel
theorem dX0_steps_5 : decode cX0_steps 5 = .ok (.invokestatic 68, 3) := by decide +kernel
theorem dX0_steps_8 : decode cX0_steps 8 = .ok (.istore_n 3, 1) := by decide +kernel
theorem dX0_steps_9 : decode cX0_steps 9 = .ok (.iload_n 1, 1) := by decide +kernel
theorem dX0_steps_10 : decode cX0_steps 10 = .ok (.iload_n 3, 1) := by decide +kernel
theorem dX0_steps_11 : decode cX0_steps 11 = .ok (.idiv, 1) := by decide +kernel
theorem dX0_steps_12 : decode cX0_steps 12 = .ok (.iload_n 2, 1) := by decide +kernel
theorem dX0_steps_13 : decode cX0_steps 13 = .ok (.iload_n 3, 1) := by decide +kernel
theorem dX0_steps_14 : decode cX0_steps 14 = .ok (.idiv, 1) := by decide +kernel
theorem dX0_steps_15 : decode cX0_steps 15 = .ok (.isub, 1) := by decide +kernel
theorem dX0_steps_16 : decode cX0_steps 16 = .ok (.invokestatic 74, 3) := by decide +kernel
theorem dX0_steps_19 : decode cX0_steps 19 = .ok (.iload_n 1, 1) := by decide +kernel
theorem dX0_steps_20 : decode cX0_steps 20 = .ok (.iload_n 3, 1) := by decide +kernel
theorem dX0_steps_21 : decode cX0_steps 21 = .ok (.irem, 1) := by decide +kernel
theorem dX0_steps_22 : decode cX0_steps 22 = .ok (.iload_n 2, 1) := by decide +kernel
theorem dX0_steps_23 : decode cX0_steps 23 = .ok (.iload_n 3, 1) := by decide +kernel
theorem dX0_steps_24 : decode cX0_steps 24 = .ok (.irem, 1) := by decide +kernel
theorem dX0_steps_25 : decode cX0_steps 25 = .ok (.isub, 1) := by decide +kernel
theorem dX0_steps_26 : decode cX0_steps 26 = .ok (.invokestatic 74, 3) := by decide +kernel
theorem dX0_steps_29 : decode cX0_steps 29 = .ok (.iadd, 1) := by decide +kernel
theorem dX0_steps_30 : decode cX0_steps 30 = .ok (.ireturn, 1) := by decide +kernel
theorem dX0_reckon_0 : decode cX0_reckon 0 = .ok (.aload_n 0, 1) := by decide +kernel
theorem dX0_reckon_1 : decode cX0_reckon 1 = .ok (.aload_n 1, 1) := by decide +kernel
theorem dX0_reckon_2 : decode cX0_reckon 2 = .ok (.iload_n 2, 1) := by decide +kernel
theorem dX0_reckon_3 : decode cX0_reckon 3 = .ok (.iload_n 3, 1) := by decide +kernel
theorem dX0_reckon_4 : decode cX0_reckon 4 = .ok (.aload_n 0, 1) := by decide +kernel
theorem dX0_reckon_5 : decode cX0_reckon 5 = .ok (.getfield 9, 3) := by decide +kernel
theorem dX0_reckon_8 : decode cX0_reckon 8 = .ok (.iload_n 2, 1) := by decide +kernel
theorem dX0_reckon_9 : decode cX0_reckon 9 = .ok (.iaload, 1) := by decide +kernel
theorem dX0_reckon_10 : decode cX0_reckon 10 = .ok (.aload_n 1, 1) := by decide +kernel
theorem dX0_reckon_11 : decode cX0_reckon 11 = .ok (.getfield 78, 3) := by decide +kernel
theorem dX0_reckon_14 : decode cX0_reckon 14 = .ok (.iload_n 2, 1) := by decide +kernel
theorem dX0_reckon_15 : decode cX0_reckon 15 = .ok (.iaload, 1) := by decide +kernel
theorem dX0_reckon_16 : decode cX0_reckon 16 = .ok (.invokevirtual 83, 3) := by decide +kernel
theorem dX0_reckon_19 : decode cX0_reckon 19 = .ok (.return_, 1) := by decide +kernel
theorem dX0_reckonAs_0 : decode cX0_reckonAs 0 = .ok (.aload_n 1, 1) := by decide +kernel
theorem dX0_reckonAs_1 : decode cX0_reckonAs 1 = .ok (.getfield 87, 3) := by decide +kernel
theorem dX0_reckonAs_4 : decode cX0_reckonAs 4 = .ok (.aload_n 1, 1) := by decide +kernel
theorem dX0_reckonAs_5 : decode cX0_reckonAs 5 = .ok (.getfield 90, 3) := by decide +kernel
theorem dX0_reckonAs_8 : decode cX0_reckonAs 8 = .ok (.iload_n 2, 1) := by decide +kernel
theorem dX0_reckonAs_9 : decode cX0_reckonAs 9 = .ok (.iaload, 1) := by decide +kernel
theorem dX0_reckonAs_10 : decode cX0_reckonAs 10 = .ok (.invokestatic 68, 3) := by decide +kernel
theorem dX0_reckonAs_13 : decode cX0_reckonAs 13 = .ok (.aload_n 0, 1) := by decide +kernel
theorem dX0_reckonAs_14 : decode cX0_reckonAs 14 = .ok (.getfield 30, 3) := by decide +kernel
theorem dX0_reckonAs_17 : decode cX0_reckonAs 17 = .ok (.iload_n 3, 1) := by decide +kernel
theorem dX0_reckonAs_18 : decode cX0_reckonAs 18 = .ok (.iaload, 1) := by decide +kernel
theorem dX0_reckonAs_19 : decode cX0_reckonAs 19 = .ok (.invokestatic 68, 3) := by decide +kernel
theorem dX0_reckonAs_22 : decode cX0_reckonAs 22 = .ok (.istore 6, 2) := by decide +kernel
theorem dX0_reckonAs_24 : decode cX0_reckonAs 24 = .ok (.aload_n 0, 1) := by decide +kernel
theorem dX0_reckonAs_25 : decode cX0_reckonAs 25 = .ok (.getfield 39, 3) := by decide +kernel
theorem dX0_reckonAs_28 : decode cX0_reckonAs 28 = .ok (.iload 5, 2) := by decide +kernel
theorem dX0_reckonAs_30 : decode cX0_reckonAs 30 = .ok (.bipush (-4), 2) := by decide +kernel
theorem dX0_reckonAs_32 : decode cX0_reckonAs 32 = .ok (.if_icmp .eq 29, 3) := by decide +kernel
theorem dX0_reckonAs_35 : decode cX0_reckonAs 35 = .ok (.iload 4, 2) := by decide +kernel
theorem dX0_reckonAs_37 : decode cX0_reckonAs 37 = .ok (.iconst 2, 1) := by decide +kernel
theorem dX0_reckonAs_38 : decode cX0_reckonAs 38 = .ok (.if_icmp .ne 19, 3) := by decide +kernel
theorem dX0_reckonAs_41 : decode cX0_reckonAs 41 = .ok (.aload_n 0, 1) := by decide +kernel
theorem dX0_reckonAs_42 : decode cX0_reckonAs 42 = .ok (.aload_n 0, 1) := by decide +kernel
theorem dX0_reckonAs_43 : decode cX0_reckonAs 43 = .ok (.getfield 24, 3) := by decide +kernel
theorem dX0_reckonAs_46 : decode cX0_reckonAs 46 = .ok (.iload_n 3, 1) := by decide +kernel
theorem dX0_reckonAs_47 : decode cX0_reckonAs 47 = .ok (.iaload, 1) := by decide +kernel
theorem dX0_reckonAs_48 : decode cX0_reckonAs 48 = .ok (.iload 5, 2) := by decide +kernel
theorem dX0_reckonAs_50 : decode cX0_reckonAs 50 = .ok (.invokevirtual 93, 3) := by decide +kernel
theorem dX0_reckonAs_53 : decode cX0_reckonAs 53 = .ok (.iconst 3, 1) := by decide +kernel
theorem dX0_reckonAs_54 : decode cX0_reckonAs 54 = .ok (.if_icmp .gt 7, 3) := by decide +kernel
theorem dX0_reckonAs_57 : decode cX0_reckonAs 57 = .ok (.iconst 1, 1) := by decide +kernel
theorem dX0_reckonAs_58 : decode cX0_reckonAs 58 = .ok (.goto 4, 3) := by decide +kernel
theorem dX0_reckonAs_61 : decode cX0_reckonAs 61 = .ok (.iconst 0, 1) := by decide +kernel
theorem dX0_reckonAs_62 : decode cX0_reckonAs 62 = .ok (.putfield 96, 3) := by decide +kernel
theorem dX0_reckonAs_65 : decode cX0_reckonAs 65 = .ok (.aload_n 0, 1) := by decide +kernel
theorem dX0_reckonAs_66 : decode cX0_reckonAs 66 = .ok (.aload_n 0, 1) := by decide +kernel
theorem dX0_reckonAs_67 : decode cX0_reckonAs 67 = .ok (.getfield 24, 3) := by decide +kernel
theorem dX0_reckonAs_70 : decode cX0_reckonAs 70 = .ok (.iload_n 3, 1) := by decide +kernel
theorem dX0_reckonAs_71 : decode cX0_reckonAs 71 = .ok (.iaload, 1) := by decide +kernel
theorem dX0_reckonAs_72 : decode cX0_reckonAs 72 = .ok (.aload_n 0, 1) := by decide +kernel
theorem dX0_reckonAs_73 : decode cX0_reckonAs 73 = .ok (.getfield 27, 3) := by decide +kernel
theorem dX0_reckonAs_76 : decode cX0_reckonAs 76 = .ok (.iload_n 3, 1) := by decide +kernel
theorem dX0_reckonAs_77 : decode cX0_reckonAs 77 = .ok (.iaload, 1) := by decide +kernel
theorem dX0_reckonAs_78 : decode cX0_reckonAs 78 = .ok (.invokevirtual 93, 3) := by decide +kernel
theorem dX0_reckonAs_81 : decode cX0_reckonAs 81 = .ok (.istore 7, 2) := by decide +kernel
theorem dX0_reckonAs_83 : decode cX0_reckonAs 83 = .ok (.aload_n 0, 1) := by decide +kernel
theorem dX0_reckonAs_84 : decode cX0_reckonAs 84 = .ok (.getfield 39, 3) := by decide +kernel
theorem dX0_reckonAs_87 : decode cX0_reckonAs 87 = .ok (.getfield 96, 3) := by decide +kernel
theorem dX0_reckonAs_90 : decode cX0_reckonAs 90 = .ok (.ifCond .eq 46, 3) := by decide +kernel
theorem dX0_reckonAs_93 : decode cX0_reckonAs 93 = .ok (.iload 4, 2) := by decide +kernel
theorem dX0_reckonAs_95 : decode cX0_reckonAs 95 = .ok (.iconst 1, 1) := by decide +kernel
theorem dX0_reckonAs_96 : decode cX0_reckonAs 96 = .ok (.if_icmp .ne 7, 3) := by decide +kernel
theorem dX0_reckonAs_99 : decode cX0_reckonAs 99 = .ok (.iconst 3, 1) := by decide +kernel
theorem dX0_reckonAs_100 : decode cX0_reckonAs 100 = .ok (.goto 4, 3) := by decide +kernel
theorem dX0_reckonAs_103 : decode cX0_reckonAs 103 = .ok (.iconst 1, 1) := by decide +kernel
theorem dX0_reckonAs_104 : decode cX0_reckonAs 104 = .ok (.istore 8, 2) := by decide +kernel
theorem dX0_reckonAs_106 : decode cX0_reckonAs 106 = .ok (.aload_n 0, 1) := by decide +kernel
theorem dX0_reckonAs_107 : decode cX0_reckonAs 107 = .ok (.aload_n 0, 1) := by decide +kernel
theorem dX0_reckonAs_108 : decode cX0_reckonAs 108 = .ok (.getfield 24, 3) := by decide +kernel
theorem dX0_reckonAs_111 : decode cX0_reckonAs 111 = .ok (.iload_n 3, 1) := by decide +kernel
theorem dX0_reckonAs_112 : decode cX0_reckonAs 112 = .ok (.iaload, 1) := by decide +kernel
theorem dX0_reckonAs_113 : decode cX0_reckonAs 113 = .ok (.iload 5, 2) := by decide +kernel
theorem dX0_reckonAs_115 : decode cX0_reckonAs 115 = .ok (.invokevirtual 93, 3) := by decide +kernel
theorem dX0_reckonAs_118 : decode cX0_reckonAs 118 = .ok (.iload 8, 2) := by decide +kernel
theorem dX0_reckonAs_120 : decode cX0_reckonAs 120 = .ok (.iadd, 1) := by decide +kernel
theorem dX0_reckonAs_121 : decode cX0_reckonAs 121 = .ok (.aload_n 0, 1) := by decide +kernel
theorem dX0_reckonAs_122 : decode cX0_reckonAs 122 = .ok (.iload 5, 2) := by decide +kernel
theorem dX0_reckonAs_124 : decode cX0_reckonAs 124 = .ok (.aload_n 0, 1) := by decide +kernel
theorem dX0_reckonAs_125 : decode cX0_reckonAs 125 = .ok (.getfield 27, 3) := by decide +kernel
theorem dX0_reckonAs_128 : decode cX0_reckonAs 128 = .ok (.iload_n 3, 1) := by decide +kernel
theorem dX0_reckonAs_129 : decode cX0_reckonAs 129 = .ok (.iaload, 1) := by decide +kernel
theorem dX0_reckonAs_130 : decode cX0_reckonAs 130 = .ok (.invokevirtual 93, 3) := by decide +kernel
theorem dX0_reckonAs_133 : decode cX0_reckonAs 133 = .ok (.iadd, 1) := by decide +kernel
theorem dX0_reckonAs_134 : decode cX0_reckonAs 134 = .ok (.istore 7, 2) := by decide +kernel
theorem dX0_reckonAs_136 : decode cX0_reckonAs 136 = .ok (.aload_n 0, 1) := by decide +kernel
theorem dX0_reckonAs_137 : decode cX0_reckonAs 137 = .ok (.getfield 39, 3) := by decide +kernel
theorem dX0_reckonAs_140 : decode cX0_reckonAs 140 = .ok (.iload 6, 2) := by decide +kernel
theorem dX0_reckonAs_142 : decode cX0_reckonAs 142 = .ok (.aload_n 0, 1) := by decide +kernel
theorem dX0_reckonAs_143 : decode cX0_reckonAs 143 = .ok (.aload_n 1, 1) := by decide +kernel
theorem dX0_reckonAs_144 : decode cX0_reckonAs 144 = .ok (.getfield 100, 3) := by decide +kernel
theorem dX0_reckonAs_147 : decode cX0_reckonAs 147 = .ok (.iload_n 2, 1) := by decide +kernel
theorem dX0_reckonAs_148 : decode cX0_reckonAs 148 = .ok (.iaload, 1) := by decide +kernel
theorem dX0_reckonAs_149 : decode cX0_reckonAs 149 = .ok (.aload_n 0, 1) := by decide +kernel
theorem dX0_reckonAs_150 : decode cX0_reckonAs 150 = .ok (.getfield 24, 3) := by decide +kernel
theorem dX0_reckonAs_153 : decode cX0_reckonAs 153 = .ok (.iload_n 3, 1) := by decide +kernel
theorem dX0_reckonAs_154 : decode cX0_reckonAs 154 = .ok (.iaload, 1) := by decide +kernel
theorem dX0_reckonAs_155 : decode cX0_reckonAs 155 = .ok (.invokevirtual 93, 3) := by decide +kernel
theorem dX0_reckonAs_158 : decode cX0_reckonAs 158 = .ok (.iadd, 1) := by decide +kernel
theorem dX0_reckonAs_159 : decode cX0_reckonAs 159 = .ok (.iload 7, 2) := by decide +kernel
theorem dX0_reckonAs_161 : decode cX0_reckonAs 161 = .ok (.iadd, 1) := by decide +kernel
theorem dX0_reckonAs_162 : decode cX0_reckonAs 162 = .ok (.putfield 103, 3) := by decide +kernel
theorem dX0_reckonAs_165 : decode cX0_reckonAs 165 = .ok (.aload_n 0, 1) := by decide +kernel
theorem dX0_reckonAs_166 : decode cX0_reckonAs 166 = .ok (.getfield 39, 3) := by decide +kernel
theorem dX0_reckonAs_169 : decode cX0_reckonAs 169 = .ok (.aload_n 0, 1) := by decide +kernel
theorem dX0_reckonAs_170 : decode cX0_reckonAs 170 = .ok (.getfield 39, 3) := by decide +kernel
theorem dX0_reckonAs_173 : decode cX0_reckonAs 173 = .ok (.getfield 103, 3) := by decide +kernel
theorem dX0_reckonAs_176 : decode cX0_reckonAs 176 = .ok (.aload_n 0, 1) := by decide +kernel
theorem dX0_reckonAs_177 : decode cX0_reckonAs 177 = .ok (.getfield 30, 3) := by decide +kernel
theorem dX0_reckonAs_180 : decode cX0_reckonAs 180 = .ok (.iload_n 3, 1) := by decide +kernel
theorem dX0_reckonAs_181 : decode cX0_reckonAs 181 = .ok (.iaload, 1) := by decide +kernel
theorem dX0_reckonAs_182 : decode cX0_reckonAs 182 = .ok (.isub, 1) := by decide +kernel
theorem dX0_reckonAs_183 : decode cX0_reckonAs 183 = .ok (.putfield 105, 3) := by decide +kernel
theorem dX0_reckonAs_186 : decode cX0_reckonAs 186 = .ok (.aload_n 0, 1) := by decide +kernel
theorem dX0_reckonAs_187 : decode cX0_reckonAs 187 = .ok (.getfield 39, 3) := by decide +kernel
theorem dX0_reckonAs_190 : decode cX0_reckonAs 190 = .ok (.aload_n 0, 1) := by decide +kernel
theorem dX0_reckonAs_191 : decode cX0_reckonAs 191 = .ok (.getfield 21, 3) := by decide +kernel
theorem dX0_reckonAs_194 : decode cX0_reckonAs 194 = .ok (.iload_n 3, 1) := by decide +kernel
theorem dX0_reckonAs_195 : decode cX0_reckonAs 195 = .ok (.iaload, 1) := by decide +kernel
theorem dX0_reckonAs_196 : decode cX0_reckonAs 196 = .ok (.iconst 1, 1) := by decide +kernel
theorem dX0_reckonAs_197 : decode cX0_reckonAs 197 = .ok (.if_icmp .eq 28, 3) := by decide +kernel
theorem dX0_reckonAs_200 : decode cX0_reckonAs 200 = .ok (.aload_n 0, 1) := by decide +kernel
theorem dX0_reckonAs_201 : decode cX0_reckonAs 201 = .ok (.getfield 21, 3) := by decide +kernel
theorem dX0_reckonAs_204 : decode cX0_reckonAs 204 = .ok (.iload_n 3, 1) := by decide +kernel
theorem dX0_reckonAs_205 : decode cX0_reckonAs 205 = .ok (.iaload, 1) := by decide +kernel
theorem dX0_reckonAs_206 : decode cX0_reckonAs 206 = .ok (.ifCond .ne 23, 3) := by decide +kernel
theorem dX0_reckonAs_209 : decode cX0_reckonAs 209 = .ok (.aload_n 0, 1) := by decide +kernel
theorem dX0_reckonAs_210 : decode cX0_reckonAs 210 = .ok (.getfield 39, 3) := by decide +kernel
theorem dX0_reckonAs_213 : decode cX0_reckonAs 213 = .ok (.getfield 105, 3) := by decide +kernel
theorem dX0_reckonAs_216 : decode cX0_reckonAs 216 = .ok (.aload_n 0, 1) := by decide +kernel
theorem dX0_reckonAs_217 : decode cX0_reckonAs 217 = .ok (.getfield 33, 3) := by decide +kernel
theorem dX0_reckonAs_220 : decode cX0_reckonAs 220 = .ok (.iload_n 3, 1) := by decide +kernel
theorem dX0_reckonAs_221 : decode cX0_reckonAs 221 = .ok (.iaload, 1) := by decide +kernel
theorem dX0_reckonAs_222 : decode cX0_reckonAs 222 = .ok (.if_icmp .le 7, 3) := by decide +kernel
theorem dX0_reckonAs_225 : decode cX0_reckonAs 225 = .ok (.iconst 1, 1) := by decide +kernel
theorem dX0_reckonAs_226 : decode cX0_reckonAs 226 = .ok (.goto 4, 3) := by decide +kernel
theorem dX0_reckonAs_229 : decode cX0_reckonAs 229 = .ok (.iconst 0, 1) := by decide +kernel
theorem dX0_reckonAs_230 : decode cX0_reckonAs 230 = .ok (.putfield 108, 3) := by decide +kernel
theorem dX0_reckonAs_233 : decode cX0_reckonAs 233 = .ok (.return_, 1) := by decide +kernel
theorem dX0_nearest_0 : decode cX0_nearest 0 = .ok (.iconst 0, 1) := by decide +kernel
theorem dX0_nearest_1 : decode cX0_nearest 1 = .ok (.istore_n 3, 1) := by decide +kernel
theorem dX0_nearest_2 : decode cX0_nearest 2 = .ok (.iconst 0, 1) := by decide +kernel
theorem dX0_nearest_3 : decode cX0_nearest 3 = .ok (.istore 4, 2) := by decide +kernel
theorem dX0_nearest_5 : decode cX0_nearest 5 = .ok (.iconst 0, 1) := by decide +kernel
theorem dX0_nearest_6 : decode cX0_nearest 6 = .ok (.istore 5, 2) := by decide +kernel
theorem dX0_nearest_8 : decode cX0_nearest 8 = .ok (.iload 5, 2) := by decide +kernel
theorem dX0_nearest_10 : decode cX0_nearest 10 = .ok (.aload_n 0, 1) := by decide +kernel
theorem dX0_nearest_11 : decode cX0_nearest 11 = .ok (.getfield 50, 3) := by decide +kernel
theorem dX0_nearest_14 : decode cX0_nearest 14 = .ok (.if_icmp .ge 60, 3) := by decide +kernel
theorem dX0_nearest_17 : decode cX0_nearest 17 = .ok (.aload_n 0, 1) := by decide +kernel
theorem dX0_nearest_18 : decode cX0_nearest 18 = .ok (.aload_n 1, 1) := by decide +kernel
theorem dX0_nearest_19 : decode cX0_nearest 19 = .ok (.iload 5, 2) := by decide +kernel
theorem dX0_nearest_21 : decode cX0_nearest 21 = .ok (.iload_n 2, 1) := by decide +kernel
theorem dX0_nearest_22 : decode cX0_nearest 22 = .ok (.aload_n 0, 1) := by decide +kernel
theorem dX0_nearest_23 : decode cX0_nearest 23 = .ok (.getfield 9, 3) := by decide +kernel
theorem dX0_nearest_26 : decode cX0_nearest 26 = .ok (.iload 5, 2) := by decide +kernel
theorem dX0_nearest_28 : decode cX0_nearest 28 = .ok (.iaload, 1) := by decide +kernel
theorem dX0_nearest_29 : decode cX0_nearest 29 = .ok (.aload_n 1, 1) := by decide +kernel
theorem dX0_nearest_30 : decode cX0_nearest 30 = .ok (.getfield 78, 3) := by decide +kernel
theorem dX0_nearest_33 : decode cX0_nearest 33 = .ok (.iload 5, 2) := by decide +kernel
theorem dX0_nearest_35 : decode cX0_nearest 35 = .ok (.iaload, 1) := by decide +kernel
theorem dX0_nearest_36 : decode cX0_nearest 36 = .ok (.invokevirtual 83, 3) := by decide +kernel
theorem dX0_nearest_39 : decode cX0_nearest 39 = .ok (.iload 5, 2) := by decide +kernel
theorem dX0_nearest_41 : decode cX0_nearest 41 = .ok (.ifCond .eq 15, 3) := by decide +kernel
theorem dX0_nearest_44 : decode cX0_nearest 44 = .ok (.aload_n 0, 1) := by decide +kernel
theorem dX0_nearest_45 : decode cX0_nearest 45 = .ok (.getfield 39, 3) := by decide +kernel
theorem dX0_nearest_48 : decode cX0_nearest 48 = .ok (.getfield 105, 3) := by decide +kernel
theorem dX0_nearest_51 : decode cX0_nearest 51 = .ok (.iload 4, 2) := by decide +kernel
theorem dX0_nearest_53 : decode cX0_nearest 53 = .ok (.if_icmp .ge 15, 3) := by decide +kernel
theorem dX0_nearest_56 : decode cX0_nearest 56 = .ok (.iload 5, 2) := by decide +kernel
theorem dX0_nearest_58 : decode cX0_nearest 58 = .ok (.istore_n 3, 1) := by decide +kernel
theorem dX0_nearest_59 : decode cX0_nearest 59 = .ok (.aload_n 0, 1) := by decide +kernel
theorem dX0_nearest_60 : decode cX0_nearest 60 = .ok (.getfield 39, 3) := by decide +kernel
theorem dX0_nearest_63 : decode cX0_nearest 63 = .ok (.getfield 105, 3) := by decide +kernel
theorem dX0_nearest_66 : decode cX0_nearest 66 = .ok (.istore 4, 2) := by decide +kernel
theorem dX0_nearest_68 : decode cX0_nearest 68 = .ok (.iinc 5 1, 3) := by decide +kernel
theorem dX0_nearest_71 : decode cX0_nearest 71 = .ok (.goto (-63), 3) := by decide +kernel
theorem dX0_nearest_74 : decode cX0_nearest 74 = .ok (.iload_n 3, 1) := by decide +kernel
theorem dX0_nearest_75 : decode cX0_nearest 75 = .ok (.ireturn, 1) := by decide +kernel
theorem dX0_settle_0 : decode cX0_settle 0 = .ok (.aload_n 1, 1) := by decide +kernel
theorem dX0_settle_1 : decode cX0_settle 1 = .ok (.getfield 100, 3) := by decide +kernel
theorem dX0_settle_4 : decode cX0_settle 4 = .ok (.iload_n 2, 1) := by decide +kernel
theorem dX0_settle_5 : decode cX0_settle 5 = .ok (.aload_n 0, 1) := by decide +kernel
theorem dX0_settle_6 : decode cX0_settle 6 = .ok (.getfield 27, 3) := by decide +kernel
theorem dX0_settle_9 : decode cX0_settle 9 = .ok (.iload_n 3, 1) := by decide +kernel
theorem dX0_settle_10 : decode cX0_settle 10 = .ok (.iaload, 1) := by decide +kernel
theorem dX0_settle_11 : decode cX0_settle 11 = .ok (.iastore, 1) := by decide +kernel
theorem dX0_settle_12 : decode cX0_settle 12 = .ok (.aload_n 1, 1) := by decide +kernel
theorem dX0_settle_13 : decode cX0_settle 13 = .ok (.getfield 90, 3) := by decide +kernel
theorem dX0_settle_16 : decode cX0_settle 16 = .ok (.iload_n 2, 1) := by decide +kernel
theorem dX0_settle_17 : decode cX0_settle 17 = .ok (.aload_n 0, 1) := by decide +kernel
theorem dX0_settle_18 : decode cX0_settle 18 = .ok (.getfield 39, 3) := by decide +kernel
theorem dX0_settle_21 : decode cX0_settle 21 = .ok (.getfield 103, 3) := by decide +kernel
theorem dX0_settle_24 : decode cX0_settle 24 = .ok (.iastore, 1) := by decide +kernel
theorem dX0_settle_25 : decode cX0_settle 25 = .ok (.aload_n 1, 1) := by decide +kernel
theorem dX0_settle_26 : decode cX0_settle 26 = .ok (.getfield 111, 3) := by decide +kernel
theorem dX0_settle_29 : decode cX0_settle 29 = .ok (.iload_n 3, 1) := by decide +kernel
theorem dX0_settle_30 : decode cX0_settle 30 = .ok (.aload_n 0, 1) := by decide +kernel
theorem dX0_settle_31 : decode cX0_settle 31 = .ok (.getfield 39, 3) := by decide +kernel
theorem dX0_settle_34 : decode cX0_settle 34 = .ok (.getfield 105, 3) := by decide +kernel
theorem dX0_settle_37 : decode cX0_settle 37 = .ok (.iastore, 1) := by decide +kernel
theorem dX0_settle_38 : decode cX0_settle 38 = .ok (.aload_n 1, 1) := by decide +kernel
theorem dX0_settle_39 : decode cX0_settle 39 = .ok (.getfield 113, 3) := by decide +kernel
theorem dX0_settle_42 : decode cX0_settle 42 = .ok (.iload_n 3, 1) := by decide +kernel
theorem dX0_settle_43 : decode cX0_settle 43 = .ok (.iload 4, 2) := by decide +kernel
theorem dX0_settle_45 : decode cX0_settle 45 = .ok (.ifCond .eq 7, 3) := by decide +kernel
theorem dX0_settle_48 : decode cX0_settle 48 = .ok (.iconst 1, 1) := by decide +kernel
theorem dX0_settle_49 : decode cX0_settle 49 = .ok (.goto 4, 3) := by decide +kernel
theorem dX0_settle_52 : decode cX0_settle 52 = .ok (.iconst 0, 1) := by decide +kernel
theorem dX0_settle_53 : decode cX0_settle 53 = .ok (.iastore, 1) := by decide +kernel
theorem dX0_settle_54 : decode cX0_settle 54 = .ok (.aload_n 0, 1) := by decide +kernel
theorem dX0_settle_55 : decode cX0_settle 55 = .ok (.getfield 21, 3) := by decide +kernel
theorem dX0_settle_58 : decode cX0_settle 58 = .ok (.iload_n 3, 1) := by decide +kernel
theorem dX0_settle_59 : decode cX0_settle 59 = .ok (.iaload, 1) := by decide +kernel
theorem dX0_settle_60 : decode cX0_settle 60 = .ok (.iconst 3, 1) := by decide +kernel
theorem dX0_settle_61 : decode cX0_settle 61 = .ok (.if_icmp .ne 24, 3) := by decide +kernel
theorem dX0_settle_64 : decode cX0_settle 64 = .ok (.aload_n 0, 1) := by decide +kernel
theorem dX0_settle_65 : decode cX0_settle 65 = .ok (.getfield 39, 3) := by decide +kernel
theorem dX0_settle_68 : decode cX0_settle 68 = .ok (.getfield 96, 3) := by decide +kernel
theorem dX0_settle_71 : decode cX0_settle 71 = .ok (.ifCond .eq 14, 3) := by decide +kernel
theorem dX0_settle_74 : decode cX0_settle 74 = .ok (.aload_n 1, 1) := by decide +kernel
theorem dX0_settle_75 : decode cX0_settle 75 = .ok (.getfield 78, 3) := by decide +kernel
theorem dX0_settle_78 : decode cX0_settle 78 = .ok (.iload_n 2, 1) := by decide +kernel
theorem dX0_settle_79 : decode cX0_settle 79 = .ok (.bipush (-4), 2) := by decide +kernel
theorem dX0_settle_81 : decode cX0_settle 81 = .ok (.iastore, 1) := by decide +kernel
theorem dX0_settle_82 : decode cX0_settle 82 = .ok (.goto 20, 3) := by decide +kernel
theorem dX0_settle_85 : decode cX0_settle 85 = .ok (.iload 4, 2) := by decide +kernel
theorem dX0_settle_87 : decode cX0_settle 87 = .ok (.ifCond .eq 15, 3) := by decide +kernel
theorem dX0_settle_90 : decode cX0_settle 90 = .ok (.aload_n 1, 1) := by decide +kernel
theorem dX0_settle_91 : decode cX0_settle 91 = .ok (.getfield 78, 3) := by decide +kernel
theorem dX0_settle_94 : decode cX0_settle 94 = .ok (.iload_n 2, 1) := by decide +kernel
theorem dX0_settle_95 : decode cX0_settle 95 = .ok (.aload_n 0, 1) := by decide +kernel
theorem dX0_settle_96 : decode cX0_settle 96 = .ok (.getfield 27, 3) := by decide +kernel
theorem dX0_settle_99 : decode cX0_settle 99 = .ok (.iload_n 3, 1) := by decide +kernel
theorem dX0_settle_100 : decode cX0_settle 100 = .ok (.iaload, 1) := by decide +kernel
theorem dX0_settle_101 : decode cX0_settle 101 = .ok (.iastore, 1) := by decide +kernel
theorem dX0_settle_102 : decode cX0_settle 102 = .ok (.return_, 1) := by decide +kernel
theorem dX0_drive_0 : decode cX0_drive 0 = .ok (.aload_n 0, 1) := by decide +kernel
theorem dX0_drive_1 : decode cX0_drive 1 = .ok (.aload_n 1, 1) := by decide +kernel
theorem dX0_drive_2 : decode cX0_drive 2 = .ok (.iload_n 2, 1) := by decide +kernel
theorem dX0_drive_3 : decode cX0_drive 3 = .ok (.iload_n 3, 1) := by decide +kernel
theorem dX0_drive_4 : decode cX0_drive 4 = .ok (.invokevirtual 116, 3) := by decide +kernel
theorem dX0_drive_7 : decode cX0_drive 7 = .ok (.aload_n 0, 1) := by decide +kernel
theorem dX0_drive_8 : decode cX0_drive 8 = .ok (.getfield 39, 3) := by decide +kernel
theorem dX0_drive_11 : decode cX0_drive 11 = .ok (.getfield 108, 3) := by decide +kernel
theorem dX0_drive_14 : decode cX0_drive 14 = .ok (.istore 4, 2) := by decide +kernel
theorem dX0_drive_16 : decode cX0_drive 16 = .ok (.aload_n 0, 1) := by decide +kernel
theorem dX0_drive_17 : decode cX0_drive 17 = .ok (.aload_n 1, 1) := by decide +kernel
theorem dX0_drive_18 : decode cX0_drive 18 = .ok (.iload_n 2, 1) := by decide +kernel
theorem dX0_drive_19 : decode cX0_drive 19 = .ok (.iload_n 3, 1) := by decide +kernel
theorem dX0_drive_20 : decode cX0_drive 20 = .ok (.iload 4, 2) := by decide +kernel
theorem dX0_drive_22 : decode cX0_drive 22 = .ok (.invokevirtual 120, 3) := by decide +kernel
theorem dX0_drive_25 : decode cX0_drive 25 = .ok (.iload 4, 2) := by decide +kernel
theorem dX0_drive_27 : decode cX0_drive 27 = .ok (.ireturn, 1) := by decide +kernel
theorem dX0_driveSoonest_0 : decode cX0_driveSoonest 0 = .ok (.aload_n 0, 1) := by decide +kernel
theorem dX0_driveSoonest_1 : decode cX0_driveSoonest 1 = .ok (.aload_n 1, 1) := by decide +kernel
theorem dX0_driveSoonest_2 : decode cX0_driveSoonest 2 = .ok (.aload_n 0, 1) := by decide +kernel
theorem dX0_driveSoonest_3 : decode cX0_driveSoonest 3 = .ok (.aload_n 1, 1) := by decide +kernel
theorem dX0_driveSoonest_4 : decode cX0_driveSoonest 4 = .ok (.iload_n 2, 1) := by decide +kernel
theorem dX0_driveSoonest_5 : decode cX0_driveSoonest 5 = .ok (.invokevirtual 124, 3) := by decide +kernel
theorem dX0_driveSoonest_8 : decode cX0_driveSoonest 8 = .ok (.iload_n 2, 1) := by decide +kernel
theorem dX0_driveSoonest_9 : decode cX0_driveSoonest 9 = .ok (.invokevirtual 128, 3) := by decide +kernel
theorem dX0_driveSoonest_12 : decode cX0_driveSoonest 12 = .ok (.ireturn, 1) := by decide +kernel
theorem dX0_move_0 : decode cX0_move 0 = .ok (.aload_n 1, 1) := by decide +kernel
theorem dX0_move_1 : decode cX0_move 1 = .ok (.getfield 90, 3) := by decide +kernel
theorem dX0_move_4 : decode cX0_move 4 = .ok (.iload_n 2, 1) := by decide +kernel
theorem dX0_move_5 : decode cX0_move 5 = .ok (.aload_n 1, 1) := by decide +kernel
theorem dX0_move_6 : decode cX0_move 6 = .ok (.getfield 87, 3) := by decide +kernel
theorem dX0_move_9 : decode cX0_move 9 = .ok (.aload_n 1, 1) := by decide +kernel
theorem dX0_move_10 : decode cX0_move 10 = .ok (.getfield 90, 3) := by decide +kernel
theorem dX0_move_13 : decode cX0_move 13 = .ok (.iload_n 2, 1) := by decide +kernel
theorem dX0_move_14 : decode cX0_move 14 = .ok (.iaload, 1) := by decide +kernel
theorem dX0_move_15 : decode cX0_move 15 = .ok (.invokestatic 68, 3) := by decide +kernel
theorem dX0_move_18 : decode cX0_move 18 = .ok (.aload_n 0, 1) := by decide +kernel
theorem dX0_move_19 : decode cX0_move 19 = .ok (.aload_n 1, 1) := by decide +kernel
theorem dX0_move_20 : decode cX0_move 20 = .ok (.getfield 100, 3) := by decide +kernel
theorem dX0_move_23 : decode cX0_move 23 = .ok (.iload_n 2, 1) := by decide +kernel
theorem dX0_move_24 : decode cX0_move 24 = .ok (.iaload, 1) := by decide +kernel
theorem dX0_move_25 : decode cX0_move 25 = .ok (.iload_n 3, 1) := by decide +kernel
theorem dX0_move_26 : decode cX0_move 26 = .ok (.invokevirtual 93, 3) := by decide +kernel
theorem dX0_move_29 : decode cX0_move 29 = .ok (.iadd, 1) := by decide +kernel
theorem dX0_move_30 : decode cX0_move 30 = .ok (.iastore, 1) := by decide +kernel
theorem dX0_move_31 : decode cX0_move 31 = .ok (.aload_n 1, 1) := by decide +kernel
theorem dX0_move_32 : decode cX0_move 32 = .ok (.getfield 100, 3) := by decide +kernel
theorem dX0_move_35 : decode cX0_move 35 = .ok (.iload_n 2, 1) := by decide +kernel
theorem dX0_move_36 : decode cX0_move 36 = .ok (.iload_n 3, 1) := by decide +kernel
theorem dX0_move_37 : decode cX0_move 37 = .ok (.iastore, 1) := by decide +kernel
theorem dX0_move_38 : decode cX0_move 38 = .ok (.return_, 1) := by decide +kernel
theorem dX1_init_0 : decode cX1_init 0 = .ok (.aload_n 0, 1) := by decide +kernel
theorem dX1_init_1 : decode cX1_init 1 = .ok (.invokespecial 3, 3) := by decide +kernel
theorem dX1_init_4 : decode cX1_init 4 = .ok (.aload_n 0, 1) := by decide +kernel
theorem dX1_init_5 : decode cX1_init 5 = .ok (.iconst 5, 1) := by decide +kernel
theorem dX1_init_6 : decode cX1_init 6 = .ok (.anewarray 9, 3) := by decide +kernel
theorem dX1_init_9 : decode cX1_init 9 = .ok (.putfield 11, 3) := by decide +kernel
theorem dX1_init_12 : decode cX1_init 12 = .ok (.iconst 0, 1) := by decide +kernel
theorem dX1_init_13 : decode cX1_init 13 = .ok (.istore_n 1, 1) := by decide +kernel
theorem dX1_init_14 : decode cX1_init 14 = .ok (.iload_n 1, 1) := by decide +kernel
theorem dX1_init_15 : decode cX1_init 15 = .ok (.aload_n 0, 1) := by decide +kernel
theorem dX1_init_16 : decode cX1_init 16 = .ok (.getfield 11, 3) := by decide +kernel
theorem dX1_init_19 : decode cX1_init 19 = .ok (.arraylength, 1) := by decide +kernel
theorem dX1_init_20 : decode cX1_init 20 = .ok (.if_icmp .ge 22, 3) := by decide +kernel
theorem dX1_init_23 : decode cX1_init 23 = .ok (.aload_n 0, 1) := by decide +kernel
theorem dX1_init_24 : decode cX1_init 24 = .ok (.getfield 11, 3) := by decide +kernel
theorem dX1_init_27 : decode cX1_init 27 = .ok (.iload_n 1, 1) := by decide +kernel
theorem dX1_init_28 : decode cX1_init 28 = .ok (.new 9, 3) := by decide +kernel
theorem dX1_init_31 : decode cX1_init 31 = .ok (.dup, 1) := by decide +kernel
theorem dX1_init_32 : decode cX1_init 32 = .ok (.invokespecial 17, 3) := by decide +kernel
theorem dX1_init_35 : decode cX1_init 35 = .ok (.aastore, 1) := by decide +kernel
theorem dX1_init_36 : decode cX1_init 36 = .ok (.iinc 1 1, 3) := by decide +kernel
theorem dX1_init_39 : decode cX1_init 39 = .ok (.goto (-25), 3) := by decide +kernel
theorem dX1_init_42 : decode cX1_init 42 = .ok (.return_, 1) := by decide +kernel
theorem dX1_fight_0 : decode cX1_fight 0 = .ok (.aload_n 0, 1) := by decide +kernel
theorem dX1_fight_1 : decode cX1_fight 1 = .ok (.getfield 11, 3) := by decide +kernel
theorem dX1_fight_4 : decode cX1_fight 4 = .ok (.iconst 0, 1) := by decide +kernel
theorem dX1_fight_5 : decode cX1_fight 5 = .ok (.aaload, 1) := by decide +kernel
theorem dX1_fight_6 : decode cX1_fight 6 = .ok (.aload_n 2, 1) := by decide +kernel
theorem dX1_fight_7 : decode cX1_fight 7 = .ok (.invokevirtual 18, 3) := by decide +kernel
theorem dX1_fight_10 : decode cX1_fight 10 = .ok (.aload_n 0, 1) := by decide +kernel
theorem dX1_fight_11 : decode cX1_fight 11 = .ok (.iload_n 3, 1) := by decide +kernel
theorem dX1_fight_12 : decode cX1_fight 12 = .ok (.putfield 22, 3) := by decide +kernel
theorem dX1_fight_15 : decode cX1_fight 15 = .ok (.aload_n 0, 1) := by decide +kernel
theorem dX1_fight_16 : decode cX1_fight 16 = .ok (.iload 4, 2) := by decide +kernel
theorem dX1_fight_18 : decode cX1_fight 18 = .ok (.putfield 26, 3) := by decide +kernel
theorem dX1_fight_21 : decode cX1_fight 21 = .ok (.aload_n 0, 1) := by decide +kernel
theorem dX1_fight_22 : decode cX1_fight 22 = .ok (.iload 5, 2) := by decide +kernel
theorem dX1_fight_24 : decode cX1_fight 24 = .ok (.iconst 4, 1) := by decide +kernel
theorem dX1_fight_25 : decode cX1_fight 25 = .ok (.invokestatic 29, 3) := by decide +kernel
theorem dX1_fight_28 : decode cX1_fight 28 = .ok (.aload_n 1, 1) := by decide +kernel
theorem dX1_fight_29 : decode cX1_fight 29 = .ok (.aload_n 2, 1) := by decide +kernel
theorem dX1_fight_30 : decode cX1_fight 30 = .ok (.invokestatic 35, 3) := by decide +kernel
theorem dX1_fight_33 : decode cX1_fight 33 = .ok (.invokestatic 29, 3) := by decide +kernel
theorem dX1_fight_36 : decode cX1_fight 36 = .ok (.putfield 39, 3) := by decide +kernel
theorem dX1_fight_39 : decode cX1_fight 39 = .ok (.aload_n 0, 1) := by decide +kernel
theorem dX1_fight_40 : decode cX1_fight 40 = .ok (.bipush (-4), 2) := by decide +kernel
theorem dX1_fight_42 : decode cX1_fight 42 = .ok (.putfield 42, 3) := by decide +kernel
theorem dX1_fight_45 : decode cX1_fight 45 = .ok (.aload_n 0, 1) := by decide +kernel
theorem dX1_fight_46 : decode cX1_fight 46 = .ok (.aload_n 0, 1) := by decide +kernel
theorem dX1_fight_47 : decode cX1_fight 47 = .ok (.aload_n 1, 1) := by decide +kernel
theorem dX1_fight_48 : decode cX1_fight 48 = .ok (.iconst 0, 1) := by decide +kernel
theorem dX1_fight_49 : decode cX1_fight 49 = .ok (.invokestatic 45, 3) := by decide +kernel
theorem dX1_fight_52 : decode cX1_fight 52 = .ok (.putfield 49, 3) := by decide +kernel
theorem dX1_fight_55 : decode cX1_fight 55 = .ok (.return_, 1) := by decide +kernel
theorem dX1_play_0 : decode cX1_play 0 = .ok (.iload_n 2, 1) := by decide +kernel
theorem dX1_play_1 : decode cX1_play 1 = .ok (.aload_n 0, 1) := by decide +kernel
theorem dX1_play_2 : decode cX1_play 2 = .ok (.getfield 39, 3) := by decide +kernel
theorem dX1_play_5 : decode cX1_play 5 = .ok (.if_icmp .ge 8, 3) := by decide +kernel
theorem dX1_play_8 : decode cX1_play 8 = .ok (.iload_n 2, 1) := by decide +kernel
theorem dX1_play_9 : decode cX1_play 9 = .ok (.iconst 4, 1) := by decide +kernel
theorem dX1_play_10 : decode cX1_play 10 = .ok (.if_icmp .lt 5, 3) := by decide +kernel
theorem dX1_play_13 : decode cX1_play 13 = .ok (.iconst 0, 1) := by decide +kernel
theorem dX1_play_14 : decode cX1_play 14 = .ok (.ireturn, 1) := by decide +kernel
theorem dX1_play_15 : decode cX1_play 15 = .ok (.iload_n 2, 1) := by decide +kernel
theorem dX1_play_16 : decode cX1_play 16 = .ok (.iconst 2, 1) := by decide +kernel
theorem dX1_play_17 : decode cX1_play 17 = .ok (.irem, 1) := by decide +kernel
theorem dX1_play_18 : decode cX1_play 18 = .ok (.ifCond .ne 7, 3) := by decide +kernel
theorem dX1_play_21 : decode cX1_play 21 = .ok (.iconst 1, 1) := by decide +kernel
theorem dX1_play_22 : decode cX1_play 22 = .ok (.goto 4, 3) := by decide +kernel
theorem dX1_play_25 : decode cX1_play 25 = .ok (.iconst 0, 1) := by decide +kernel
theorem dX1_play_26 : decode cX1_play 26 = .ok (.istore_n 3, 1) := by decide +kernel
theorem dX1_play_27 : decode cX1_play 27 = .ok (.iload_n 3, 1) := by decide +kernel
theorem dX1_play_28 : decode cX1_play 28 = .ok (.ifCond .eq 7, 3) := by decide +kernel
theorem dX1_play_31 : decode cX1_play 31 = .ok (.iconst 1, 1) := by decide +kernel
theorem dX1_play_32 : decode cX1_play 32 = .ok (.goto 4, 3) := by decide +kernel
theorem dX1_play_35 : decode cX1_play 35 = .ok (.iconst (-1), 1) := by decide +kernel
theorem dX1_play_36 : decode cX1_play 36 = .ok (.istore 4, 2) := by decide +kernel
theorem dX1_play_38 : decode cX1_play 38 = .ok (.bipush (-4), 2) := by decide +kernel
theorem dX1_play_40 : decode cX1_play 40 = .ok (.istore 5, 2) := by decide +kernel
theorem dX1_play_42 : decode cX1_play 42 = .ok (.iconst 0, 1) := by decide +kernel
theorem dX1_play_43 : decode cX1_play 43 = .ok (.istore 6, 2) := by decide +kernel
theorem dX1_play_45 : decode cX1_play 45 = .ok (.iconst 0, 1) := by decide +kernel
theorem dX1_play_46 : decode cX1_play 46 = .ok (.istore 7, 2) := by decide +kernel
theorem dX1_play_48 : decode cX1_play 48 = .ok (.iload 7, 2) := by decide +kernel
theorem dX1_play_50 : decode cX1_play 50 = .ok (.aload_n 1, 1) := by decide +kernel
theorem dX1_play_51 : decode cX1_play 51 = .ok (.getfield 52, 3) := by decide +kernel
theorem dX1_play_54 : decode cX1_play 54 = .ok (.if_icmp .ge 121, 3) := by decide +kernel
theorem dX1_play_57 : decode cX1_play 57 = .ok (.aload_n 0, 1) := by decide +kernel
theorem dX1_play_58 : decode cX1_play 58 = .ok (.getfield 11, 3) := by decide +kernel
theorem dX1_play_61 : decode cX1_play 61 = .ok (.iload_n 2, 1) := by decide +kernel
theorem dX1_play_62 : decode cX1_play 62 = .ok (.aaload, 1) := by decide +kernel
theorem dX1_play_63 : decode cX1_play 63 = .ok (.iload 7, 2) := by decide +kernel
theorem dX1_play_65 : decode cX1_play 65 = .ok (.invokevirtual 57, 3) := by decide +kernel
theorem dX1_play_68 : decode cX1_play 68 = .ok (.ifCond .ne 101, 3) := by decide +kernel
theorem dX1_play_71 : decode cX1_play 71 = .ok (.aload_n 0, 1) := by decide +kernel
theorem dX1_play_72 : decode cX1_play 72 = .ok (.getfield 11, 3) := by decide +kernel
theorem dX1_play_75 : decode cX1_play 75 = .ok (.iload_n 2, 1) := by decide +kernel
theorem dX1_play_76 : decode cX1_play 76 = .ok (.iconst 1, 1) := by decide +kernel
theorem dX1_play_77 : decode cX1_play 77 = .ok (.iadd, 1) := by decide +kernel
theorem dX1_play_78 : decode cX1_play 78 = .ok (.aaload, 1) := by decide +kernel
theorem dX1_play_79 : decode cX1_play 79 = .ok (.aload_n 0, 1) := by decide +kernel
theorem dX1_play_80 : decode cX1_play 80 = .ok (.getfield 11, 3) := by decide +kernel
theorem dX1_play_83 : decode cX1_play 83 = .ok (.iload_n 2, 1) := by decide +kernel
theorem dX1_play_84 : decode cX1_play 84 = .ok (.aaload, 1) := by decide +kernel
theorem dX1_play_85 : decode cX1_play 85 = .ok (.invokevirtual 18, 3) := by decide +kernel
theorem dX1_play_88 : decode cX1_play 88 = .ok (.aload_n 1, 1) := by decide +kernel
theorem dX1_play_89 : decode cX1_play 89 = .ok (.aload_n 0, 1) := by decide +kernel
theorem dX1_play_90 : decode cX1_play 90 = .ok (.getfield 11, 3) := by decide +kernel
theorem dX1_play_93 : decode cX1_play 93 = .ok (.iload_n 2, 1) := by decide +kernel
theorem dX1_play_94 : decode cX1_play 94 = .ok (.iconst 1, 1) := by decide +kernel
theorem dX1_play_95 : decode cX1_play 95 = .ok (.iadd, 1) := by decide +kernel
theorem dX1_play_96 : decode cX1_play 96 = .ok (.aaload, 1) := by decide +kernel
theorem dX1_play_97 : decode cX1_play 97 = .ok (.iload_n 3, 1) := by decide +kernel
theorem dX1_play_98 : decode cX1_play 98 = .ok (.ifCond .eq 10, 3) := by decide +kernel
theorem dX1_play_101 : decode cX1_play 101 = .ok (.aload_n 0, 1) := by decide +kernel
theorem dX1_play_102 : decode cX1_play 102 = .ok (.getfield 22, 3) := by decide +kernel
theorem dX1_play_105 : decode cX1_play 105 = .ok (.goto 7, 3) := by decide +kernel
theorem dX1_play_108 : decode cX1_play 108 = .ok (.aload_n 0, 1) := by decide +kernel
theorem dX1_play_109 : decode cX1_play 109 = .ok (.getfield 26, 3) := by decide +kernel
theorem dX1_play_112 : decode cX1_play 112 = .ok (.iload 7, 2) := by decide +kernel
theorem dX1_play_114 : decode cX1_play 114 = .ok (.invokevirtual 61, 3) := by decide +kernel
theorem dX1_play_117 : decode cX1_play 117 = .ok (.istore 8, 2) := by decide +kernel
theorem dX1_play_119 : decode cX1_play 119 = .ok (.aload_n 0, 1) := by decide +kernel
theorem dX1_play_120 : decode cX1_play 120 = .ok (.aload_n 1, 1) := by decide +kernel
theorem dX1_play_121 : decode cX1_play 121 = .ok (.iload_n 2, 1) := by decide +kernel
theorem dX1_play_122 : decode cX1_play 122 = .ok (.iconst 1, 1) := by decide +kernel
theorem dX1_play_123 : decode cX1_play 123 = .ok (.iadd, 1) := by decide +kernel
theorem dX1_play_124 : decode cX1_play 124 = .ok (.invokestatic 45, 3) := by decide +kernel
theorem dX1_play_127 : decode cX1_play 127 = .ok (.iload 8, 2) := by decide +kernel
theorem dX1_play_129 : decode cX1_play 129 = .ok (.ifCond .eq 8, 3) := by decide +kernel
theorem dX1_play_132 : decode cX1_play 132 = .ok (.iload 4, 2) := by decide +kernel
theorem dX1_play_134 : decode cX1_play 134 = .ok (.goto 4, 3) := by decide +kernel
theorem dX1_play_137 : decode cX1_play 137 = .ok (.iconst 0, 1) := by decide +kernel
theorem dX1_play_138 : decode cX1_play 138 = .ok (.iadd, 1) := by decide +kernel
theorem dX1_play_139 : decode cX1_play 139 = .ok (.istore 9, 2) := by decide +kernel
theorem dX1_play_141 : decode cX1_play 141 = .ok (.iload 5, 2) := by decide +kernel
theorem dX1_play_143 : decode cX1_play 143 = .ok (.bipush (-4), 2) := by decide +kernel
theorem dX1_play_145 : decode cX1_play 145 = .ok (.if_icmp .eq 16, 3) := by decide +kernel
theorem dX1_play_148 : decode cX1_play 148 = .ok (.iload 9, 2) := by decide +kernel
theorem dX1_play_150 : decode cX1_play 150 = .ok (.iload 4, 2) := by decide +kernel
theorem dX1_play_152 : decode cX1_play 152 = .ok (.imul, 1) := by decide +kernel
theorem dX1_play_153 : decode cX1_play 153 = .ok (.iload 6, 2) := by decide +kernel
theorem dX1_play_155 : decode cX1_play 155 = .ok (.iload 4, 2) := by decide +kernel
theorem dX1_play_157 : decode cX1_play 157 = .ok (.imul, 1) := by decide +kernel
theorem dX1_play_158 : decode cX1_play 158 = .ok (.if_icmp .ge 11, 3) := by decide +kernel
theorem dX1_play_161 : decode cX1_play 161 = .ok (.iload 7, 2) := by decide +kernel
theorem dX1_play_163 : decode cX1_play 163 = .ok (.istore 5, 2) := by decide +kernel
theorem dX1_play_165 : decode cX1_play 165 = .ok (.iload 9, 2) := by decide +kernel
theorem dX1_play_167 : decode cX1_play 167 = .ok (.istore 6, 2) := by decide +kernel
theorem dX1_play_169 : decode cX1_play 169 = .ok (.iinc 7 1, 3) := by decide +kernel
theorem dX1_play_172 : decode cX1_play 172 = .ok (.goto (-124), 3) := by decide +kernel
theorem dX1_play_175 : decode cX1_play 175 = .ok (.aload_n 0, 1) := by decide +kernel
theorem dX1_play_176 : decode cX1_play 176 = .ok (.iload_n 2, 1) := by decide +kernel
theorem dX1_play_177 : decode cX1_play 177 = .ok (.ifCond .ne 8, 3) := by decide +kernel
theorem dX1_play_180 : decode cX1_play 180 = .ok (.iload 5, 2) := by decide +kernel
theorem dX1_play_182 : decode cX1_play 182 = .ok (.goto 7, 3) := by decide +kernel
theorem dX1_play_185 : decode cX1_play 185 = .ok (.aload_n 0, 1) := by decide +kernel
theorem dX1_play_186 : decode cX1_play 186 = .ok (.getfield 42, 3) := by decide +kernel
theorem dX1_play_189 : decode cX1_play 189 = .ok (.putfield 42, 3) := by decide +kernel
theorem dX1_play_192 : decode cX1_play 192 = .ok (.iload 6, 2) := by decide +kernel
theorem dX1_play_194 : decode cX1_play 194 = .ok (.ireturn, 1) := by decide +kernel
theorem dX2_init_0 : decode cX2_init 0 = .ok (.aload_n 0, 1) := by decide +kernel
theorem dX2_init_1 : decode cX2_init 1 = .ok (.invokespecial 3, 3) := by decide +kernel
theorem dX2_init_4 : decode cX2_init 4 = .ok (.aload_n 0, 1) := by decide +kernel
theorem dX2_init_5 : decode cX2_init 5 = .ok (.bipush 8, 2) := by decide +kernel
theorem dX2_init_7 : decode cX2_init 7 = .ok (.anewarray 9, 3) := by decide +kernel
theorem dX2_init_10 : decode cX2_init 10 = .ok (.putfield 11, 3) := by decide +kernel
theorem dX2_init_13 : decode cX2_init 13 = .ok (.aload_n 0, 1) := by decide +kernel
theorem dX2_init_14 : decode cX2_init 14 = .ok (.bipush 7, 2) := by decide +kernel
theorem dX2_init_16 : decode cX2_init 16 = .ok (.newarray .int, 2) := by decide +kernel
theorem dX2_init_18 : decode cX2_init 18 = .ok (.putfield 17, 3) := by decide +kernel
theorem dX2_init_21 : decode cX2_init 21 = .ok (.aload_n 0, 1) := by decide +kernel
theorem dX2_init_22 : decode cX2_init 22 = .ok (.bipush 7, 2) := by decide +kernel
theorem dX2_init_24 : decode cX2_init 24 = .ok (.newarray .int, 2) := by decide +kernel
theorem dX2_init_26 : decode cX2_init 26 = .ok (.putfield 21, 3) := by decide +kernel
theorem dX2_init_29 : decode cX2_init 29 = .ok (.iconst 0, 1) := by decide +kernel
theorem dX2_init_30 : decode cX2_init 30 = .ok (.istore_n 1, 1) := by decide +kernel
theorem dX2_init_31 : decode cX2_init 31 = .ok (.iload_n 1, 1) := by decide +kernel
theorem dX2_init_32 : decode cX2_init 32 = .ok (.aload_n 0, 1) := by decide +kernel
theorem dX2_init_33 : decode cX2_init 33 = .ok (.getfield 11, 3) := by decide +kernel
theorem dX2_init_36 : decode cX2_init 36 = .ok (.arraylength, 1) := by decide +kernel
theorem dX2_init_37 : decode cX2_init 37 = .ok (.if_icmp .ge 22, 3) := by decide +kernel
theorem dX2_init_40 : decode cX2_init 40 = .ok (.aload_n 0, 1) := by decide +kernel
theorem dX2_init_41 : decode cX2_init 41 = .ok (.getfield 11, 3) := by decide +kernel
theorem dX2_init_44 : decode cX2_init 44 = .ok (.iload_n 1, 1) := by decide +kernel
theorem dX2_init_45 : decode cX2_init 45 = .ok (.new 9, 3) := by decide +kernel
theorem dX2_init_48 : decode cX2_init 48 = .ok (.dup, 1) := by decide +kernel
theorem dX2_init_49 : decode cX2_init 49 = .ok (.invokespecial 24, 3) := by decide +kernel
theorem dX2_init_52 : decode cX2_init 52 = .ok (.aastore, 1) := by decide +kernel
theorem dX2_init_53 : decode cX2_init 53 = .ok (.iinc 1 1, 3) := by decide +kernel
theorem dX2_init_56 : decode cX2_init 56 = .ok (.goto (-25), 3) := by decide +kernel
theorem dX2_init_59 : decode cX2_init 59 = .ok (.return_, 1) := by decide +kernel
theorem dX2_search_0 : decode cX2_search 0 = .ok (.aload_n 0, 1) := by decide +kernel
theorem dX2_search_1 : decode cX2_search 1 = .ok (.getfield 11, 3) := by decide +kernel
theorem dX2_search_4 : decode cX2_search 4 = .ok (.iconst 0, 1) := by decide +kernel
theorem dX2_search_5 : decode cX2_search 5 = .ok (.aaload, 1) := by decide +kernel
theorem dX2_search_6 : decode cX2_search 6 = .ok (.aload_n 2, 1) := by decide +kernel
theorem dX2_search_7 : decode cX2_search 7 = .ok (.invokevirtual 25, 3) := by decide +kernel
theorem dX2_search_10 : decode cX2_search 10 = .ok (.aload_n 0, 1) := by decide +kernel
theorem dX2_search_11 : decode cX2_search 11 = .ok (.aload_n 1, 1) := by decide +kernel
theorem dX2_search_12 : decode cX2_search 12 = .ok (.aload_n 2, 1) := by decide +kernel
theorem dX2_search_13 : decode cX2_search 13 = .ok (.invokestatic 29, 3) := by decide +kernel
theorem dX2_search_16 : decode cX2_search 16 = .ok (.putfield 33, 3) := by decide +kernel
theorem dX2_search_19 : decode cX2_search 19 = .ok (.aload_n 0, 1) := by decide +kernel
theorem dX2_search_20 : decode cX2_search 20 = .ok (.aload_n 0, 1) := by decide +kernel
theorem dX2_search_21 : decode cX2_search 21 = .ok (.getfield 33, 3) := by decide +kernel
theorem dX2_search_24 : decode cX2_search 24 = .ok (.iconst 1, 1) := by decide +kernel
theorem dX2_search_25 : decode cX2_search 25 = .ok (.iadd, 1) := by decide +kernel
theorem dX2_search_26 : decode cX2_search 26 = .ok (.putfield 37, 3) := by decide +kernel
theorem dX2_search_29 : decode cX2_search 29 = .ok (.iconst 0, 1) := by decide +kernel
theorem dX2_search_30 : decode cX2_search 30 = .ok (.istore_n 3, 1) := by decide +kernel
theorem dX2_search_31 : decode cX2_search 31 = .ok (.iconst 0, 1) := by decide +kernel
theorem dX2_search_32 : decode cX2_search 32 = .ok (.istore 4, 2) := by decide +kernel
theorem dX2_search_34 : decode cX2_search 34 = .ok (.iload 4, 2) := by decide +kernel
theorem dX2_search_36 : decode cX2_search 36 = .ok (.aload_n 1, 1) := by decide +kernel
theorem dX2_search_37 : decode cX2_search 37 = .ok (.getfield 40, 3) := by decide +kernel
theorem dX2_search_40 : decode cX2_search 40 = .ok (.if_icmp .ge 37, 3) := by decide +kernel
theorem dX2_search_43 : decode cX2_search 43 = .ok (.iload_n 3, 1) := by decide +kernel
theorem dX2_search_44 : decode cX2_search 44 = .ok (.aload_n 1, 1) := by decide +kernel
theorem dX2_search_45 : decode cX2_search 45 = .ok (.getfield 45, 3) := by decide +kernel
theorem dX2_search_48 : decode cX2_search 48 = .ok (.iload 4, 2) := by decide +kernel
theorem dX2_search_50 : decode cX2_search 50 = .ok (.iaload, 1) := by decide +kernel
theorem dX2_search_51 : decode cX2_search 51 = .ok (.iconst 1, 1) := by decide +kernel
theorem dX2_search_52 : decode cX2_search 52 = .ok (.if_icmp .ne 16, 3) := by decide +kernel
theorem dX2_search_55 : decode cX2_search 55 = .ok (.aload_n 2, 1) := by decide +kernel
theorem dX2_search_56 : decode cX2_search 56 = .ok (.iload 4, 2) := by decide +kernel
theorem dX2_search_58 : decode cX2_search 58 = .ok (.invokevirtual 48, 3) := by decide +kernel
theorem dX2_search_61 : decode cX2_search 61 = .ok (.ifCond .ne 7, 3) := by decide +kernel
theorem dX2_search_64 : decode cX2_search 64 = .ok (.iconst 1, 1) := by decide +kernel
theorem dX2_search_65 : decode cX2_search 65 = .ok (.goto 4, 3) := by decide +kernel
theorem dX2_search_68 : decode cX2_search 68 = .ok (.iconst 0, 1) := by decide +kernel
theorem dX2_search_69 : decode cX2_search 69 = .ok (.iadd, 1) := by decide +kernel
theorem dX2_search_70 : decode cX2_search 70 = .ok (.istore_n 3, 1) := by decide +kernel
theorem dX2_search_71 : decode cX2_search 71 = .ok (.iinc 4 1, 3) := by decide +kernel
theorem dX2_search_74 : decode cX2_search 74 = .ok (.goto (-40), 3) := by decide +kernel
theorem dX2_search_77 : decode cX2_search 77 = .ok (.aload_n 0, 1) := by decide +kernel
theorem dX2_search_78 : decode cX2_search 78 = .ok (.aload_n 1, 1) := by decide +kernel
theorem dX2_search_79 : decode cX2_search 79 = .ok (.iconst 0, 1) := by decide +kernel
theorem dX2_search_80 : decode cX2_search 80 = .ok (.iload_n 3, 1) := by decide +kernel
theorem dX2_search_81 : decode cX2_search 81 = .ok (.invokestatic 52, 3) := by decide +kernel
theorem dX2_search_84 : decode cX2_search 84 = .ok (.return_, 1) := by decide +kernel
theorem dX2_extend_0 : decode cX2_extend 0 = .ok (.iload_n 2, 1) := by decide +kernel
theorem dX2_extend_1 : decode cX2_extend 1 = .ok (.aload_n 0, 1) := by decide +kernel
theorem dX2_extend_2 : decode cX2_extend 2 = .ok (.getfield 33, 3) := by decide +kernel
theorem dX2_extend_5 : decode cX2_extend 5 = .ok (.if_icmp .ge 9, 3) := by decide +kernel
theorem dX2_extend_8 : decode cX2_extend 8 = .ok (.iload_n 2, 1) := by decide +kernel
theorem dX2_extend_9 : decode cX2_extend 9 = .ok (.bipush 7, 2) := by decide +kernel
theorem dX2_extend_11 : decode cX2_extend 11 = .ok (.if_icmp .lt 9, 3) := by decide +kernel
theorem dX2_extend_14 : decode cX2_extend 14 = .ok (.aload_n 0, 1) := by decide +kernel
theorem dX2_extend_15 : decode cX2_extend 15 = .ok (.iload_n 3, 1) := by decide +kernel
theorem dX2_extend_16 : decode cX2_extend 16 = .ok (.invokevirtual 56, 3) := by decide +kernel
theorem dX2_extend_19 : decode cX2_extend 19 = .ok (.return_, 1) := by decide +kernel
theorem dX2_extend_20 : decode cX2_extend 20 = .ok (.aload_n 0, 1) := by decide +kernel
theorem dX2_extend_21 : decode cX2_extend 21 = .ok (.getfield 11, 3) := by decide +kernel
theorem dX2_extend_24 : decode cX2_extend 24 = .ok (.iload_n 2, 1) := by decide +kernel
theorem dX2_extend_25 : decode cX2_extend 25 = .ok (.aaload, 1) := by decide +kernel
theorem dX2_extend_26 : decode cX2_extend 26 = .ok (.astore 4, 2) := by decide +kernel
theorem dX2_extend_28 : decode cX2_extend 28 = .ok (.aload_n 0, 1) := by decide +kernel
theorem dX2_extend_29 : decode cX2_extend 29 = .ok (.getfield 11, 3) := by decide +kernel
theorem dX2_extend_32 : decode cX2_extend 32 = .ok (.iload_n 2, 1) := by decide +kernel
theorem dX2_extend_33 : decode cX2_extend 33 = .ok (.iconst 1, 1) := by decide +kernel
theorem dX2_extend_34 : decode cX2_extend 34 = .ok (.iadd, 1) := by decide +kernel
theorem dX2_extend_35 : decode cX2_extend 35 = .ok (.aaload, 1) := by decide +kernel
theorem dX2_extend_36 : decode cX2_extend 36 = .ok (.astore 5, 2) := by decide +kernel
theorem dX2_extend_38 : decode cX2_extend 38 = .ok (.iconst 0, 1) := by decide +kernel
theorem dX2_extend_39 : decode cX2_extend 39 = .ok (.istore 6, 2) := by decide +kernel
theorem dX2_extend_41 : decode cX2_extend 41 = .ok (.iload 6, 2) := by decide +kernel
theorem dX2_extend_43 : decode cX2_extend 43 = .ok (.aload_n 1, 1) := by decide +kernel
theorem dX2_extend_44 : decode cX2_extend 44 = .ok (.getfield 40, 3) := by decide +kernel
theorem dX2_extend_47 : decode cX2_extend 47 = .ok (.if_icmp .ge 91, 3) := by decide +kernel
theorem dX2_extend_50 : decode cX2_extend 50 = .ok (.iload_n 3, 1) := by decide +kernel
theorem dX2_extend_51 : decode cX2_extend 51 = .ok (.aload_n 0, 1) := by decide +kernel
theorem dX2_extend_52 : decode cX2_extend 52 = .ok (.getfield 37, 3) := by decide +kernel
theorem dX2_extend_55 : decode cX2_extend 55 = .ok (.if_icmp .ge 83, 3) := by decide +kernel
theorem dX2_extend_58 : decode cX2_extend 58 = .ok (.aload 4, 2) := by decide +kernel
theorem dX2_extend_60 : decode cX2_extend 60 = .ok (.iload 6, 2) := by decide +kernel
theorem dX2_extend_62 : decode cX2_extend 62 = .ok (.invokevirtual 48, 3) := by decide +kernel
theorem dX2_extend_65 : decode cX2_extend 65 = .ok (.ifCond .ne 67, 3) := by decide +kernel
theorem dX2_extend_68 : decode cX2_extend 68 = .ok (.aload 5, 2) := by decide +kernel
theorem dX2_extend_70 : decode cX2_extend 70 = .ok (.aload 4, 2) := by decide +kernel
theorem dX2_extend_72 : decode cX2_extend 72 = .ok (.invokevirtual 25, 3) := by decide +kernel
theorem dX2_extend_75 : decode cX2_extend 75 = .ok (.aload_n 0, 1) := by decide +kernel
theorem dX2_extend_76 : decode cX2_extend 76 = .ok (.getfield 17, 3) := by decide +kernel
theorem dX2_extend_79 : decode cX2_extend 79 = .ok (.iload_n 2, 1) := by decide +kernel
theorem dX2_extend_80 : decode cX2_extend 80 = .ok (.iload 6, 2) := by decide +kernel
theorem dX2_extend_82 : decode cX2_extend 82 = .ok (.iastore, 1) := by decide +kernel
theorem dX2_extend_83 : decode cX2_extend 83 = .ok (.aload_n 1, 1) := by decide +kernel
theorem dX2_extend_84 : decode cX2_extend 84 = .ok (.aload 5, 2) := by decide +kernel
theorem dX2_extend_86 : decode cX2_extend 86 = .ok (.iload 6, 2) := by decide +kernel
theorem dX2_extend_88 : decode cX2_extend 88 = .ok (.invokevirtual 60, 3) := by decide +kernel
theorem dX2_extend_91 : decode cX2_extend 91 = .ok (.ifCond .eq 18, 3) := by decide +kernel
theorem dX2_extend_94 : decode cX2_extend 94 = .ok (.aload_n 1, 1) := by decide +kernel
theorem dX2_extend_95 : decode cX2_extend 95 = .ok (.getfield 45, 3) := by decide +kernel
theorem dX2_extend_98 : decode cX2_extend 98 = .ok (.iload 6, 2) := by decide +kernel
theorem dX2_extend_100 : decode cX2_extend 100 = .ok (.iaload, 1) := by decide +kernel
theorem dX2_extend_101 : decode cX2_extend 101 = .ok (.iconst 1, 1) := by decide +kernel
theorem dX2_extend_102 : decode cX2_extend 102 = .ok (.if_icmp .eq 7, 3) := by decide +kernel
theorem dX2_extend_105 : decode cX2_extend 105 = .ok (.iconst 1, 1) := by decide +kernel
theorem dX2_extend_106 : decode cX2_extend 106 = .ok (.goto 4, 3) := by decide +kernel
theorem dX2_extend_109 : decode cX2_extend 109 = .ok (.iconst 0, 1) := by decide +kernel
theorem dX2_extend_110 : decode cX2_extend 110 = .ok (.istore 7, 2) := by decide +kernel
theorem dX2_extend_112 : decode cX2_extend 112 = .ok (.aload_n 0, 1) := by decide +kernel
theorem dX2_extend_113 : decode cX2_extend 113 = .ok (.aload_n 1, 1) := by decide +kernel
theorem dX2_extend_114 : decode cX2_extend 114 = .ok (.iload_n 2, 1) := by decide +kernel
theorem dX2_extend_115 : decode cX2_extend 115 = .ok (.iconst 1, 1) := by decide +kernel
theorem dX2_extend_116 : decode cX2_extend 116 = .ok (.iadd, 1) := by decide +kernel
theorem dX2_extend_117 : decode cX2_extend 117 = .ok (.iload 7, 2) := by decide +kernel
theorem dX2_extend_119 : decode cX2_extend 119 = .ok (.ifCond .eq 9, 3) := by decide +kernel
theorem dX2_extend_122 : decode cX2_extend 122 = .ok (.iload_n 3, 1) := by decide +kernel
theorem dX2_extend_123 : decode cX2_extend 123 = .ok (.iconst 1, 1) := by decide +kernel
theorem dX2_extend_124 : decode cX2_extend 124 = .ok (.iadd, 1) := by decide +kernel
theorem dX2_extend_125 : decode cX2_extend 125 = .ok (.goto 4, 3) := by decide +kernel
theorem dX2_extend_128 : decode cX2_extend 128 = .ok (.iload_n 3, 1) := by decide +kernel
theorem dX2_extend_129 : decode cX2_extend 129 = .ok (.invokestatic 52, 3) := by decide +kernel
theorem dX2_extend_132 : decode cX2_extend 132 = .ok (.iinc 6 1, 3) := by decide +kernel
theorem dX2_extend_135 : decode cX2_extend 135 = .ok (.goto (-94), 3) := by decide +kernel
theorem dX2_extend_138 : decode cX2_extend 138 = .ok (.return_, 1) := by decide +kernel
theorem dX2_keepIfFewer_0 : decode cX2_keepIfFewer 0 = .ok (.iload_n 1, 1) := by decide +kernel
theorem dX2_keepIfFewer_1 : decode cX2_keepIfFewer 1 = .ok (.aload_n 0, 1) := by decide +kernel
theorem dX2_keepIfFewer_2 : decode cX2_keepIfFewer 2 = .ok (.getfield 37, 3) := by decide +kernel
theorem dX2_keepIfFewer_5 : decode cX2_keepIfFewer 5 = .ok (.if_icmp .ge 23, 3) := by decide +kernel
theorem dX2_keepIfFewer_8 : decode cX2_keepIfFewer 8 = .ok (.aload_n 0, 1) := by decide +kernel
theorem dX2_keepIfFewer_9 : decode cX2_keepIfFewer 9 = .ok (.iload_n 1, 1) := by decide +kernel
theorem dX2_keepIfFewer_10 : decode cX2_keepIfFewer 10 = .ok (.putfield 37, 3) := by decide +kernel
theorem dX2_keepIfFewer_13 : decode cX2_keepIfFewer 13 = .ok (.aload_n 0, 1) := by decide +kernel
theorem dX2_keepIfFewer_14 : decode cX2_keepIfFewer 14 = .ok (.getfield 17, 3) := by decide +kernel
theorem dX2_keepIfFewer_17 : decode cX2_keepIfFewer 17 = .ok (.iconst 0, 1) := by decide +kernel
theorem dX2_keepIfFewer_18 : decode cX2_keepIfFewer 18 = .ok (.aload_n 0, 1) := by decide +kernel
theorem dX2_keepIfFewer_19 : decode cX2_keepIfFewer 19 = .ok (.getfield 21, 3) := by decide +kernel
theorem dX2_keepIfFewer_22 : decode cX2_keepIfFewer 22 = .ok (.iconst 0, 1) := by decide +kernel
theorem dX2_keepIfFewer_23 : decode cX2_keepIfFewer 23 = .ok (.bipush 7, 2) := by decide +kernel
theorem dX2_keepIfFewer_25 : decode cX2_keepIfFewer 25 = .ok (.invokestatic 64, 3) := by decide +kernel
theorem dX2_keepIfFewer_28 : decode cX2_keepIfFewer 28 = .ok (.return_, 1) := by decide +kernel
theorem dX3_init_0 : decode cX3_init 0 = .ok (.aload_n 0, 1) := by decide +kernel
theorem dX3_init_1 : decode cX3_init 1 = .ok (.invokespecial 3, 3) := by decide +kernel
theorem dX3_init_4 : decode cX3_init 4 = .ok (.aload_n 0, 1) := by decide +kernel
theorem dX3_init_5 : decode cX3_init 5 = .ok (.bipush 6, 2) := by decide +kernel
theorem dX3_init_7 : decode cX3_init 7 = .ok (.newarray .int, 2) := by decide +kernel
theorem dX3_init_9 : decode cX3_init 9 = .ok (.putfield 9, 3) := by decide +kernel
theorem dX3_init_12 : decode cX3_init 12 = .ok (.aload_n 0, 1) := by decide +kernel
theorem dX3_init_13 : decode cX3_init 13 = .ok (.bipush 6, 2) := by decide +kernel
theorem dX3_init_15 : decode cX3_init 15 = .ok (.newarray .int, 2) := by decide +kernel
theorem dX3_init_17 : decode cX3_init 17 = .ok (.putfield 15, 3) := by decide +kernel
theorem dX3_init_20 : decode cX3_init 20 = .ok (.aload_n 0, 1) := by decide +kernel
theorem dX3_init_21 : decode cX3_init 21 = .ok (.bipush 6, 2) := by decide +kernel
theorem dX3_init_23 : decode cX3_init 23 = .ok (.newarray .int, 2) := by decide +kernel
theorem dX3_init_25 : decode cX3_init 25 = .ok (.putfield 18, 3) := by decide +kernel
theorem dX3_init_28 : decode cX3_init 28 = .ok (.return_, 1) := by decide +kernel
theorem dX3_add_0 : decode cX3_add 0 = .ok (.aload_n 0, 1) := by decide +kernel
theorem dX3_add_1 : decode cX3_add 1 = .ok (.getfield 21, 3) := by decide +kernel
theorem dX3_add_4 : decode cX3_add 4 = .ok (.bipush 6, 2) := by decide +kernel
theorem dX3_add_6 : decode cX3_add 6 = .ok (.if_icmp .lt 5, 3) := by decide +kernel
theorem dX3_add_9 : decode cX3_add 9 = .ok (.iconst 0, 1) := by decide +kernel
theorem dX3_add_10 : decode cX3_add 10 = .ok (.ireturn, 1) := by decide +kernel
theorem dX3_add_11 : decode cX3_add 11 = .ok (.aload_n 0, 1) := by decide +kernel
theorem dX3_add_12 : decode cX3_add 12 = .ok (.getfield 9, 3) := by decide +kernel
theorem dX3_add_15 : decode cX3_add 15 = .ok (.aload_n 0, 1) := by decide +kernel
theorem dX3_add_16 : decode cX3_add 16 = .ok (.getfield 21, 3) := by decide +kernel
theorem dX3_add_19 : decode cX3_add 19 = .ok (.iload_n 1, 1) := by decide +kernel
theorem dX3_add_20 : decode cX3_add 20 = .ok (.iastore, 1) := by decide +kernel
theorem dX3_add_21 : decode cX3_add 21 = .ok (.aload_n 0, 1) := by decide +kernel
theorem dX3_add_22 : decode cX3_add 22 = .ok (.getfield 15, 3) := by decide +kernel
theorem dX3_add_25 : decode cX3_add 25 = .ok (.aload_n 0, 1) := by decide +kernel
theorem dX3_add_26 : decode cX3_add 26 = .ok (.getfield 21, 3) := by decide +kernel
theorem dX3_add_29 : decode cX3_add 29 = .ok (.iload_n 2, 1) := by decide +kernel
theorem dX3_add_30 : decode cX3_add 30 = .ok (.iastore, 1) := by decide +kernel
theorem dX3_add_31 : decode cX3_add 31 = .ok (.aload_n 0, 1) := by decide +kernel
theorem dX3_add_32 : decode cX3_add 32 = .ok (.getfield 18, 3) := by decide +kernel
theorem dX3_add_35 : decode cX3_add 35 = .ok (.aload_n 0, 1) := by decide +kernel
theorem dX3_add_36 : decode cX3_add 36 = .ok (.getfield 21, 3) := by decide +kernel
theorem dX3_add_39 : decode cX3_add 39 = .ok (.iload_n 3, 1) := by decide +kernel
theorem dX3_add_40 : decode cX3_add 40 = .ok (.iastore, 1) := by decide +kernel
theorem dX3_add_41 : decode cX3_add 41 = .ok (.aload_n 0, 1) := by decide +kernel
theorem dX3_add_42 : decode cX3_add 42 = .ok (.dup, 1) := by decide +kernel
theorem dX3_add_43 : decode cX3_add 43 = .ok (.getfield 21, 3) := by decide +kernel
theorem dX3_add_46 : decode cX3_add 46 = .ok (.iconst 1, 1) := by decide +kernel
theorem dX3_add_47 : decode cX3_add 47 = .ok (.iadd, 1) := by decide +kernel
theorem dX3_add_48 : decode cX3_add 48 = .ok (.putfield 21, 3) := by decide +kernel
theorem dX3_add_51 : decode cX3_add 51 = .ok (.iconst 1, 1) := by decide +kernel
theorem dX3_add_52 : decode cX3_add 52 = .ok (.ireturn, 1) := by decide +kernel
theorem dX4_init_0 : decode cX4_init 0 = .ok (.aload_n 0, 1) := by decide +kernel
theorem dX4_init_1 : decode cX4_init 1 = .ok (.invokespecial 1, 3) := by decide +kernel
theorem dX4_init_4 : decode cX4_init 4 = .ok (.aload_n 0, 1) := by decide +kernel
theorem dX4_init_5 : decode cX4_init 5 = .ok (.iconst 1, 1) := by decide +kernel
theorem dX4_init_6 : decode cX4_init 6 = .ok (.iload_n 1, 1) := by decide +kernel
theorem dX4_init_7 : decode cX4_init 7 = .ok (.invokestatic 7, 3) := by decide +kernel
theorem dX4_init_10 : decode cX4_init 10 = .ok (.anewarray 13, 3) := by decide +kernel
theorem dX4_init_13 : decode cX4_init 13 = .ok (.putfield 15, 3) := by decide +kernel
theorem dX4_init_16 : decode cX4_init 16 = .ok (.iconst 0, 1) := by decide +kernel
theorem dX4_init_17 : decode cX4_init 17 = .ok (.istore_n 2, 1) := by decide +kernel
theorem dX4_init_18 : decode cX4_init 18 = .ok (.iload_n 2, 1) := by decide +kernel
theorem dX4_init_19 : decode cX4_init 19 = .ok (.aload_n 0, 1) := by decide +kernel
theorem dX4_init_20 : decode cX4_init 20 = .ok (.getfield 15, 3) := by decide +kernel
theorem dX4_init_23 : decode cX4_init 23 = .ok (.arraylength, 1) := by decide +kernel
theorem dX4_init_24 : decode cX4_init 24 = .ok (.if_icmp .ge 22, 3) := by decide +kernel
theorem dX4_init_27 : decode cX4_init 27 = .ok (.aload_n 0, 1) := by decide +kernel
theorem dX4_init_28 : decode cX4_init 28 = .ok (.getfield 15, 3) := by decide +kernel
theorem dX4_init_31 : decode cX4_init 31 = .ok (.iload_n 2, 1) := by decide +kernel
theorem dX4_init_32 : decode cX4_init 32 = .ok (.new 13, 3) := by decide +kernel
theorem dX4_init_35 : decode cX4_init 35 = .ok (.dup, 1) := by decide +kernel
theorem dX4_init_36 : decode cX4_init 36 = .ok (.invokespecial 21, 3) := by decide +kernel
theorem dX4_init_39 : decode cX4_init 39 = .ok (.aastore, 1) := by decide +kernel
theorem dX4_init_40 : decode cX4_init 40 = .ok (.iinc 2 1, 3) := by decide +kernel
theorem dX4_init_43 : decode cX4_init 43 = .ok (.goto (-25), 3) := by decide +kernel
theorem dX4_init_46 : decode cX4_init 46 = .ok (.return_, 1) := by decide +kernel
theorem dX4_put_0 : decode cX4_put 0 = .ok (.aload_n 0, 1) := by decide +kernel
theorem dX4_put_1 : decode cX4_put 1 = .ok (.getfield 15, 3) := by decide +kernel
theorem dX4_put_4 : decode cX4_put 4 = .ok (.aload_n 0, 1) := by decide +kernel
theorem dX4_put_5 : decode cX4_put 5 = .ok (.getfield 22, 3) := by decide +kernel
theorem dX4_put_8 : decode cX4_put 8 = .ok (.aaload, 1) := by decide +kernel
theorem dX4_put_9 : decode cX4_put 9 = .ok (.aload_n 1, 1) := by decide +kernel
theorem dX4_put_10 : decode cX4_put 10 = .ok (.invokevirtual 26, 3) := by decide +kernel
theorem dX4_put_13 : decode cX4_put 13 = .ok (.aload_n 0, 1) := by decide +kernel
theorem dX4_put_14 : decode cX4_put 14 = .ok (.aload_n 0, 1) := by decide +kernel
theorem dX4_put_15 : decode cX4_put 15 = .ok (.getfield 22, 3) := by decide +kernel
theorem dX4_put_18 : decode cX4_put 18 = .ok (.iconst 1, 1) := by decide +kernel
theorem dX4_put_19 : decode cX4_put 19 = .ok (.iadd, 1) := by decide +kernel
theorem dX4_put_20 : decode cX4_put 20 = .ok (.aload_n 0, 1) := by decide +kernel
theorem dX4_put_21 : decode cX4_put 21 = .ok (.getfield 15, 3) := by decide +kernel
theorem dX4_put_24 : decode cX4_put 24 = .ok (.arraylength, 1) := by decide +kernel
theorem dX4_put_25 : decode cX4_put 25 = .ok (.if_icmp .ge 12, 3) := by decide +kernel
theorem dX4_put_28 : decode cX4_put 28 = .ok (.aload_n 0, 1) := by decide +kernel
theorem dX4_put_29 : decode cX4_put 29 = .ok (.getfield 22, 3) := by decide +kernel
theorem dX4_put_32 : decode cX4_put 32 = .ok (.iconst 1, 1) := by decide +kernel
theorem dX4_put_33 : decode cX4_put 33 = .ok (.iadd, 1) := by decide +kernel
theorem dX4_put_34 : decode cX4_put 34 = .ok (.goto 4, 3) := by decide +kernel
theorem dX4_put_37 : decode cX4_put 37 = .ok (.iconst 0, 1) := by decide +kernel
theorem dX4_put_38 : decode cX4_put 38 = .ok (.putfield 22, 3) := by decide +kernel
theorem dX4_put_41 : decode cX4_put 41 = .ok (.aload_n 0, 1) := by decide +kernel
theorem dX4_put_42 : decode cX4_put 42 = .ok (.aload_n 0, 1) := by decide +kernel
theorem dX4_put_43 : decode cX4_put 43 = .ok (.getfield 30, 3) := by decide +kernel
theorem dX4_put_46 : decode cX4_put 46 = .ok (.iconst 1, 1) := by decide +kernel
theorem dX4_put_47 : decode cX4_put 47 = .ok (.iadd, 1) := by decide +kernel
theorem dX4_put_48 : decode cX4_put 48 = .ok (.aload_n 0, 1) := by decide +kernel
theorem dX4_put_49 : decode cX4_put 49 = .ok (.getfield 15, 3) := by decide +kernel
theorem dX4_put_52 : decode cX4_put 52 = .ok (.arraylength, 1) := by decide +kernel
theorem dX4_put_53 : decode cX4_put 53 = .ok (.invokestatic 33, 3) := by decide +kernel
theorem dX4_put_56 : decode cX4_put 56 = .ok (.putfield 30, 3) := by decide +kernel
theorem dX4_put_59 : decode cX4_put 59 = .ok (.return_, 1) := by decide +kernel
theorem dX4_giveBack_0 : decode cX4_giveBack 0 = .ok (.aload_n 0, 1) := by decide +kernel
theorem dX4_giveBack_1 : decode cX4_giveBack 1 = .ok (.getfield 30, 3) := by decide +kernel
theorem dX4_giveBack_4 : decode cX4_giveBack 4 = .ok (.ifCond .ne 5, 3) := by decide +kernel
theorem dX4_giveBack_7 : decode cX4_giveBack 7 = .ok (.iconst 0, 1) := by decide +kernel
theorem dX4_giveBack_8 : decode cX4_giveBack 8 = .ok (.ireturn, 1) := by decide +kernel
theorem dX4_giveBack_9 : decode cX4_giveBack 9 = .ok (.aload_n 0, 1) := by decide +kernel
theorem dX4_giveBack_10 : decode cX4_giveBack 10 = .ok (.aload_n 0, 1) := by decide +kernel
theorem dX4_giveBack_11 : decode cX4_giveBack 11 = .ok (.getfield 22, 3) := by decide +kernel
theorem dX4_giveBack_14 : decode cX4_giveBack 14 = .ok (.ifCond .le 12, 3) := by decide +kernel
theorem dX4_giveBack_17 : decode cX4_giveBack 17 = .ok (.aload_n 0, 1) := by decide +kernel
theorem dX4_giveBack_18 : decode cX4_giveBack 18 = .ok (.getfield 22, 3) := by decide +kernel
theorem dX4_giveBack_21 : decode cX4_giveBack 21 = .ok (.iconst 1, 1) := by decide +kernel
theorem dX4_giveBack_22 : decode cX4_giveBack 22 = .ok (.isub, 1) := by decide +kernel
theorem dX4_giveBack_23 : decode cX4_giveBack 23 = .ok (.goto 10, 3) := by decide +kernel
theorem dX4_giveBack_26 : decode cX4_giveBack 26 = .ok (.aload_n 0, 1) := by decide +kernel
theorem dX4_giveBack_27 : decode cX4_giveBack 27 = .ok (.getfield 15, 3) := by decide +kernel
theorem dX4_giveBack_30 : decode cX4_giveBack 30 = .ok (.arraylength, 1) := by decide +kernel
theorem dX4_giveBack_31 : decode cX4_giveBack 31 = .ok (.iconst 1, 1) := by decide +kernel
theorem dX4_giveBack_32 : decode cX4_giveBack 32 = .ok (.isub, 1) := by decide +kernel
theorem dX4_giveBack_33 : decode cX4_giveBack 33 = .ok (.putfield 22, 3) := by decide +kernel
theorem dX4_giveBack_36 : decode cX4_giveBack 36 = .ok (.aload_n 0, 1) := by decide +kernel
theorem dX4_giveBack_37 : decode cX4_giveBack 37 = .ok (.dup, 1) := by decide +kernel
theorem dX4_giveBack_38 : decode cX4_giveBack 38 = .ok (.getfield 30, 3) := by decide +kernel
theorem dX4_giveBack_41 : decode cX4_giveBack 41 = .ok (.iconst 1, 1) := by decide +kernel
theorem dX4_giveBack_42 : decode cX4_giveBack 42 = .ok (.isub, 1) := by decide +kernel
theorem dX4_giveBack_43 : decode cX4_giveBack 43 = .ok (.putfield 30, 3) := by decide +kernel
theorem dX4_giveBack_46 : decode cX4_giveBack 46 = .ok (.aload_n 1, 1) := by decide +kernel
theorem dX4_giveBack_47 : decode cX4_giveBack 47 = .ok (.aload_n 0, 1) := by decide +kernel
theorem dX4_giveBack_48 : decode cX4_giveBack 48 = .ok (.getfield 15, 3) := by decide +kernel
theorem dX4_giveBack_51 : decode cX4_giveBack 51 = .ok (.aload_n 0, 1) := by decide +kernel
theorem dX4_giveBack_52 : decode cX4_giveBack 52 = .ok (.getfield 22, 3) := by decide +kernel
theorem dX4_giveBack_55 : decode cX4_giveBack 55 = .ok (.aaload, 1) := by decide +kernel
theorem dX4_giveBack_56 : decode cX4_giveBack 56 = .ok (.invokevirtual 26, 3) := by decide +kernel
theorem dX4_giveBack_59 : decode cX4_giveBack 59 = .ok (.iconst 1, 1) := by decide +kernel
theorem dX4_giveBack_60 : decode cX4_giveBack 60 = .ok (.ireturn, 1) := by decide +kernel
theorem dX5_init_0 : decode cX5_init 0 = .ok (.aload_n 0, 1) := by decide +kernel
theorem dX5_init_1 : decode cX5_init 1 = .ok (.invokespecial 3, 3) := by decide +kernel
theorem dX5_init_4 : decode cX5_init 4 = .ok (.aload_n 0, 1) := by decide +kernel
theorem dX5_init_5 : decode cX5_init 5 = .ok (.iconst 3, 1) := by decide +kernel
theorem dX5_init_6 : decode cX5_init 6 = .ok (.newarray .int, 2) := by decide +kernel
theorem dX5_init_8 : decode cX5_init 8 = .ok (.putfield 9, 3) := by decide +kernel
theorem dX5_init_11 : decode cX5_init 11 = .ok (.aload_n 0, 1) := by decide +kernel
theorem dX5_init_12 : decode cX5_init 12 = .ok (.iconst 3, 1) := by decide +kernel
theorem dX5_init_13 : decode cX5_init 13 = .ok (.newarray .int, 2) := by decide +kernel
theorem dX5_init_15 : decode cX5_init 15 = .ok (.putfield 15, 3) := by decide +kernel
theorem dX5_init_18 : decode cX5_init 18 = .ok (.aload_n 0, 1) := by decide +kernel
theorem dX5_init_19 : decode cX5_init 19 = .ok (.iconst 3, 1) := by decide +kernel
theorem dX5_init_20 : decode cX5_init 20 = .ok (.newarray .int, 2) := by decide +kernel
theorem dX5_init_22 : decode cX5_init 22 = .ok (.putfield 18, 3) := by decide +kernel
theorem dX5_init_25 : decode cX5_init 25 = .ok (.aload_n 0, 1) := by decide +kernel
theorem dX5_init_26 : decode cX5_init 26 = .ok (.bipush 7, 2) := by decide +kernel
theorem dX5_init_28 : decode cX5_init 28 = .ok (.newarray .int, 2) := by decide +kernel
theorem dX5_init_30 : decode cX5_init 30 = .ok (.putfield 21, 3) := by decide +kernel
theorem dX5_init_33 : decode cX5_init 33 = .ok (.aload_n 0, 1) := by decide +kernel
theorem dX5_init_34 : decode cX5_init 34 = .ok (.bipush 7, 2) := by decide +kernel
theorem dX5_init_36 : decode cX5_init 36 = .ok (.newarray .int, 2) := by decide +kernel
theorem dX5_init_38 : decode cX5_init 38 = .ok (.putfield 24, 3) := by decide +kernel
theorem dX5_init_41 : decode cX5_init 41 = .ok (.return_, 1) := by decide +kernel
theorem dX5_begin_0 : decode cX5_begin 0 = .ok (.aload_n 1, 1) := by decide +kernel
theorem dX5_begin_1 : decode cX5_begin 1 = .ok (.getfield 27, 3) := by decide +kernel
theorem dX5_begin_4 : decode cX5_begin 4 = .ok (.iconst 0, 1) := by decide +kernel
theorem dX5_begin_5 : decode cX5_begin 5 = .ok (.aload_n 0, 1) := by decide +kernel
theorem dX5_begin_6 : decode cX5_begin 6 = .ok (.getfield 9, 3) := by decide +kernel
theorem dX5_begin_9 : decode cX5_begin 9 = .ok (.iconst 0, 1) := by decide +kernel
theorem dX5_begin_10 : decode cX5_begin 10 = .ok (.iconst 3, 1) := by decide +kernel
theorem dX5_begin_11 : decode cX5_begin 11 = .ok (.invokestatic 32, 3) := by decide +kernel
theorem dX5_begin_14 : decode cX5_begin 14 = .ok (.aload_n 1, 1) := by decide +kernel
theorem dX5_begin_15 : decode cX5_begin 15 = .ok (.getfield 38, 3) := by decide +kernel
theorem dX5_begin_18 : decode cX5_begin 18 = .ok (.iconst 0, 1) := by decide +kernel
theorem dX5_begin_19 : decode cX5_begin 19 = .ok (.aload_n 0, 1) := by decide +kernel
theorem dX5_begin_20 : decode cX5_begin 20 = .ok (.getfield 18, 3) := by decide +kernel
theorem dX5_begin_23 : decode cX5_begin 23 = .ok (.iconst 0, 1) := by decide +kernel
theorem dX5_begin_24 : decode cX5_begin 24 = .ok (.iconst 3, 1) := by decide +kernel
theorem dX5_begin_25 : decode cX5_begin 25 = .ok (.invokestatic 32, 3) := by decide +kernel
theorem dX5_begin_28 : decode cX5_begin 28 = .ok (.aload_n 0, 1) := by decide +kernel
theorem dX5_begin_29 : decode cX5_begin 29 = .ok (.invokevirtual 41, 3) := by decide +kernel
theorem dX5_begin_32 : decode cX5_begin 32 = .ok (.return_, 1) := by decide +kernel
theorem dX5_dawn_0 : decode cX5_dawn 0 = .ok (.aload_n 0, 1) := by decide +kernel
theorem dX5_dawn_1 : decode cX5_dawn 1 = .ok (.iconst 0, 1) := by decide +kernel
theorem dX5_dawn_2 : decode cX5_dawn 2 = .ok (.putfield 44, 3) := by decide +kernel
theorem dX5_dawn_5 : decode cX5_dawn 5 = .ok (.iconst 0, 1) := by decide +kernel
theorem dX5_dawn_6 : decode cX5_dawn 6 = .ok (.istore_n 1, 1) := by decide +kernel
theorem dX5_dawn_7 : decode cX5_dawn 7 = .ok (.iload_n 1, 1) := by decide +kernel
theorem dX5_dawn_8 : decode cX5_dawn 8 = .ok (.iconst 3, 1) := by decide +kernel
theorem dX5_dawn_9 : decode cX5_dawn 9 = .ok (.if_icmp .ge 16, 3) := by decide +kernel
theorem dX5_dawn_12 : decode cX5_dawn 12 = .ok (.aload_n 0, 1) := by decide +kernel
theorem dX5_dawn_13 : decode cX5_dawn 13 = .ok (.getfield 15, 3) := by decide +kernel
theorem dX5_dawn_16 : decode cX5_dawn 16 = .ok (.iload_n 1, 1) := by decide +kernel
theorem dX5_dawn_17 : decode cX5_dawn 17 = .ok (.iconst 0, 1) := by decide +kernel
theorem dX5_dawn_18 : decode cX5_dawn 18 = .ok (.iastore, 1) := by decide +kernel
theorem dX5_dawn_19 : decode cX5_dawn 19 = .ok (.iinc 1 1, 3) := by decide +kernel
theorem dX5_dawn_22 : decode cX5_dawn 22 = .ok (.goto (-15), 3) := by decide +kernel
theorem dX5_dawn_25 : decode cX5_dawn 25 = .ok (.iconst 0, 1) := by decide +kernel
theorem dX5_dawn_26 : decode cX5_dawn 26 = .ok (.istore_n 1, 1) := by decide +kernel
theorem dX5_dawn_27 : decode cX5_dawn 27 = .ok (.iload_n 1, 1) := by decide +kernel
theorem dX5_dawn_28 : decode cX5_dawn 28 = .ok (.bipush 7, 2) := by decide +kernel
theorem dX5_dawn_30 : decode cX5_dawn 30 = .ok (.if_icmp .ge 24, 3) := by decide +kernel
theorem dX5_dawn_33 : decode cX5_dawn 33 = .ok (.aload_n 0, 1) := by decide +kernel
theorem dX5_dawn_34 : decode cX5_dawn 34 = .ok (.getfield 21, 3) := by decide +kernel
theorem dX5_dawn_37 : decode cX5_dawn 37 = .ok (.iload_n 1, 1) := by decide +kernel
theorem dX5_dawn_38 : decode cX5_dawn 38 = .ok (.bipush (-4), 2) := by decide +kernel
theorem dX5_dawn_40 : decode cX5_dawn 40 = .ok (.iastore, 1) := by decide +kernel
theorem dX5_dawn_41 : decode cX5_dawn 41 = .ok (.aload_n 0, 1) := by decide +kernel
theorem dX5_dawn_42 : decode cX5_dawn 42 = .ok (.getfield 24, 3) := by decide +kernel
theorem dX5_dawn_45 : decode cX5_dawn 45 = .ok (.iload_n 1, 1) := by decide +kernel
theorem dX5_dawn_46 : decode cX5_dawn 46 = .ok (.iconst 0, 1) := by decide +kernel
theorem dX5_dawn_47 : decode cX5_dawn 47 = .ok (.iastore, 1) := by decide +kernel
theorem dX5_dawn_48 : decode cX5_dawn 48 = .ok (.iinc 1 1, 3) := by decide +kernel
theorem dX5_dawn_51 : decode cX5_dawn 51 = .ok (.goto (-24), 3) := by decide +kernel
theorem dX5_dawn_54 : decode cX5_dawn 54 = .ok (.return_, 1) := by decide +kernel
theorem dX5_isTaken_0 : decode cX5_isTaken 0 = .ok (.aload_n 0, 1) := by decide +kernel
theorem dX5_isTaken_1 : decode cX5_isTaken 1 = .ok (.getfield 21, 3) := by decide +kernel
theorem dX5_isTaken_4 : decode cX5_isTaken 4 = .ok (.iload_n 1, 1) := by decide +kernel
theorem dX5_isTaken_5 : decode cX5_isTaken 5 = .ok (.iaload, 1) := by decide +kernel
theorem dX5_isTaken_6 : decode cX5_isTaken 6 = .ok (.bipush (-4), 2) := by decide +kernel
theorem dX5_isTaken_8 : decode cX5_isTaken 8 = .ok (.if_icmp .eq 7, 3) := by decide +kernel
theorem dX5_isTaken_11 : decode cX5_isTaken 11 = .ok (.iconst 1, 1) := by decide +kernel
theorem dX5_isTaken_12 : decode cX5_isTaken 12 = .ok (.goto 4, 3) := by decide +kernel
theorem dX5_isTaken_15 : decode cX5_isTaken 15 = .ok (.iconst 0, 1) := by decide +kernel
theorem dX5_isTaken_16 : decode cX5_isTaken 16 = .ok (.ireturn, 1) := by decide +kernel
theorem dX5_copy_0 : decode cX5_copy 0 = .ok (.aload_n 0, 1) := by decide +kernel
theorem dX5_copy_1 : decode cX5_copy 1 = .ok (.aload_n 1, 1) := by decide +kernel
theorem dX5_copy_2 : decode cX5_copy 2 = .ok (.getfield 44, 3) := by decide +kernel
theorem dX5_copy_5 : decode cX5_copy 5 = .ok (.putfield 44, 3) := by decide +kernel
theorem dX5_copy_8 : decode cX5_copy 8 = .ok (.aload_n 1, 1) := by decide +kernel
theorem dX5_copy_9 : decode cX5_copy 9 = .ok (.getfield 9, 3) := by decide +kernel
theorem dX5_copy_12 : decode cX5_copy 12 = .ok (.iconst 0, 1) := by decide +kernel
theorem dX5_copy_13 : decode cX5_copy 13 = .ok (.aload_n 0, 1) := by decide +kernel
theorem dX5_copy_14 : decode cX5_copy 14 = .ok (.getfield 9, 3) := by decide +kernel
theorem dX5_copy_17 : decode cX5_copy 17 = .ok (.iconst 0, 1) := by decide +kernel
theorem dX5_copy_18 : decode cX5_copy 18 = .ok (.iconst 3, 1) := by decide +kernel
theorem dX5_copy_19 : decode cX5_copy 19 = .ok (.invokestatic 32, 3) := by decide +kernel
theorem dX5_copy_22 : decode cX5_copy 22 = .ok (.aload_n 1, 1) := by decide +kernel
theorem dX5_copy_23 : decode cX5_copy 23 = .ok (.getfield 15, 3) := by decide +kernel
theorem dX5_copy_26 : decode cX5_copy 26 = .ok (.iconst 0, 1) := by decide +kernel
theorem dX5_copy_27 : decode cX5_copy 27 = .ok (.aload_n 0, 1) := by decide +kernel
theorem dX5_copy_28 : decode cX5_copy 28 = .ok (.getfield 15, 3) := by decide +kernel
theorem dX5_copy_31 : decode cX5_copy 31 = .ok (.iconst 0, 1) := by decide +kernel
theorem dX5_copy_32 : decode cX5_copy 32 = .ok (.iconst 3, 1) := by decide +kernel
theorem dX5_copy_33 : decode cX5_copy 33 = .ok (.invokestatic 32, 3) := by decide +kernel
theorem dX5_copy_36 : decode cX5_copy 36 = .ok (.aload_n 1, 1) := by decide +kernel
theorem dX5_copy_37 : decode cX5_copy 37 = .ok (.getfield 18, 3) := by decide +kernel
theorem dX5_copy_40 : decode cX5_copy 40 = .ok (.iconst 0, 1) := by decide +kernel
theorem dX5_copy_41 : decode cX5_copy 41 = .ok (.aload_n 0, 1) := by decide +kernel
theorem dX5_copy_42 : decode cX5_copy 42 = .ok (.getfield 18, 3) := by decide +kernel
theorem dX5_copy_45 : decode cX5_copy 45 = .ok (.iconst 0, 1) := by decide +kernel
theorem dX5_copy_46 : decode cX5_copy 46 = .ok (.iconst 3, 1) := by decide +kernel
theorem dX5_copy_47 : decode cX5_copy 47 = .ok (.invokestatic 32, 3) := by decide +kernel
theorem dX5_copy_50 : decode cX5_copy 50 = .ok (.aload_n 1, 1) := by decide +kernel
theorem dX5_copy_51 : decode cX5_copy 51 = .ok (.getfield 21, 3) := by decide +kernel
theorem dX5_copy_54 : decode cX5_copy 54 = .ok (.iconst 0, 1) := by decide +kernel
theorem dX5_copy_55 : decode cX5_copy 55 = .ok (.aload_n 0, 1) := by decide +kernel
theorem dX5_copy_56 : decode cX5_copy 56 = .ok (.getfield 21, 3) := by decide +kernel
theorem dX5_copy_59 : decode cX5_copy 59 = .ok (.iconst 0, 1) := by decide +kernel
theorem dX5_copy_60 : decode cX5_copy 60 = .ok (.bipush 7, 2) := by decide +kernel
theorem dX5_copy_62 : decode cX5_copy 62 = .ok (.invokestatic 32, 3) := by decide +kernel
theorem dX5_copy_65 : decode cX5_copy 65 = .ok (.aload_n 1, 1) := by decide +kernel
theorem dX5_copy_66 : decode cX5_copy 66 = .ok (.getfield 24, 3) := by decide +kernel
theorem dX5_copy_69 : decode cX5_copy 69 = .ok (.iconst 0, 1) := by decide +kernel
theorem dX5_copy_70 : decode cX5_copy 70 = .ok (.aload_n 0, 1) := by decide +kernel
theorem dX5_copy_71 : decode cX5_copy 71 = .ok (.getfield 24, 3) := by decide +kernel
theorem dX5_copy_74 : decode cX5_copy 74 = .ok (.iconst 0, 1) := by decide +kernel
theorem dX5_copy_75 : decode cX5_copy 75 = .ok (.bipush 7, 2) := by decide +kernel
theorem dX5_copy_77 : decode cX5_copy 77 = .ok (.invokestatic 32, 3) := by decide +kernel
theorem dX5_copy_80 : decode cX5_copy 80 = .ok (.return_, 1) := by decide +kernel
theorem dX5_cabsAsNumber_0 : decode cX5_cabsAsNumber 0 = .ok (.lconst 0, 1) := by decide +kernel
theorem dX5_cabsAsNumber_1 : decode cX5_cabsAsNumber 1 = .ok (.lstore_n 1, 1) := by decide +kernel
theorem dX5_cabsAsNumber_2 : decode cX5_cabsAsNumber 2 = .ok (.iconst 0, 1) := by decide +kernel
theorem dX5_cabsAsNumber_3 : decode cX5_cabsAsNumber 3 = .ok (.istore_n 3, 1) := by decide +kernel
theorem dX5_cabsAsNumber_4 : decode cX5_cabsAsNumber 4 = .ok (.iload_n 3, 1) := by decide +kernel
theorem dX5_cabsAsNumber_5 : decode cX5_cabsAsNumber 5 = .ok (.iconst 3, 1) := by decide +kernel
theorem dX5_cabsAsNumber_6 : decode cX5_cabsAsNumber 6 = .ok (.if_icmp .ge 39, 3) := by decide +kernel
theorem dX5_cabsAsNumber_9 : decode cX5_cabsAsNumber 9 = .ok (.lload_n 1, 1) := by decide +kernel
theorem dX5_cabsAsNumber_10 : decode cX5_cabsAsNumber 10 = .ok (.ldc2_w 48, 3) := by decide +kernel
theorem dX5_cabsAsNumber_13 : decode cX5_cabsAsNumber 13 = .ok (.lmul, 1) := by decide +kernel
theorem dX5_cabsAsNumber_14 : decode cX5_cabsAsNumber 14 = .ok (.aload_n 0, 1) := by decide +kernel
theorem dX5_cabsAsNumber_15 : decode cX5_cabsAsNumber 15 = .ok (.getfield 9, 3) := by decide +kernel
theorem dX5_cabsAsNumber_18 : decode cX5_cabsAsNumber 18 = .ok (.iload_n 3, 1) := by decide +kernel
theorem dX5_cabsAsNumber_19 : decode cX5_cabsAsNumber 19 = .ok (.iaload, 1) := by decide +kernel
theorem dX5_cabsAsNumber_20 : decode cX5_cabsAsNumber 20 = .ok (.i2l, 1) := by decide +kernel
theorem dX5_cabsAsNumber_21 : decode cX5_cabsAsNumber 21 = .ok (.ladd, 1) := by decide +kernel
theorem dX5_cabsAsNumber_22 : decode cX5_cabsAsNumber 22 = .ok (.ldc2_w 48, 3) := by decide +kernel
theorem dX5_cabsAsNumber_25 : decode cX5_cabsAsNumber 25 = .ok (.lmul, 1) := by decide +kernel
theorem dX5_cabsAsNumber_26 : decode cX5_cabsAsNumber 26 = .ok (.aload_n 0, 1) := by decide +kernel
theorem dX5_cabsAsNumber_27 : decode cX5_cabsAsNumber 27 = .ok (.getfield 18, 3) := by decide +kernel
theorem dX5_cabsAsNumber_30 : decode cX5_cabsAsNumber 30 = .ok (.iload_n 3, 1) := by decide +kernel
theorem dX5_cabsAsNumber_31 : decode cX5_cabsAsNumber 31 = .ok (.iaload, 1) := by decide +kernel
theorem dX5_cabsAsNumber_32 : decode cX5_cabsAsNumber 32 = .ok (.i2l, 1) := by decide +kernel
theorem dX5_cabsAsNumber_33 : decode cX5_cabsAsNumber 33 = .ok (.ladd, 1) := by decide +kernel
theorem dX5_cabsAsNumber_34 : decode cX5_cabsAsNumber 34 = .ok (.ldc2_w 50, 3) := by decide +kernel
theorem dX5_cabsAsNumber_37 : decode cX5_cabsAsNumber 37 = .ok (.lsub, 1) := by decide +kernel
theorem dX5_cabsAsNumber_38 : decode cX5_cabsAsNumber 38 = .ok (.lstore_n 1, 1) := by decide +kernel
theorem dX5_cabsAsNumber_39 : decode cX5_cabsAsNumber 39 = .ok (.iinc 3 1, 3) := by decide +kernel
theorem dX5_cabsAsNumber_42 : decode cX5_cabsAsNumber 42 = .ok (.goto (-38), 3) := by decide +kernel
theorem dX5_cabsAsNumber_45 : decode cX5_cabsAsNumber 45 = .ok (.lload_n 1, 1) := by decide +kernel
theorem dX5_cabsAsNumber_46 : decode cX5_cabsAsNumber 46 = .ok (.lreturn, 1) := by decide +kernel
theorem dX6_init_0 : decode cX6_init 0 = .ok (.aload_n 0, 1) := by decide +kernel
theorem dX6_init_1 : decode cX6_init 1 = .ok (.invokespecial 3, 3) := by decide +kernel
theorem dX6_init_4 : decode cX6_init 4 = .ok (.aload_n 0, 1) := by decide +kernel
theorem dX6_init_5 : decode cX6_init 5 = .ok (.sipush 200, 3) := by decide +kernel
theorem dX6_init_8 : decode cX6_init 8 = .ok (.newarray .char, 2) := by decide +kernel
theorem dX6_init_10 : decode cX6_init 10 = .ok (.putfield 9, 3) := by decide +kernel
theorem dX6_init_13 : decode cX6_init 13 = .ok (.aload_n 0, 1) := by decide +kernel
theorem dX6_init_14 : decode cX6_init 14 = .ok (.iconst 5, 1) := by decide +kernel
theorem dX6_init_15 : decode cX6_init 15 = .ok (.newarray .int, 2) := by decide +kernel
theorem dX6_init_17 : decode cX6_init 17 = .ok (.putfield 15, 3) := by decide +kernel
theorem dX6_init_20 : decode cX6_init 20 = .ok (.return_, 1) := by decide +kernel
theorem dX6_add_0 : decode cX6_add 0 = .ok (.aload_n 0, 1) := by decide +kernel
theorem dX6_add_1 : decode cX6_add 1 = .ok (.getfield 19, 3) := by decide +kernel
theorem dX6_add_4 : decode cX6_add 4 = .ok (.sipush 200, 3) := by decide +kernel
theorem dX6_add_7 : decode cX6_add 7 = .ok (.if_icmp .lt 5, 3) := by decide +kernel
theorem dX6_add_10 : decode cX6_add 10 = .ok (.iconst 0, 1) := by decide +kernel
theorem dX6_add_11 : decode cX6_add 11 = .ok (.ireturn, 1) := by decide +kernel
theorem dX6_add_12 : decode cX6_add 12 = .ok (.aload_n 0, 1) := by decide +kernel
theorem dX6_add_13 : decode cX6_add 13 = .ok (.getfield 9, 3) := by decide +kernel
theorem dX6_add_16 : decode cX6_add 16 = .ok (.aload_n 0, 1) := by decide +kernel
theorem dX6_add_17 : decode cX6_add 17 = .ok (.getfield 19, 3) := by decide +kernel
theorem dX6_add_20 : decode cX6_add 20 = .ok (.iload_n 1, 1) := by decide +kernel
theorem dX6_add_21 : decode cX6_add 21 = .ok (.castore, 1) := by decide +kernel
theorem dX6_add_22 : decode cX6_add 22 = .ok (.aload_n 0, 1) := by decide +kernel
theorem dX6_add_23 : decode cX6_add 23 = .ok (.dup, 1) := by decide +kernel
theorem dX6_add_24 : decode cX6_add 24 = .ok (.getfield 19, 3) := by decide +kernel
theorem dX6_add_27 : decode cX6_add 27 = .ok (.iconst 1, 1) := by decide +kernel
theorem dX6_add_28 : decode cX6_add 28 = .ok (.iadd, 1) := by decide +kernel
theorem dX6_add_29 : decode cX6_add 29 = .ok (.putfield 19, 3) := by decide +kernel
theorem dX6_add_32 : decode cX6_add 32 = .ok (.iconst 1, 1) := by decide +kernel
theorem dX6_add_33 : decode cX6_add 33 = .ok (.ireturn, 1) := by decide +kernel
theorem dX6_readInto_0 : decode cX6_readInto 0 = .ok (.aload_n 1, 1) := by decide +kernel
theorem dX6_readInto_1 : decode cX6_readInto 1 = .ok (.invokevirtual 23, 3) := by decide +kernel
theorem dX6_readInto_4 : decode cX6_readInto 4 = .ok (.iconst 0, 1) := by decide +kernel
theorem dX6_readInto_5 : decode cX6_readInto 5 = .ok (.istore_n 2, 1) := by decide +kernel
theorem dX6_readInto_6 : decode cX6_readInto 6 = .ok (.iconst 0, 1) := by decide +kernel
theorem dX6_readInto_7 : decode cX6_readInto 7 = .ok (.istore_n 3, 1) := by decide +kernel
theorem dX6_readInto_8 : decode cX6_readInto 8 = .ok (.iload_n 3, 1) := by decide +kernel
theorem dX6_readInto_9 : decode cX6_readInto 9 = .ok (.aload_n 0, 1) := by decide +kernel
theorem dX6_readInto_10 : decode cX6_readInto 10 = .ok (.getfield 19, 3) := by decide +kernel
theorem dX6_readInto_13 : decode cX6_readInto 13 = .ok (.if_icmp .ge 49, 3) := by decide +kernel
theorem dX6_readInto_16 : decode cX6_readInto 16 = .ok (.aload_n 0, 1) := by decide +kernel
theorem dX6_readInto_17 : decode cX6_readInto 17 = .ok (.getfield 9, 3) := by decide +kernel
theorem dX6_readInto_20 : decode cX6_readInto 20 = .ok (.iload_n 3, 1) := by decide +kernel
theorem dX6_readInto_21 : decode cX6_readInto 21 = .ok (.caload, 1) := by decide +kernel
theorem dX6_readInto_22 : decode cX6_readInto 22 = .ok (.bipush 59, 2) := by decide +kernel
theorem dX6_readInto_24 : decode cX6_readInto 24 = .ok (.if_icmp .ne 32, 3) := by decide +kernel
theorem dX6_readInto_27 : decode cX6_readInto 27 = .ok (.aload_n 0, 1) := by decide +kernel
theorem dX6_readInto_28 : decode cX6_readInto 28 = .ok (.iload_n 2, 1) := by decide +kernel
theorem dX6_readInto_29 : decode cX6_readInto 29 = .ok (.iload_n 3, 1) := by decide +kernel
theorem dX6_readInto_30 : decode cX6_readInto 30 = .ok (.invokevirtual 28, 3) := by decide +kernel
theorem dX6_readInto_33 : decode cX6_readInto 33 = .ok (.ifCond .eq 17, 3) := by decide +kernel
theorem dX6_readInto_36 : decode cX6_readInto 36 = .ok (.aload_n 0, 1) := by decide +kernel
theorem dX6_readInto_37 : decode cX6_readInto 37 = .ok (.aload_n 1, 1) := by decide +kernel
theorem dX6_readInto_38 : decode cX6_readInto 38 = .ok (.aload_n 0, 1) := by decide +kernel
theorem dX6_readInto_39 : decode cX6_readInto 39 = .ok (.getfield 9, 3) := by decide +kernel
theorem dX6_readInto_42 : decode cX6_readInto 42 = .ok (.iload_n 2, 1) := by decide +kernel
theorem dX6_readInto_43 : decode cX6_readInto 43 = .ok (.caload, 1) := by decide +kernel
theorem dX6_readInto_44 : decode cX6_readInto 44 = .ok (.invokevirtual 32, 3) := by decide +kernel
theorem dX6_readInto_47 : decode cX6_readInto 47 = .ok (.ifCond .ne 5, 3) := by decide +kernel
theorem dX6_readInto_50 : decode cX6_readInto 50 = .ok (.iload_n 2, 1) := by decide +kernel
theorem dX6_readInto_51 : decode cX6_readInto 51 = .ok (.ireturn, 1) := by decide +kernel
theorem dX6_readInto_52 : decode cX6_readInto 52 = .ok (.iload_n 3, 1) := by decide +kernel
theorem dX6_readInto_53 : decode cX6_readInto 53 = .ok (.iconst 1, 1) := by decide +kernel
theorem dX6_readInto_54 : decode cX6_readInto 54 = .ok (.iadd, 1) := by decide +kernel
theorem dX6_readInto_55 : decode cX6_readInto 55 = .ok (.istore_n 2, 1) := by decide +kernel
theorem dX6_readInto_56 : decode cX6_readInto 56 = .ok (.iinc 3 1, 3) := by decide +kernel
theorem dX6_readInto_59 : decode cX6_readInto 59 = .ok (.goto (-51), 3) := by decide +kernel
theorem dX6_readInto_62 : decode cX6_readInto 62 = .ok (.iload_n 2, 1) := by decide +kernel
theorem dX6_readInto_63 : decode cX6_readInto 63 = .ok (.aload_n 0, 1) := by decide +kernel
theorem dX6_readInto_64 : decode cX6_readInto 64 = .ok (.getfield 19, 3) := by decide +kernel
theorem dX6_readInto_67 : decode cX6_readInto 67 = .ok (.if_icmp .ge 7, 3) := by decide +kernel
theorem dX6_readInto_70 : decode cX6_readInto 70 = .ok (.iload_n 2, 1) := by decide +kernel
theorem dX6_readInto_71 : decode cX6_readInto 71 = .ok (.goto 5, 3) := by decide +kernel
theorem dX6_readInto_74 : decode cX6_readInto 74 = .ok (.bipush (-4), 2) := by decide +kernel
theorem dX6_readInto_76 : decode cX6_readInto 76 = .ok (.ireturn, 1) := by decide +kernel
theorem dX6_readNumbers_0 : decode cX6_readNumbers 0 = .ok (.aload_n 0, 1) := by decide +kernel
theorem dX6_readNumbers_1 : decode cX6_readNumbers 1 = .ok (.iconst 0, 1) := by decide +kernel
theorem dX6_readNumbers_2 : decode cX6_readNumbers 2 = .ok (.putfield 36, 3) := by decide +kernel
theorem dX6_readNumbers_5 : decode cX6_readNumbers 5 = .ok (.iconst 0, 1) := by decide +kernel
theorem dX6_readNumbers_6 : decode cX6_readNumbers 6 = .ok (.istore_n 3, 1) := by decide +kernel
theorem dX6_readNumbers_7 : decode cX6_readNumbers 7 = .ok (.iconst 0, 1) := by decide +kernel
theorem dX6_readNumbers_8 : decode cX6_readNumbers 8 = .ok (.istore 4, 2) := by decide +kernel
theorem dX6_readNumbers_10 : decode cX6_readNumbers 10 = .ok (.iload_n 1, 1) := by decide +kernel
theorem dX6_readNumbers_11 : decode cX6_readNumbers 11 = .ok (.iconst 1, 1) := by decide +kernel
theorem dX6_readNumbers_12 : decode cX6_readNumbers 12 = .ok (.iadd, 1) := by decide +kernel
theorem dX6_readNumbers_13 : decode cX6_readNumbers 13 = .ok (.istore 5, 2) := by decide +kernel
theorem dX6_readNumbers_15 : decode cX6_readNumbers 15 = .ok (.iload 5, 2) := by decide +kernel
theorem dX6_readNumbers_17 : decode cX6_readNumbers 17 = .ok (.iload_n 2, 1) := by decide +kernel
theorem dX6_readNumbers_18 : decode cX6_readNumbers 18 = .ok (.if_icmp .gt 113, 3) := by decide +kernel
theorem dX6_readNumbers_21 : decode cX6_readNumbers 21 = .ok (.aload_n 0, 1) := by decide +kernel
theorem dX6_readNumbers_22 : decode cX6_readNumbers 22 = .ok (.getfield 9, 3) := by decide +kernel
theorem dX6_readNumbers_25 : decode cX6_readNumbers 25 = .ok (.iload 5, 2) := by decide +kernel
theorem dX6_readNumbers_27 : decode cX6_readNumbers 27 = .ok (.caload, 1) := by decide +kernel
theorem dX6_readNumbers_28 : decode cX6_readNumbers 28 = .ok (.istore 6, 2) := by decide +kernel
theorem dX6_readNumbers_30 : decode cX6_readNumbers 30 = .ok (.iload 6, 2) := by decide +kernel
theorem dX6_readNumbers_32 : decode cX6_readNumbers 32 = .ok (.bipush 48, 2) := by decide +kernel
theorem dX6_readNumbers_34 : decode cX6_readNumbers 34 = .ok (.if_icmp .lt 34, 3) := by decide +kernel
theorem dX6_readNumbers_37 : decode cX6_readNumbers 37 = .ok (.iload 6, 2) := by decide +kernel
theorem dX6_readNumbers_39 : decode cX6_readNumbers 39 = .ok (.bipush 57, 2) := by decide +kernel
theorem dX6_readNumbers_41 : decode cX6_readNumbers 41 = .ok (.if_icmp .gt 27, 3) := by decide +kernel
theorem dX6_readNumbers_44 : decode cX6_readNumbers 44 = .ok (.iload_n 3, 1) := by decide +kernel
theorem dX6_readNumbers_45 : decode cX6_readNumbers 45 = .ok (.iconst 2, 1) := by decide +kernel
theorem dX6_readNumbers_46 : decode cX6_readNumbers 46 = .ok (.if_icmp .ge 22, 3) := by decide +kernel
theorem dX6_readNumbers_49 : decode cX6_readNumbers 49 = .ok (.iload 4, 2) := by decide +kernel
theorem dX6_readNumbers_51 : decode cX6_readNumbers 51 = .ok (.bipush 10, 2) := by decide +kernel
theorem dX6_readNumbers_53 : decode cX6_readNumbers 53 = .ok (.imul, 1) := by decide +kernel
theorem dX6_readNumbers_54 : decode cX6_readNumbers 54 = .ok (.iload 6, 2) := by decide +kernel
theorem dX6_readNumbers_56 : decode cX6_readNumbers 56 = .ok (.iadd, 1) := by decide +kernel
theorem dX6_readNumbers_57 : decode cX6_readNumbers 57 = .ok (.bipush 48, 2) := by decide +kernel
theorem dX6_readNumbers_59 : decode cX6_readNumbers 59 = .ok (.isub, 1) := by decide +kernel
theorem dX6_readNumbers_60 : decode cX6_readNumbers 60 = .ok (.istore 4, 2) := by decide +kernel
theorem dX6_readNumbers_62 : decode cX6_readNumbers 62 = .ok (.iinc 3 1, 3) := by decide +kernel
theorem dX6_readNumbers_65 : decode cX6_readNumbers 65 = .ok (.goto 60, 3) := by decide +kernel
theorem dX6_readNumbers_68 : decode cX6_readNumbers 68 = .ok (.iload 6, 2) := by decide +kernel
theorem dX6_readNumbers_70 : decode cX6_readNumbers 70 = .ok (.bipush 44, 2) := by decide +kernel
theorem dX6_readNumbers_72 : decode cX6_readNumbers 72 = .ok (.if_icmp .eq 10, 3) := by decide +kernel
theorem dX6_readNumbers_75 : decode cX6_readNumbers 75 = .ok (.iload 6, 2) := by decide +kernel
theorem dX6_readNumbers_77 : decode cX6_readNumbers 77 = .ok (.bipush 59, 2) := by decide +kernel
theorem dX6_readNumbers_79 : decode cX6_readNumbers 79 = .ok (.if_icmp .ne 44, 3) := by decide +kernel
theorem dX6_readNumbers_82 : decode cX6_readNumbers 82 = .ok (.iload_n 3, 1) := by decide +kernel
theorem dX6_readNumbers_83 : decode cX6_readNumbers 83 = .ok (.ifCond .le 40, 3) := by decide +kernel
theorem dX6_readNumbers_86 : decode cX6_readNumbers 86 = .ok (.aload_n 0, 1) := by decide +kernel
theorem dX6_readNumbers_87 : decode cX6_readNumbers 87 = .ok (.getfield 36, 3) := by decide +kernel
theorem dX6_readNumbers_90 : decode cX6_readNumbers 90 = .ok (.iconst 5, 1) := by decide +kernel
theorem dX6_readNumbers_91 : decode cX6_readNumbers 91 = .ok (.if_icmp .ge 32, 3) := by decide +kernel
theorem dX6_readNumbers_94 : decode cX6_readNumbers 94 = .ok (.aload_n 0, 1) := by decide +kernel
theorem dX6_readNumbers_95 : decode cX6_readNumbers 95 = .ok (.getfield 15, 3) := by decide +kernel
theorem dX6_readNumbers_98 : decode cX6_readNumbers 98 = .ok (.aload_n 0, 1) := by decide +kernel
theorem dX6_readNumbers_99 : decode cX6_readNumbers 99 = .ok (.getfield 36, 3) := by decide +kernel
theorem dX6_readNumbers_102 : decode cX6_readNumbers 102 = .ok (.iload 4, 2) := by decide +kernel
theorem dX6_readNumbers_104 : decode cX6_readNumbers 104 = .ok (.iastore, 1) := by decide +kernel
theorem dX6_readNumbers_105 : decode cX6_readNumbers 105 = .ok (.aload_n 0, 1) := by decide +kernel
theorem dX6_readNumbers_106 : decode cX6_readNumbers 106 = .ok (.dup, 1) := by decide +kernel
theorem dX6_readNumbers_107 : decode cX6_readNumbers 107 = .ok (.getfield 36, 3) := by decide +kernel
theorem dX6_readNumbers_110 : decode cX6_readNumbers 110 = .ok (.iconst 1, 1) := by decide +kernel
theorem dX6_readNumbers_111 : decode cX6_readNumbers 111 = .ok (.iadd, 1) := by decide +kernel
theorem dX6_readNumbers_112 : decode cX6_readNumbers 112 = .ok (.putfield 36, 3) := by decide +kernel
theorem dX6_readNumbers_115 : decode cX6_readNumbers 115 = .ok (.iconst 0, 1) := by decide +kernel
theorem dX6_readNumbers_116 : decode cX6_readNumbers 116 = .ok (.istore_n 3, 1) := by decide +kernel
theorem dX6_readNumbers_117 : decode cX6_readNumbers 117 = .ok (.iconst 0, 1) := by decide +kernel
theorem dX6_readNumbers_118 : decode cX6_readNumbers 118 = .ok (.istore 4, 2) := by decide +kernel
theorem dX6_readNumbers_120 : decode cX6_readNumbers 120 = .ok (.goto 5, 3) := by decide +kernel
theorem dX6_readNumbers_123 : decode cX6_readNumbers 123 = .ok (.iconst 0, 1) := by decide +kernel
theorem dX6_readNumbers_124 : decode cX6_readNumbers 124 = .ok (.ireturn, 1) := by decide +kernel
theorem dX6_readNumbers_125 : decode cX6_readNumbers 125 = .ok (.iinc 5 1, 3) := by decide +kernel
theorem dX6_readNumbers_128 : decode cX6_readNumbers 128 = .ok (.goto (-113), 3) := by decide +kernel
theorem dX6_readNumbers_131 : decode cX6_readNumbers 131 = .ok (.iconst 1, 1) := by decide +kernel
theorem dX6_readNumbers_132 : decode cX6_readNumbers 132 = .ok (.ireturn, 1) := by decide +kernel
theorem dX6_tell_0 : decode cX6_tell 0 = .ok (.iload_n 2, 1) := by decide +kernel
theorem dX6_tell_1 : decode cX6_tell 1 = .ok (.bipush 103, 2) := by decide +kernel
theorem dX6_tell_3 : decode cX6_tell 3 = .ok (.if_icmp .ne 36, 3) := by decide +kernel
theorem dX6_tell_6 : decode cX6_tell 6 = .ok (.aload_n 0, 1) := by decide +kernel
theorem dX6_tell_7 : decode cX6_tell 7 = .ok (.getfield 36, 3) := by decide +kernel
theorem dX6_tell_10 : decode cX6_tell 10 = .ok (.iconst 2, 1) := by decide +kernel
theorem dX6_tell_11 : decode cX6_tell 11 = .ok (.if_icmp .ne 26, 3) := by decide +kernel
theorem dX6_tell_14 : decode cX6_tell 14 = .ok (.aload_n 1, 1) := by decide +kernel
theorem dX6_tell_15 : decode cX6_tell 15 = .ok (.aload_n 0, 1) := by decide +kernel
theorem dX6_tell_16 : decode cX6_tell 16 = .ok (.getfield 15, 3) := by decide +kernel
theorem dX6_tell_19 : decode cX6_tell 19 = .ok (.iconst 0, 1) := by decide +kernel
theorem dX6_tell_20 : decode cX6_tell 20 = .ok (.iaload, 1) := by decide +kernel
theorem dX6_tell_21 : decode cX6_tell 21 = .ok (.aload_n 0, 1) := by decide +kernel
theorem dX6_tell_22 : decode cX6_tell 22 = .ok (.getfield 15, 3) := by decide +kernel
theorem dX6_tell_25 : decode cX6_tell 25 = .ok (.iconst 1, 1) := by decide +kernel
theorem dX6_tell_26 : decode cX6_tell 26 = .ok (.iaload, 1) := by decide +kernel
theorem dX6_tell_27 : decode cX6_tell 27 = .ok (.invokevirtual 39, 3) := by decide +kernel
theorem dX6_tell_30 : decode cX6_tell 30 = .ok (.ifCond .eq 7, 3) := by decide +kernel
theorem dX6_tell_33 : decode cX6_tell 33 = .ok (.iconst 1, 1) := by decide +kernel
theorem dX6_tell_34 : decode cX6_tell 34 = .ok (.goto 4, 3) := by decide +kernel
theorem dX6_tell_37 : decode cX6_tell 37 = .ok (.iconst 0, 1) := by decide +kernel
theorem dX6_tell_38 : decode cX6_tell 38 = .ok (.ireturn, 1) := by decide +kernel
theorem dX6_tell_39 : decode cX6_tell 39 = .ok (.iload_n 2, 1) := by decide +kernel
theorem dX6_tell_40 : decode cX6_tell 40 = .ok (.bipush 99, 2) := by decide +kernel
theorem dX6_tell_42 : decode cX6_tell 42 = .ok (.if_icmp .ne 42, 3) := by decide +kernel
theorem dX6_tell_45 : decode cX6_tell 45 = .ok (.aload_n 0, 1) := by decide +kernel
theorem dX6_tell_46 : decode cX6_tell 46 = .ok (.getfield 36, 3) := by decide +kernel
theorem dX6_tell_49 : decode cX6_tell 49 = .ok (.iconst 3, 1) := by decide +kernel
theorem dX6_tell_50 : decode cX6_tell 50 = .ok (.if_icmp .ne 32, 3) := by decide +kernel
theorem dX6_tell_53 : decode cX6_tell 53 = .ok (.aload_n 1, 1) := by decide +kernel
theorem dX6_tell_54 : decode cX6_tell 54 = .ok (.aload_n 0, 1) := by decide +kernel
theorem dX6_tell_55 : decode cX6_tell 55 = .ok (.getfield 15, 3) := by decide +kernel
theorem dX6_tell_58 : decode cX6_tell 58 = .ok (.iconst 0, 1) := by decide +kernel
theorem dX6_tell_59 : decode cX6_tell 59 = .ok (.iaload, 1) := by decide +kernel
theorem dX6_tell_60 : decode cX6_tell 60 = .ok (.aload_n 0, 1) := by decide +kernel
theorem dX6_tell_61 : decode cX6_tell 61 = .ok (.getfield 15, 3) := by decide +kernel
theorem dX6_tell_64 : decode cX6_tell 64 = .ok (.iconst 1, 1) := by decide +kernel
theorem dX6_tell_65 : decode cX6_tell 65 = .ok (.iaload, 1) := by decide +kernel
theorem dX6_tell_66 : decode cX6_tell 66 = .ok (.aload_n 0, 1) := by decide +kernel
theorem dX6_tell_67 : decode cX6_tell 67 = .ok (.getfield 15, 3) := by decide +kernel
theorem dX6_tell_70 : decode cX6_tell 70 = .ok (.iconst 2, 1) := by decide +kernel
theorem dX6_tell_71 : decode cX6_tell 71 = .ok (.iaload, 1) := by decide +kernel
theorem dX6_tell_72 : decode cX6_tell 72 = .ok (.invokevirtual 42, 3) := by decide +kernel
theorem dX6_tell_75 : decode cX6_tell 75 = .ok (.ifCond .eq 7, 3) := by decide +kernel
theorem dX6_tell_78 : decode cX6_tell 78 = .ok (.iconst 1, 1) := by decide +kernel
theorem dX6_tell_79 : decode cX6_tell 79 = .ok (.goto 4, 3) := by decide +kernel
theorem dX6_tell_82 : decode cX6_tell 82 = .ok (.iconst 0, 1) := by decide +kernel
theorem dX6_tell_83 : decode cX6_tell 83 = .ok (.ireturn, 1) := by decide +kernel
theorem dX6_tell_84 : decode cX6_tell 84 = .ok (.iload_n 2, 1) := by decide +kernel
theorem dX6_tell_85 : decode cX6_tell 85 = .ok (.bipush 102, 2) := by decide +kernel
theorem dX6_tell_87 : decode cX6_tell 87 = .ok (.if_icmp .ne 26, 3) := by decide +kernel
theorem dX6_tell_90 : decode cX6_tell 90 = .ok (.aload_n 0, 1) := by decide +kernel
theorem dX6_tell_91 : decode cX6_tell 91 = .ok (.getfield 36, 3) := by decide +kernel
theorem dX6_tell_94 : decode cX6_tell 94 = .ok (.iconst 5, 1) := by decide +kernel
theorem dX6_tell_95 : decode cX6_tell 95 = .ok (.if_icmp .ne 18, 3) := by decide +kernel
theorem dX6_tell_98 : decode cX6_tell 98 = .ok (.aload_n 1, 1) := by decide +kernel
theorem dX6_tell_99 : decode cX6_tell 99 = .ok (.aload_n 0, 1) := by decide +kernel
theorem dX6_tell_100 : decode cX6_tell 100 = .ok (.getfield 15, 3) := by decide +kernel
theorem dX6_tell_103 : decode cX6_tell 103 = .ok (.invokevirtual 46, 3) := by decide +kernel
theorem dX6_tell_106 : decode cX6_tell 106 = .ok (.ifCond .eq 7, 3) := by decide +kernel
theorem dX6_tell_109 : decode cX6_tell 109 = .ok (.iconst 1, 1) := by decide +kernel
theorem dX6_tell_110 : decode cX6_tell 110 = .ok (.goto 4, 3) := by decide +kernel
theorem dX6_tell_113 : decode cX6_tell 113 = .ok (.iconst 0, 1) := by decide +kernel
theorem dX6_tell_114 : decode cX6_tell 114 = .ok (.ireturn, 1) := by decide +kernel
theorem dX7_init_0 : decode cX7_init 0 = .ok (.aload_n 0, 1) := by decide +kernel
theorem dX7_init_1 : decode cX7_init 1 = .ok (.invokespecial 1, 3) := by decide +kernel
theorem dX7_init_4 : decode cX7_init 4 = .ok (.return_, 1) := by decide +kernel
theorem dJ6_bitCount_0f7a4_0 : decode cJ6_bitCount_0f7a4 0 = .ok (.iload_n 0, 1) := by decide +kernel
theorem dJ6_bitCount_0f7a4_1 : decode cJ6_bitCount_0f7a4 1 = .ok (.iload_n 0, 1) := by decide +kernel
theorem dJ6_bitCount_0f7a4_2 : decode cJ6_bitCount_0f7a4 2 = .ok (.iconst 1, 1) := by decide +kernel
theorem dJ6_bitCount_0f7a4_3 : decode cJ6_bitCount_0f7a4 3 = .ok (.iushr, 1) := by decide +kernel
theorem dJ6_bitCount_0f7a4_4 : decode cJ6_bitCount_0f7a4 4 = .ok (.ldc_w 265, 3) := by decide +kernel
theorem dJ6_bitCount_0f7a4_7 : decode cJ6_bitCount_0f7a4 7 = .ok (.iand, 1) := by decide +kernel
theorem dJ6_bitCount_0f7a4_8 : decode cJ6_bitCount_0f7a4 8 = .ok (.isub, 1) := by decide +kernel
theorem dJ6_bitCount_0f7a4_9 : decode cJ6_bitCount_0f7a4 9 = .ok (.istore_n 0, 1) := by decide +kernel
theorem dJ6_bitCount_0f7a4_10 : decode cJ6_bitCount_0f7a4 10 = .ok (.iload_n 0, 1) := by decide +kernel
theorem dJ6_bitCount_0f7a4_11 : decode cJ6_bitCount_0f7a4 11 = .ok (.ldc_w 266, 3) := by decide +kernel
theorem dJ6_bitCount_0f7a4_14 : decode cJ6_bitCount_0f7a4 14 = .ok (.iand, 1) := by decide +kernel
theorem dJ6_bitCount_0f7a4_15 : decode cJ6_bitCount_0f7a4 15 = .ok (.iload_n 0, 1) := by decide +kernel
theorem dJ6_bitCount_0f7a4_16 : decode cJ6_bitCount_0f7a4 16 = .ok (.iconst 2, 1) := by decide +kernel
theorem dJ6_bitCount_0f7a4_17 : decode cJ6_bitCount_0f7a4 17 = .ok (.iushr, 1) := by decide +kernel
theorem dJ6_bitCount_0f7a4_18 : decode cJ6_bitCount_0f7a4 18 = .ok (.ldc_w 266, 3) := by decide +kernel
theorem dJ6_bitCount_0f7a4_21 : decode cJ6_bitCount_0f7a4 21 = .ok (.iand, 1) := by decide +kernel
theorem dJ6_bitCount_0f7a4_22 : decode cJ6_bitCount_0f7a4 22 = .ok (.iadd, 1) := by decide +kernel
theorem dJ6_bitCount_0f7a4_23 : decode cJ6_bitCount_0f7a4 23 = .ok (.istore_n 0, 1) := by decide +kernel
theorem dJ6_bitCount_0f7a4_24 : decode cJ6_bitCount_0f7a4 24 = .ok (.iload_n 0, 1) := by decide +kernel
theorem dJ6_bitCount_0f7a4_25 : decode cJ6_bitCount_0f7a4 25 = .ok (.iload_n 0, 1) := by decide +kernel
theorem dJ6_bitCount_0f7a4_26 : decode cJ6_bitCount_0f7a4 26 = .ok (.iconst 4, 1) := by decide +kernel
theorem dJ6_bitCount_0f7a4_27 : decode cJ6_bitCount_0f7a4 27 = .ok (.iushr, 1) := by decide +kernel
theorem dJ6_bitCount_0f7a4_28 : decode cJ6_bitCount_0f7a4 28 = .ok (.iadd, 1) := by decide +kernel
theorem dJ6_bitCount_0f7a4_29 : decode cJ6_bitCount_0f7a4 29 = .ok (.ldc_w 267, 3) := by decide +kernel
theorem dJ6_bitCount_0f7a4_32 : decode cJ6_bitCount_0f7a4 32 = .ok (.iand, 1) := by decide +kernel
theorem dJ6_bitCount_0f7a4_33 : decode cJ6_bitCount_0f7a4 33 = .ok (.istore_n 0, 1) := by decide +kernel
theorem dJ6_bitCount_0f7a4_34 : decode cJ6_bitCount_0f7a4 34 = .ok (.iload_n 0, 1) := by decide +kernel
theorem dJ6_bitCount_0f7a4_35 : decode cJ6_bitCount_0f7a4 35 = .ok (.iload_n 0, 1) := by decide +kernel
theorem dJ6_bitCount_0f7a4_36 : decode cJ6_bitCount_0f7a4 36 = .ok (.bipush 8, 2) := by decide +kernel
theorem dJ6_bitCount_0f7a4_38 : decode cJ6_bitCount_0f7a4 38 = .ok (.iushr, 1) := by decide +kernel
theorem dJ6_bitCount_0f7a4_39 : decode cJ6_bitCount_0f7a4 39 = .ok (.iadd, 1) := by decide +kernel
theorem dJ6_bitCount_0f7a4_40 : decode cJ6_bitCount_0f7a4 40 = .ok (.istore_n 0, 1) := by decide +kernel
theorem dJ6_bitCount_0f7a4_41 : decode cJ6_bitCount_0f7a4 41 = .ok (.iload_n 0, 1) := by decide +kernel
theorem dJ6_bitCount_0f7a4_42 : decode cJ6_bitCount_0f7a4 42 = .ok (.iload_n 0, 1) := by decide +kernel
theorem dJ6_bitCount_0f7a4_43 : decode cJ6_bitCount_0f7a4 43 = .ok (.bipush 16, 2) := by decide +kernel
theorem dJ6_bitCount_0f7a4_45 : decode cJ6_bitCount_0f7a4 45 = .ok (.iushr, 1) := by decide +kernel
theorem dJ6_bitCount_0f7a4_46 : decode cJ6_bitCount_0f7a4 46 = .ok (.iadd, 1) := by decide +kernel
theorem dJ6_bitCount_0f7a4_47 : decode cJ6_bitCount_0f7a4 47 = .ok (.istore_n 0, 1) := by decide +kernel
theorem dJ6_bitCount_0f7a4_48 : decode cJ6_bitCount_0f7a4 48 = .ok (.iload_n 0, 1) := by decide +kernel
theorem dJ6_bitCount_0f7a4_49 : decode cJ6_bitCount_0f7a4 49 = .ok (.bipush 63, 2) := by decide +kernel
theorem dJ6_bitCount_0f7a4_51 : decode cJ6_bitCount_0f7a4 51 = .ok (.iand, 1) := by decide +kernel
theorem dJ6_bitCount_0f7a4_52 : decode cJ6_bitCount_0f7a4 52 = .ok (.ireturn, 1) := by decide +kernel
theorem dJ9_abs_0f7a4_0 : decode cJ9_abs_0f7a4 0 = .ok (.iload_n 0, 1) := by decide +kernel
theorem dJ9_abs_0f7a4_1 : decode cJ9_abs_0f7a4 1 = .ok (.ifCond .ge 8, 3) := by decide +kernel
theorem dJ9_abs_0f7a4_4 : decode cJ9_abs_0f7a4 4 = .ok (.iload_n 0, 1) := by decide +kernel
theorem dJ9_abs_0f7a4_5 : decode cJ9_abs_0f7a4 5 = .ok (.ineg, 1) := by decide +kernel
theorem dJ9_abs_0f7a4_6 : decode cJ9_abs_0f7a4 6 = .ok (.goto 4, 3) := by decide +kernel
theorem dJ9_abs_0f7a4_9 : decode cJ9_abs_0f7a4 9 = .ok (.iload_n 0, 1) := by decide +kernel
theorem dJ9_abs_0f7a4_10 : decode cJ9_abs_0f7a4 10 = .ok (.ireturn, 1) := by decide +kernel
theorem dJ9_max_7cf53_0 : decode cJ9_max_7cf53 0 = .ok (.iload_n 0, 1) := by decide +kernel
theorem dJ9_max_7cf53_1 : decode cJ9_max_7cf53 1 = .ok (.iload_n 1, 1) := by decide +kernel
theorem dJ9_max_7cf53_2 : decode cJ9_max_7cf53 2 = .ok (.if_icmp .lt 7, 3) := by decide +kernel
theorem dJ9_max_7cf53_5 : decode cJ9_max_7cf53 5 = .ok (.iload_n 0, 1) := by decide +kernel
theorem dJ9_max_7cf53_6 : decode cJ9_max_7cf53 6 = .ok (.goto 4, 3) := by decide +kernel
theorem dJ9_max_7cf53_9 : decode cJ9_max_7cf53 9 = .ok (.iload_n 1, 1) := by decide +kernel
theorem dJ9_max_7cf53_10 : decode cJ9_max_7cf53 10 = .ok (.ireturn, 1) := by decide +kernel
theorem dJ9_min_7cf53_0 : decode cJ9_min_7cf53 0 = .ok (.iload_n 0, 1) := by decide +kernel
theorem dJ9_min_7cf53_1 : decode cJ9_min_7cf53 1 = .ok (.iload_n 1, 1) := by decide +kernel
theorem dJ9_min_7cf53_2 : decode cJ9_min_7cf53 2 = .ok (.if_icmp .gt 7, 3) := by decide +kernel
theorem dJ9_min_7cf53_5 : decode cJ9_min_7cf53 5 = .ok (.iload_n 0, 1) := by decide +kernel
theorem dJ9_min_7cf53_6 : decode cJ9_min_7cf53 6 = .ok (.goto 4, 3) := by decide +kernel
theorem dJ9_min_7cf53_9 : decode cJ9_min_7cf53 9 = .ok (.iload_n 1, 1) := by decide +kernel
theorem dJ9_min_7cf53_10 : decode cJ9_min_7cf53 10 = .ok (.ireturn, 1) := by decide +kernel
theorem dJ0_length_8abf5_0 : decode cJ0_length_8abf5 0 = .ok (.aload_n 0, 1) := by decide +kernel
theorem dJ0_length_8abf5_1 : decode cJ0_length_8abf5 1 = .ok (.getfield 9, 3) := by decide +kernel
theorem dJ0_length_8abf5_4 : decode cJ0_length_8abf5 4 = .ok (.arraylength, 1) := by decide +kernel
theorem dJ0_length_8abf5_5 : decode cJ0_length_8abf5 5 = .ok (.aload_n 0, 1) := by decide +kernel
theorem dJ0_length_8abf5_6 : decode cJ0_length_8abf5 6 = .ok (.invokevirtual 335, 3) := by decide +kernel
theorem dJ0_length_8abf5_9 : decode cJ0_length_8abf5 9 = .ok (.ishr, 1) := by decide +kernel
theorem dJ0_length_8abf5_10 : decode cJ0_length_8abf5 10 = .ok (.ireturn, 1) := by decide +kernel
theorem dJ0_charAt_5068e_0 : decode cJ0_charAt_5068e 0 = .ok (.aload_n 0, 1) := by decide +kernel
theorem dJ0_charAt_5068e_1 : decode cJ0_charAt_5068e 1 = .ok (.invokevirtual 492, 3) := by decide +kernel
theorem dJ0_charAt_5068e_4 : decode cJ0_charAt_5068e 4 = .ok (.ifCond .eq 12, 3) := by decide +kernel
theorem dJ0_charAt_5068e_7 : decode cJ0_charAt_5068e 7 = .ok (.aload_n 0, 1) := by decide +kernel
theorem dJ0_charAt_5068e_8 : decode cJ0_charAt_5068e 8 = .ok (.getfield 9, 3) := by decide +kernel
theorem dJ0_charAt_5068e_11 : decode cJ0_charAt_5068e 11 = .ok (.iload_n 1, 1) := by decide +kernel
theorem dJ0_charAt_5068e_12 : decode cJ0_charAt_5068e 12 = .ok (.invokestatic 495, 3) := by decide +kernel
theorem dJ0_charAt_5068e_15 : decode cJ0_charAt_5068e 15 = .ok (.ireturn, 1) := by decide +kernel
theorem dJ0_charAt_5068e_16 : decode cJ0_charAt_5068e 16 = .ok (.aload_n 0, 1) := by decide +kernel
theorem dJ0_charAt_5068e_17 : decode cJ0_charAt_5068e 17 = .ok (.getfield 9, 3) := by decide +kernel
theorem dJ0_charAt_5068e_20 : decode cJ0_charAt_5068e 20 = .ok (.iload_n 1, 1) := by decide +kernel
theorem dJ0_charAt_5068e_21 : decode cJ0_charAt_5068e 21 = .ok (.invokestatic 498, 3) := by decide +kernel
theorem dJ0_charAt_5068e_24 : decode cJ0_charAt_5068e 24 = .ok (.ireturn, 1) := by decide +kernel
theorem dJ0_coder_7d493_0 : decode cJ0_coder_7d493 0 = .ok (.getstatic 38, 3) := by decide +kernel
theorem dJ0_coder_7d493_3 : decode cJ0_coder_7d493 3 = .ok (.ifCond .eq 10, 3) := by decide +kernel
theorem dJ0_coder_7d493_6 : decode cJ0_coder_7d493 6 = .ok (.aload_n 0, 1) := by decide +kernel
theorem dJ0_coder_7d493_7 : decode cJ0_coder_7d493 7 = .ok (.getfield 15, 3) := by decide +kernel
theorem dJ0_coder_7d493_10 : decode cJ0_coder_7d493 10 = .ok (.goto 4, 3) := by decide +kernel
theorem dJ0_coder_7d493_13 : decode cJ0_coder_7d493 13 = .ok (.iconst 1, 1) := by decide +kernel
theorem dJ0_coder_7d493_14 : decode cJ0_coder_7d493 14 = .ok (.ireturn, 1) := by decide +kernel
theorem dJ0_isLatin1_aae02_0 : decode cJ0_isLatin1_aae02 0 = .ok (.getstatic 38, 3) := by decide +kernel
theorem dJ0_isLatin1_aae02_3 : decode cJ0_isLatin1_aae02 3 = .ok (.ifCond .eq 14, 3) := by decide +kernel
theorem dJ0_isLatin1_aae02_6 : decode cJ0_isLatin1_aae02 6 = .ok (.aload_n 0, 1) := by decide +kernel
theorem dJ0_isLatin1_aae02_7 : decode cJ0_isLatin1_aae02 7 = .ok (.getfield 15, 3) := by decide +kernel
theorem dJ0_isLatin1_aae02_10 : decode cJ0_isLatin1_aae02 10 = .ok (.ifCond .ne 7, 3) := by decide +kernel
theorem dJ0_isLatin1_aae02_13 : decode cJ0_isLatin1_aae02 13 = .ok (.iconst 1, 1) := by decide +kernel
theorem dJ0_isLatin1_aae02_14 : decode cJ0_isLatin1_aae02 14 = .ok (.goto 4, 3) := by decide +kernel
theorem dJ0_isLatin1_aae02_17 : decode cJ0_isLatin1_aae02 17 = .ok (.iconst 0, 1) := by decide +kernel
theorem dJ0_isLatin1_aae02_18 : decode cJ0_isLatin1_aae02 18 = .ok (.ireturn, 1) := by decide +kernel
theorem dJ0_checkIndex_df160_0 : decode cJ0_checkIndex_df160 0 = .ok (.iload_n 0, 1) := by decide +kernel
theorem dJ0_checkIndex_df160_1 : decode cJ0_checkIndex_df160 1 = .ok (.iload_n 1, 1) := by decide +kernel
theorem dJ0_checkIndex_df160_2 : decode cJ0_checkIndex_df160 2 = .ok (.getstatic 1053, 3) := by decide +kernel
theorem dJ0_checkIndex_df160_5 : decode cJ0_checkIndex_df160 5 = .ok (.invokestatic 1059, 3) := by decide +kernel
theorem dJ0_checkIndex_df160_8 : decode cJ0_checkIndex_df160 8 = .ok (.pop, 1) := by decide +kernel
theorem dJ0_checkIndex_df160_9 : decode cJ0_checkIndex_df160 9 = .ok (.return_, 1) := by decide +kernel
theorem dJ1_charAt_3b067_0 : decode cJ1_charAt_3b067 0 = .ok (.iload_n 1, 1) := by decide +kernel
theorem dJ1_charAt_3b067_1 : decode cJ1_charAt_3b067 1 = .ok (.aload_n 0, 1) := by decide +kernel
theorem dJ1_charAt_3b067_2 : decode cJ1_charAt_3b067 2 = .ok (.arraylength, 1) := by decide +kernel
theorem dJ1_charAt_3b067_3 : decode cJ1_charAt_3b067 3 = .ok (.invokestatic 9, 3) := by decide +kernel
theorem dJ1_charAt_3b067_6 : decode cJ1_charAt_3b067 6 = .ok (.aload_n 0, 1) := by decide +kernel
theorem dJ1_charAt_3b067_7 : decode cJ1_charAt_3b067 7 = .ok (.iload_n 1, 1) := by decide +kernel
theorem dJ1_charAt_3b067_8 : decode cJ1_charAt_3b067 8 = .ok (.baload, 1) := by decide +kernel
theorem dJ1_charAt_3b067_9 : decode cJ1_charAt_3b067 9 = .ok (.sipush 255, 3) := by decide +kernel
theorem dJ1_charAt_3b067_12 : decode cJ1_charAt_3b067 12 = .ok (.iand, 1) := by decide +kernel
theorem dJ1_charAt_3b067_13 : decode cJ1_charAt_3b067 13 = .ok (.i2c, 1) := by decide +kernel
theorem dJ1_charAt_3b067_14 : decode cJ1_charAt_3b067 14 = .ok (.ireturn, 1) := by decide +kernel
theorem dJ2_getChar_3b067_0 : decode cJ2_getChar_3b067 0 = .ok (.getstatic 44, 3) := by decide +kernel
theorem dJ2_getChar_3b067_3 : decode cJ2_getChar_3b067 3 = .ok (.ifCond .ne 25, 3) := by decide +kernel
theorem dJ2_getChar_3b067_6 : decode cJ2_getChar_3b067 6 = .ok (.iload_n 1, 1) := by decide +kernel
theorem dJ2_getChar_3b067_7 : decode cJ2_getChar_3b067 7 = .ok (.ifCond .lt 11, 3) := by decide +kernel
theorem dJ2_getChar_3b067_10 : decode cJ2_getChar_3b067 10 = .ok (.iload_n 1, 1) := by decide +kernel
theorem dJ2_getChar_3b067_11 : decode cJ2_getChar_3b067 11 = .ok (.aload_n 0, 1) := by decide +kernel
theorem dJ2_getChar_3b067_12 : decode cJ2_getChar_3b067 12 = .ok (.invokestatic 48, 3) := by decide +kernel
theorem dJ2_getChar_3b067_15 : decode cJ2_getChar_3b067 15 = .ok (.if_icmp .lt 13, 3) := by decide +kernel
theorem dJ2_getChar_3b067_18 : decode cJ2_getChar_3b067 18 = .ok (.new 52, 3) := by decide +kernel
theorem dJ2_getChar_3b067_21 : decode cJ2_getChar_3b067 21 = .ok (.dup, 1) := by decide +kernel
theorem dJ2_getChar_3b067_22 : decode cJ2_getChar_3b067 22 = .ok (.ldc 54, 2) := by decide +kernel
theorem dJ2_getChar_3b067_24 : decode cJ2_getChar_3b067 24 = .ok (.invokespecial 56, 3) := by decide +kernel
theorem dJ2_getChar_3b067_27 : decode cJ2_getChar_3b067 27 = .ok (.athrow, 1) := by decide +kernel
theorem dJ2_getChar_3b067_28 : decode cJ2_getChar_3b067 28 = .ok (.iload_n 1, 1) := by decide +kernel
theorem dJ2_getChar_3b067_29 : decode cJ2_getChar_3b067 29 = .ok (.iconst 1, 1) := by decide +kernel
theorem dJ2_getChar_3b067_30 : decode cJ2_getChar_3b067 30 = .ok (.ishl, 1) := by decide +kernel
theorem dJ2_getChar_3b067_31 : decode cJ2_getChar_3b067 31 = .ok (.istore_n 1, 1) := by decide +kernel
theorem dJ2_getChar_3b067_32 : decode cJ2_getChar_3b067 32 = .ok (.aload_n 0, 1) := by decide +kernel
theorem dJ2_getChar_3b067_33 : decode cJ2_getChar_3b067 33 = .ok (.iload_n 1, 1) := by decide +kernel
theorem dJ2_getChar_3b067_34 : decode cJ2_getChar_3b067 34 = .ok (.iinc 1 1, 3) := by decide +kernel
theorem dJ2_getChar_3b067_37 : decode cJ2_getChar_3b067 37 = .ok (.baload, 1) := by decide +kernel
theorem dJ2_getChar_3b067_38 : decode cJ2_getChar_3b067 38 = .ok (.sipush 255, 3) := by decide +kernel
theorem dJ2_getChar_3b067_41 : decode cJ2_getChar_3b067 41 = .ok (.iand, 1) := by decide +kernel
theorem dJ2_getChar_3b067_42 : decode cJ2_getChar_3b067 42 = .ok (.getstatic 59, 3) := by decide +kernel
theorem dJ2_getChar_3b067_45 : decode cJ2_getChar_3b067 45 = .ok (.ishl, 1) := by decide +kernel
theorem dJ2_getChar_3b067_46 : decode cJ2_getChar_3b067 46 = .ok (.aload_n 0, 1) := by decide +kernel
theorem dJ2_getChar_3b067_47 : decode cJ2_getChar_3b067 47 = .ok (.iload_n 1, 1) := by decide +kernel
theorem dJ2_getChar_3b067_48 : decode cJ2_getChar_3b067 48 = .ok (.baload, 1) := by decide +kernel
theorem dJ2_getChar_3b067_49 : decode cJ2_getChar_3b067 49 = .ok (.sipush 255, 3) := by decide +kernel
theorem dJ2_getChar_3b067_52 : decode cJ2_getChar_3b067 52 = .ok (.iand, 1) := by decide +kernel
theorem dJ2_getChar_3b067_53 : decode cJ2_getChar_3b067 53 = .ok (.getstatic 63, 3) := by decide +kernel
theorem dJ2_getChar_3b067_56 : decode cJ2_getChar_3b067 56 = .ok (.ishl, 1) := by decide +kernel
theorem dJ2_getChar_3b067_57 : decode cJ2_getChar_3b067 57 = .ok (.ior, 1) := by decide +kernel
theorem dJ2_getChar_3b067_58 : decode cJ2_getChar_3b067 58 = .ok (.i2c, 1) := by decide +kernel
theorem dJ2_getChar_3b067_59 : decode cJ2_getChar_3b067 59 = .ok (.ireturn, 1) := by decide +kernel
theorem dJ2_length_9d52b_0 : decode cJ2_length_9d52b 0 = .ok (.aload_n 0, 1) := by decide +kernel
theorem dJ2_length_9d52b_1 : decode cJ2_length_9d52b 1 = .ok (.arraylength, 1) := by decide +kernel
theorem dJ2_length_9d52b_2 : decode cJ2_length_9d52b 2 = .ok (.iconst 1, 1) := by decide +kernel
theorem dJ2_length_9d52b_3 : decode cJ2_length_9d52b 3 = .ok (.ishr, 1) := by decide +kernel
theorem dJ2_length_9d52b_4 : decode cJ2_length_9d52b 4 = .ok (.ireturn, 1) := by decide +kernel
theorem dJ2_charAt_3b067_0 : decode cJ2_charAt_3b067 0 = .ok (.iload_n 1, 1) := by decide +kernel
theorem dJ2_charAt_3b067_1 : decode cJ2_charAt_3b067 1 = .ok (.aload_n 0, 1) := by decide +kernel
theorem dJ2_charAt_3b067_2 : decode cJ2_charAt_3b067 2 = .ok (.invokestatic 67, 3) := by decide +kernel
theorem dJ2_charAt_3b067_5 : decode cJ2_charAt_3b067 5 = .ok (.aload_n 0, 1) := by decide +kernel
theorem dJ2_charAt_3b067_6 : decode cJ2_charAt_3b067 6 = .ok (.iload_n 1, 1) := by decide +kernel
theorem dJ2_charAt_3b067_7 : decode cJ2_charAt_3b067 7 = .ok (.invokestatic 71, 3) := by decide +kernel
theorem dJ2_charAt_3b067_10 : decode cJ2_charAt_3b067 10 = .ok (.ireturn, 1) := by decide +kernel
theorem dJ2_checkIndex_2214a_0 : decode cJ2_checkIndex_2214a 0 = .ok (.iload_n 0, 1) := by decide +kernel
theorem dJ2_checkIndex_2214a_1 : decode cJ2_checkIndex_2214a 1 = .ok (.aload_n 1, 1) := by decide +kernel
theorem dJ2_checkIndex_2214a_2 : decode cJ2_checkIndex_2214a 2 = .ok (.invokestatic 48, 3) := by decide +kernel
theorem dJ2_checkIndex_2214a_5 : decode cJ2_checkIndex_2214a 5 = .ok (.invokestatic 414, 3) := by decide +kernel
theorem dJ2_checkIndex_2214a_8 : decode cJ2_checkIndex_2214a 8 = .ok (.return_, 1) := by decide +kernel
theorem dJ3_checkIndex_8e157_0 : decode cJ3_checkIndex_8e157 0 = .ok (.iload_n 0, 1) := by decide +kernel
theorem dJ3_checkIndex_8e157_1 : decode cJ3_checkIndex_8e157 1 = .ok (.ifCond .lt 8, 3) := by decide +kernel
theorem dJ3_checkIndex_8e157_4 : decode cJ3_checkIndex_8e157 4 = .ok (.iload_n 0, 1) := by decide +kernel
theorem dJ3_checkIndex_8e157_5 : decode cJ3_checkIndex_8e157 5 = .ok (.iload_n 1, 1) := by decide +kernel
theorem dJ3_checkIndex_8e157_6 : decode cJ3_checkIndex_8e157 6 = .ok (.if_icmp .lt 10, 3) := by decide +kernel
theorem dJ3_checkIndex_8e157_9 : decode cJ3_checkIndex_8e157 9 = .ok (.aload_n 2, 1) := by decide +kernel
theorem dJ3_checkIndex_8e157_10 : decode cJ3_checkIndex_8e157 10 = .ok (.iload_n 0, 1) := by decide +kernel
theorem dJ3_checkIndex_8e157_11 : decode cJ3_checkIndex_8e157 11 = .ok (.iload_n 1, 1) := by decide +kernel
theorem dJ3_checkIndex_8e157_12 : decode cJ3_checkIndex_8e157 12 = .ok (.invokestatic 95, 3) := by decide +kernel
theorem dJ3_checkIndex_8e157_15 : decode cJ3_checkIndex_8e157 15 = .ok (.athrow, 1) := by decide +kernel
theorem dJ3_checkIndex_8e157_16 : decode cJ3_checkIndex_8e157 16 = .ok (.iload_n 0, 1) := by decide +kernel
theorem dJ3_checkIndex_8e157_17 : decode cJ3_checkIndex_8e157 17 = .ok (.ireturn, 1) := by decide +kernel
