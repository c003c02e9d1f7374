theorem dX8_init_0 : decode cX8_init 0 = .ok (.aload_n 0, 1) := by decide +kernel
theorem dX8_init_1 : decode cX8_init 1 = .ok (.invokespecial 3, 3) := by decide +kernel
theorem dX8_init_4 : decode cX8_init 4 = .ok (.aload_n 0, 1) := by decide +kernel
theorem dX8_init_5 : decode cX8_init 5 = .ok (.new 9, 3) := by decide +kernel
theorem dX8_init_8 : decode cX8_init 8 = .ok (.dup, 1) := by decide +kernel
theorem dX8_init_9 : decode cX8_init 9 = .ok (.invokespecial 11, 3) := by decide +kernel
theorem dX8_init_12 : decode cX8_init 12 = .ok (.putfield 12, 3) := by decide +kernel
theorem dX8_init_15 : decode cX8_init 15 = .ok (.aload_n 0, 1) := by decide +kernel
theorem dX8_init_16 : decode cX8_init 16 = .ok (.new 16, 3) := by decide +kernel
theorem dX8_init_19 : decode cX8_init 19 = .ok (.dup, 1) := by decide +kernel
theorem dX8_init_20 : decode cX8_init 20 = .ok (.invokespecial 18, 3) := by decide +kernel
theorem dX8_init_23 : decode cX8_init 23 = .ok (.putfield 19, 3) := by decide +kernel
theorem dX8_init_26 : decode cX8_init 26 = .ok (.aload_n 0, 1) := by decide +kernel
theorem dX8_init_27 : decode cX8_init 27 = .ok (.new 16, 3) := by decide +kernel
theorem dX8_init_30 : decode cX8_init 30 = .ok (.dup, 1) := by decide +kernel
theorem dX8_init_31 : decode cX8_init 31 = .ok (.invokespecial 18, 3) := by decide +kernel
theorem dX8_init_34 : decode cX8_init 34 = .ok (.putfield 23, 3) := by decide +kernel
theorem dX8_init_37 : decode cX8_init 37 = .ok (.aload_n 0, 1) := by decide +kernel
theorem dX8_init_38 : decode cX8_init 38 = .ok (.new 26, 3) := by decide +kernel
theorem dX8_init_41 : decode cX8_init 41 = .ok (.dup, 1) := by decide +kernel
theorem dX8_init_42 : decode cX8_init 42 = .ok (.invokespecial 28, 3) := by decide +kernel
theorem dX8_init_45 : decode cX8_init 45 = .ok (.putfield 29, 3) := by decide +kernel
theorem dX8_init_48 : decode cX8_init 48 = .ok (.aload_n 0, 1) := by decide +kernel
theorem dX8_init_49 : decode cX8_init 49 = .ok (.new 26, 3) := by decide +kernel
theorem dX8_init_52 : decode cX8_init 52 = .ok (.dup, 1) := by decide +kernel
theorem dX8_init_53 : decode cX8_init 53 = .ok (.invokespecial 28, 3) := by decide +kernel
theorem dX8_init_56 : decode cX8_init 56 = .ok (.putfield 33, 3) := by decide +kernel
theorem dX8_init_59 : decode cX8_init 59 = .ok (.aload_n 0, 1) := by decide +kernel
theorem dX8_init_60 : decode cX8_init 60 = .ok (.new 36, 3) := by decide +kernel
theorem dX8_init_63 : decode cX8_init 63 = .ok (.dup, 1) := by decide +kernel
theorem dX8_init_64 : decode cX8_init 64 = .ok (.bipush 8, 2) := by decide +kernel
theorem dX8_init_66 : decode cX8_init 66 = .ok (.invokespecial 38, 3) := by decide +kernel
theorem dX8_init_69 : decode cX8_init 69 = .ok (.putfield 41, 3) := by decide +kernel
theorem dX8_init_72 : decode cX8_init 72 = .ok (.aload_n 0, 1) := by decide +kernel
theorem dX8_init_73 : decode cX8_init 73 = .ok (.new 36, 3) := by decide +kernel
theorem dX8_init_76 : decode cX8_init 76 = .ok (.dup, 1) := by decide +kernel
theorem dX8_init_77 : decode cX8_init 77 = .ok (.iconst 2, 1) := by decide +kernel
theorem dX8_init_78 : decode cX8_init 78 = .ok (.invokespecial 38, 3) := by decide +kernel
theorem dX8_init_81 : decode cX8_init 81 = .ok (.putfield 45, 3) := by decide +kernel
theorem dX8_init_84 : decode cX8_init 84 = .ok (.aload_n 0, 1) := by decide +kernel
theorem dX8_init_85 : decode cX8_init 85 = .ok (.new 48, 3) := by decide +kernel
theorem dX8_init_88 : decode cX8_init 88 = .ok (.dup, 1) := by decide +kernel
theorem dX8_init_89 : decode cX8_init 89 = .ok (.invokespecial 50, 3) := by decide +kernel
theorem dX8_init_92 : decode cX8_init 92 = .ok (.putfield 51, 3) := by decide +kernel
theorem dX8_init_95 : decode cX8_init 95 = .ok (.aload_n 0, 1) := by decide +kernel
theorem dX8_init_96 : decode cX8_init 96 = .ok (.new 55, 3) := by decide +kernel
theorem dX8_init_99 : decode cX8_init 99 = .ok (.dup, 1) := by decide +kernel
theorem dX8_init_100 : decode cX8_init 100 = .ok (.invokespecial 57, 3) := by decide +kernel
theorem dX8_init_103 : decode cX8_init 103 = .ok (.putfield 58, 3) := by decide +kernel
theorem dX8_init_106 : decode cX8_init 106 = .ok (.aload_n 0, 1) := by decide +kernel
theorem dX8_init_107 : decode cX8_init 107 = .ok (.new 62, 3) := by decide +kernel
theorem dX8_init_110 : decode cX8_init 110 = .ok (.dup, 1) := by decide +kernel
theorem dX8_init_111 : decode cX8_init 111 = .ok (.invokespecial 64, 3) := by decide +kernel
theorem dX8_init_114 : decode cX8_init 114 = .ok (.putfield 65, 3) := by decide +kernel
theorem dX8_init_117 : decode cX8_init 117 = .ok (.aload_n 0, 1) := by decide +kernel
theorem dX8_init_118 : decode cX8_init 118 = .ok (.bipush 41, 2) := by decide +kernel
theorem dX8_init_120 : decode cX8_init 120 = .ok (.newarray .long, 2) := by decide +kernel
theorem dX8_init_122 : decode cX8_init 122 = .ok (.putfield 69, 3) := by decide +kernel
theorem dX8_init_125 : decode cX8_init 125 = .ok (.iconst 0, 1) := by decide +kernel
theorem dX8_init_126 : decode cX8_init 126 = .ok (.istore_n 1, 1) := by decide +kernel
theorem dX8_init_127 : decode cX8_init 127 = .ok (.iload_n 1, 1) := by decide +kernel
theorem dX8_init_128 : decode cX8_init 128 = .ok (.ldc 73, 2) := by decide +kernel
theorem dX8_init_130 : decode cX8_init 130 = .ok (.invokevirtual 75, 3) := by decide +kernel
theorem dX8_init_133 : decode cX8_init 133 = .ok (.if_icmp .ge 23, 3) := by decide +kernel
theorem dX8_init_136 : decode cX8_init 136 = .ok (.aload_n 0, 1) := by decide +kernel
theorem dX8_init_137 : decode cX8_init 137 = .ok (.getfield 12, 3) := by decide +kernel
theorem dX8_init_140 : decode cX8_init 140 = .ok (.ldc 73, 2) := by decide +kernel
theorem dX8_init_142 : decode cX8_init 142 = .ok (.iload_n 1, 1) := by decide +kernel
theorem dX8_init_143 : decode cX8_init 143 = .ok (.invokevirtual 81, 3) := by decide +kernel
theorem dX8_init_146 : decode cX8_init 146 = .ok (.invokevirtual 85, 3) := by decide +kernel
theorem dX8_init_149 : decode cX8_init 149 = .ok (.pop, 1) := by decide +kernel
theorem dX8_init_150 : decode cX8_init 150 = .ok (.iinc 1 1, 3) := by decide +kernel
theorem dX8_init_153 : decode cX8_init 153 = .ok (.goto (-26), 3) := by decide +kernel
theorem dX8_init_156 : decode cX8_init 156 = .ok (.aload_n 0, 1) := by decide +kernel
theorem dX8_init_157 : decode cX8_init 157 = .ok (.getfield 12, 3) := by decide +kernel
theorem dX8_init_160 : decode cX8_init 160 = .ok (.aload_n 0, 1) := by decide +kernel
theorem dX8_init_161 : decode cX8_init 161 = .ok (.getfield 19, 3) := by decide +kernel
theorem dX8_init_164 : decode cX8_init 164 = .ok (.invokevirtual 89, 3) := by decide +kernel
theorem dX8_init_167 : decode cX8_init 167 = .ok (.pop, 1) := by decide +kernel
theorem dX8_init_168 : decode cX8_init 168 = .ok (.aload_n 0, 1) := by decide +kernel
theorem dX8_init_169 : decode cX8_init 169 = .ok (.getfield 12, 3) := by decide +kernel
theorem dX8_init_172 : decode cX8_init 172 = .ok (.iconst 0, 1) := by decide +kernel
theorem dX8_init_173 : decode cX8_init 173 = .ok (.putfield 93, 3) := by decide +kernel
theorem dX8_init_176 : decode cX8_init 176 = .ok (.aload_n 0, 1) := by decide +kernel
theorem dX8_init_177 : decode cX8_init 177 = .ok (.invokevirtual 96, 3) := by decide +kernel
theorem dX8_init_180 : decode cX8_init 180 = .ok (.return_, 1) := by decide +kernel
theorem dX8_write_0 : decode cX8_write 0 = .ok (.iload_n 1, 1) := by decide +kernel
theorem dX8_write_1 : decode cX8_write 1 = .ok (.bipush 32, 2) := by decide +kernel
theorem dX8_write_3 : decode cX8_write 3 = .ok (.bipush 126, 2) := by decide +kernel
theorem dX8_write_5 : decode cX8_write 5 = .ok (.invokestatic 99, 3) := by decide +kernel
theorem dX8_write_8 : decode cX8_write 8 = .ok (.ifCond .ne 5, 3) := by decide +kernel
theorem dX8_write_11 : decode cX8_write 11 = .ok (.iconst (-1), 1) := by decide +kernel
theorem dX8_write_12 : decode cX8_write 12 = .ok (.ireturn, 1) := by decide +kernel
theorem dX8_write_13 : decode cX8_write 13 = .ok (.aload_n 0, 1) := by decide +kernel
theorem dX8_write_14 : decode cX8_write 14 = .ok (.getfield 12, 3) := by decide +kernel
theorem dX8_write_17 : decode cX8_write 17 = .ok (.iload_n 1, 1) := by decide +kernel
theorem dX8_write_18 : decode cX8_write 18 = .ok (.i2c, 1) := by decide +kernel
theorem dX8_write_19 : decode cX8_write 19 = .ok (.invokevirtual 85, 3) := by decide +kernel
theorem dX8_write_22 : decode cX8_write 22 = .ok (.ifCond .eq 13, 3) := by decide +kernel
theorem dX8_write_25 : decode cX8_write 25 = .ok (.aload_n 0, 1) := by decide +kernel
theorem dX8_write_26 : decode cX8_write 26 = .ok (.getfield 12, 3) := by decide +kernel
theorem dX8_write_29 : decode cX8_write 29 = .ok (.getfield 93, 3) := by decide +kernel
theorem dX8_write_32 : decode cX8_write 32 = .ok (.goto 5, 3) := by decide +kernel
theorem dX8_write_35 : decode cX8_write 35 = .ok (.bipush (-3), 2) := by decide +kernel
theorem dX8_write_37 : decode cX8_write 37 = .ok (.ireturn, 1) := by decide +kernel
theorem dX8_wipe_0 : decode cX8_wipe 0 = .ok (.aload_n 0, 1) := by decide +kernel
theorem dX8_wipe_1 : decode cX8_wipe 1 = .ok (.getfield 12, 3) := by decide +kernel
theorem dX8_wipe_4 : decode cX8_wipe 4 = .ok (.getfield 93, 3) := by decide +kernel
theorem dX8_wipe_7 : decode cX8_wipe 7 = .ok (.istore_n 1, 1) := by decide +kernel
theorem dX8_wipe_8 : decode cX8_wipe 8 = .ok (.aload_n 0, 1) := by decide +kernel
theorem dX8_wipe_9 : decode cX8_wipe 9 = .ok (.getfield 12, 3) := by decide +kernel
theorem dX8_wipe_12 : decode cX8_wipe 12 = .ok (.iconst 0, 1) := by decide +kernel
theorem dX8_wipe_13 : decode cX8_wipe 13 = .ok (.putfield 93, 3) := by decide +kernel
theorem dX8_wipe_16 : decode cX8_wipe 16 = .ok (.iload_n 1, 1) := by decide +kernel
theorem dX8_wipe_17 : decode cX8_wipe 17 = .ok (.ireturn, 1) := by decide +kernel
theorem dX8_fault_0 : decode cX8_fault 0 = .ok (.aload_n 0, 1) := by decide +kernel
theorem dX8_fault_1 : decode cX8_fault 1 = .ok (.getfield 12, 3) := by decide +kernel
theorem dX8_fault_4 : decode cX8_fault 4 = .ok (.aload_n 0, 1) := by decide +kernel
theorem dX8_fault_5 : decode cX8_fault 5 = .ok (.getfield 23, 3) := by decide +kernel
theorem dX8_fault_8 : decode cX8_fault 8 = .ok (.invokevirtual 89, 3) := by decide +kernel
theorem dX8_fault_11 : decode cX8_fault 11 = .ok (.ireturn, 1) := by decide +kernel
theorem dX8_lay_0 : decode cX8_lay 0 = .ok (.aload_n 0, 1) := by decide +kernel
theorem dX8_lay_1 : decode cX8_lay 1 = .ok (.getfield 12, 3) := by decide +kernel
theorem dX8_lay_4 : decode cX8_lay 4 = .ok (.aload_n 0, 1) := by decide +kernel
theorem dX8_lay_5 : decode cX8_lay 5 = .ok (.getfield 23, 3) := by decide +kernel
theorem dX8_lay_8 : decode cX8_lay 8 = .ok (.invokevirtual 89, 3) := by decide +kernel
theorem dX8_lay_11 : decode cX8_lay 11 = .ok (.bipush (-4), 2) := by decide +kernel
theorem dX8_lay_13 : decode cX8_lay 13 = .ok (.if_icmp .ne 23, 3) := by decide +kernel
theorem dX8_lay_16 : decode cX8_lay 16 = .ok (.aload_n 0, 1) := by decide +kernel
theorem dX8_lay_17 : decode cX8_lay 17 = .ok (.getfield 23, 3) := by decide +kernel
theorem dX8_lay_20 : decode cX8_lay 20 = .ok (.getfield 103, 3) := by decide +kernel
theorem dX8_lay_23 : decode cX8_lay 23 = .ok (.ifCond .eq 13, 3) := by decide +kernel
theorem dX8_lay_26 : decode cX8_lay 26 = .ok (.aload_n 0, 1) := by decide +kernel
theorem dX8_lay_27 : decode cX8_lay 27 = .ok (.getfield 23, 3) := by decide +kernel
theorem dX8_lay_30 : decode cX8_lay 30 = .ok (.getfield 106, 3) := by decide +kernel
theorem dX8_lay_33 : decode cX8_lay 33 = .ok (.ifCond .ne 6, 3) := by decide +kernel
theorem dX8_lay_36 : decode cX8_lay 36 = .ok (.bipush (-2), 2) := by decide +kernel
theorem dX8_lay_38 : decode cX8_lay 38 = .ok (.ireturn, 1) := by decide +kernel
theorem dX8_lay_39 : decode cX8_lay 39 = .ok (.aload_n 0, 1) := by decide +kernel
theorem dX8_lay_40 : decode cX8_lay 40 = .ok (.getfield 12, 3) := by decide +kernel
theorem dX8_lay_43 : decode cX8_lay 43 = .ok (.aload_n 0, 1) := by decide +kernel
theorem dX8_lay_44 : decode cX8_lay 44 = .ok (.getfield 19, 3) := by decide +kernel
theorem dX8_lay_47 : decode cX8_lay 47 = .ok (.invokevirtual 89, 3) := by decide +kernel
theorem dX8_lay_50 : decode cX8_lay 50 = .ok (.pop, 1) := by decide +kernel
theorem dX8_lay_51 : decode cX8_lay 51 = .ok (.aload_n 0, 1) := by decide +kernel
theorem dX8_lay_52 : decode cX8_lay 52 = .ok (.invokevirtual 96, 3) := by decide +kernel
theorem dX8_lay_55 : decode cX8_lay 55 = .ok (.aload_n 0, 1) := by decide +kernel
theorem dX8_lay_56 : decode cX8_lay 56 = .ok (.getfield 19, 3) := by decide +kernel
theorem dX8_lay_59 : decode cX8_lay 59 = .ok (.invokevirtual 109, 3) := by decide +kernel
theorem dX8_lay_62 : decode cX8_lay 62 = .ok (.ireturn, 1) := by decide +kernel
theorem dX8_far_0 : decode cX8_far 0 = .ok (.aload_n 0, 1) := by decide +kernel
theorem dX8_far_1 : decode cX8_far 1 = .ok (.getfield 19, 3) := by decide +kernel
theorem dX8_far_4 : decode cX8_far 4 = .ok (.iload_n 1, 1) := by decide +kernel
theorem dX8_far_5 : decode cX8_far 5 = .ok (.invokevirtual 112, 3) := by decide +kernel
theorem dX8_far_8 : decode cX8_far 8 = .ok (.ifCond .eq 26, 3) := by decide +kernel
theorem dX8_far_11 : decode cX8_far 11 = .ok (.aload_n 0, 1) := by decide +kernel
theorem dX8_far_12 : decode cX8_far 12 = .ok (.getfield 19, 3) := by decide +kernel
theorem dX8_far_15 : decode cX8_far 15 = .ok (.iload_n 2, 1) := by decide +kernel
theorem dX8_far_16 : decode cX8_far 16 = .ok (.invokevirtual 112, 3) := by decide +kernel
theorem dX8_far_19 : decode cX8_far 19 = .ok (.ifCond .eq 15, 3) := by decide +kernel
theorem dX8_far_22 : decode cX8_far 22 = .ok (.aload_n 0, 1) := by decide +kernel
theorem dX8_far_23 : decode cX8_far 23 = .ok (.getfield 19, 3) := by decide +kernel
theorem dX8_far_26 : decode cX8_far 26 = .ok (.iload_n 1, 1) := by decide +kernel
theorem dX8_far_27 : decode cX8_far 27 = .ok (.iload_n 2, 1) := by decide +kernel
theorem dX8_far_28 : decode cX8_far 28 = .ok (.invokevirtual 116, 3) := by decide +kernel
theorem dX8_far_31 : decode cX8_far 31 = .ok (.goto 4, 3) := by decide +kernel
theorem dX8_far_34 : decode cX8_far 34 = .ok (.iconst (-1), 1) := by decide +kernel
theorem dX8_far_35 : decode cX8_far 35 = .ok (.ireturn, 1) := by decide +kernel
theorem dX8_cab_0 : decode cX8_cab 0 = .ok (.aload_n 0, 1) := by decide +kernel
theorem dX8_cab_1 : decode cX8_cab 1 = .ok (.getfield 19, 3) := by decide +kernel
theorem dX8_cab_4 : decode cX8_cab 4 = .ok (.iload_n 1, 1) := by decide +kernel
theorem dX8_cab_5 : decode cX8_cab 5 = .ok (.invokevirtual 120, 3) := by decide +kernel
theorem dX8_cab_8 : decode cX8_cab 8 = .ok (.ifCond .ne 5, 3) := by decide +kernel
theorem dX8_cab_11 : decode cX8_cab 11 = .ok (.iconst (-1), 1) := by decide +kernel
theorem dX8_cab_12 : decode cX8_cab 12 = .ok (.ireturn, 1) := by decide +kernel
theorem dX8_cab_13 : decode cX8_cab 13 = .ok (.iload_n 2, 1) := by decide +kernel
theorem dX8_cab_14 : decode cX8_cab 14 = .ok (.tableswitch 70 0 3 #[30, 40, 50, 60], 30) := by decide +kernel
theorem dX8_cab_44 : decode cX8_cab 44 = .ok (.aload_n 0, 1) := by decide +kernel
theorem dX8_cab_45 : decode cX8_cab 45 = .ok (.getfield 19, 3) := by decide +kernel
theorem dX8_cab_48 : decode cX8_cab 48 = .ok (.getfield 123, 3) := by decide +kernel
theorem dX8_cab_51 : decode cX8_cab 51 = .ok (.iload_n 1, 1) := by decide +kernel
theorem dX8_cab_52 : decode cX8_cab 52 = .ok (.iaload, 1) := by decide +kernel
theorem dX8_cab_53 : decode cX8_cab 53 = .ok (.ireturn, 1) := by decide +kernel
theorem dX8_cab_54 : decode cX8_cab 54 = .ok (.aload_n 0, 1) := by decide +kernel
theorem dX8_cab_55 : decode cX8_cab 55 = .ok (.getfield 29, 3) := by decide +kernel
theorem dX8_cab_58 : decode cX8_cab 58 = .ok (.getfield 127, 3) := by decide +kernel
theorem dX8_cab_61 : decode cX8_cab 61 = .ok (.iload_n 1, 1) := by decide +kernel
theorem dX8_cab_62 : decode cX8_cab 62 = .ok (.iaload, 1) := by decide +kernel
theorem dX8_cab_63 : decode cX8_cab 63 = .ok (.ireturn, 1) := by decide +kernel
theorem dX8_cab_64 : decode cX8_cab 64 = .ok (.aload_n 0, 1) := by decide +kernel
theorem dX8_cab_65 : decode cX8_cab 65 = .ok (.getfield 29, 3) := by decide +kernel
theorem dX8_cab_68 : decode cX8_cab 68 = .ok (.getfield 130, 3) := by decide +kernel
theorem dX8_cab_71 : decode cX8_cab 71 = .ok (.iload_n 1, 1) := by decide +kernel
theorem dX8_cab_72 : decode cX8_cab 72 = .ok (.iaload, 1) := by decide +kernel
theorem dX8_cab_73 : decode cX8_cab 73 = .ok (.ireturn, 1) := by decide +kernel
theorem dX8_cab_74 : decode cX8_cab 74 = .ok (.aload_n 0, 1) := by decide +kernel
theorem dX8_cab_75 : decode cX8_cab 75 = .ok (.getfield 29, 3) := by decide +kernel
theorem dX8_cab_78 : decode cX8_cab 78 = .ok (.getfield 133, 3) := by decide +kernel
theorem dX8_cab_81 : decode cX8_cab 81 = .ok (.iload_n 1, 1) := by decide +kernel
theorem dX8_cab_82 : decode cX8_cab 82 = .ok (.iaload, 1) := by decide +kernel
theorem dX8_cab_83 : decode cX8_cab 83 = .ok (.ireturn, 1) := by decide +kernel
theorem dX8_cab_84 : decode cX8_cab 84 = .ok (.iconst (-1), 1) := by decide +kernel
theorem dX8_cab_85 : decode cX8_cab 85 = .ok (.ireturn, 1) := by decide +kernel
theorem dX8_fare_0 : decode cX8_fare 0 = .ok (.aload_n 0, 1) := by decide +kernel
theorem dX8_fare_1 : decode cX8_fare 1 = .ok (.getfield 19, 3) := by decide +kernel
theorem dX8_fare_4 : decode cX8_fare 4 = .ok (.iload_n 1, 1) := by decide +kernel
theorem dX8_fare_5 : decode cX8_fare 5 = .ok (.invokevirtual 136, 3) := by decide +kernel
theorem dX8_fare_8 : decode cX8_fare 8 = .ok (.ifCond .ne 5, 3) := by decide +kernel
theorem dX8_fare_11 : decode cX8_fare 11 = .ok (.iconst (-1), 1) := by decide +kernel
theorem dX8_fare_12 : decode cX8_fare 12 = .ok (.ireturn, 1) := by decide +kernel
theorem dX8_fare_13 : decode cX8_fare 13 = .ok (.iload_n 2, 1) := by decide +kernel
theorem dX8_fare_14 : decode cX8_fare 14 = .ok (.tableswitch 133 0 7 #[46, 56, 66, 76, 86, 96, 113, 123], 46) := by decide +kernel
theorem dX8_fare_60 : decode cX8_fare 60 = .ok (.aload_n 0, 1) := by decide +kernel
theorem dX8_fare_61 : decode cX8_fare 61 = .ok (.getfield 19, 3) := by decide +kernel
theorem dX8_fare_64 : decode cX8_fare 64 = .ok (.getfield 139, 3) := by decide +kernel
theorem dX8_fare_67 : decode cX8_fare 67 = .ok (.iload_n 1, 1) := by decide +kernel
theorem dX8_fare_68 : decode cX8_fare 68 = .ok (.iaload, 1) := by decide +kernel
theorem dX8_fare_69 : decode cX8_fare 69 = .ok (.ireturn, 1) := by decide +kernel
theorem dX8_fare_70 : decode cX8_fare 70 = .ok (.aload_n 0, 1) := by decide +kernel
theorem dX8_fare_71 : decode cX8_fare 71 = .ok (.getfield 19, 3) := by decide +kernel
theorem dX8_fare_74 : decode cX8_fare 74 = .ok (.getfield 142, 3) := by decide +kernel
theorem dX8_fare_77 : decode cX8_fare 77 = .ok (.iload_n 1, 1) := by decide +kernel
theorem dX8_fare_78 : decode cX8_fare 78 = .ok (.iaload, 1) := by decide +kernel
theorem dX8_fare_79 : decode cX8_fare 79 = .ok (.ireturn, 1) := by decide +kernel
theorem dX8_fare_80 : decode cX8_fare 80 = .ok (.aload_n 0, 1) := by decide +kernel
theorem dX8_fare_81 : decode cX8_fare 81 = .ok (.getfield 19, 3) := by decide +kernel
theorem dX8_fare_84 : decode cX8_fare 84 = .ok (.getfield 145, 3) := by decide +kernel
theorem dX8_fare_87 : decode cX8_fare 87 = .ok (.iload_n 1, 1) := by decide +kernel
theorem dX8_fare_88 : decode cX8_fare 88 = .ok (.iaload, 1) := by decide +kernel
theorem dX8_fare_89 : decode cX8_fare 89 = .ok (.ireturn, 1) := by decide +kernel
theorem dX8_fare_90 : decode cX8_fare 90 = .ok (.aload_n 0, 1) := by decide +kernel
theorem dX8_fare_91 : decode cX8_fare 91 = .ok (.getfield 19, 3) := by decide +kernel
theorem dX8_fare_94 : decode cX8_fare 94 = .ok (.getfield 148, 3) := by decide +kernel
theorem dX8_fare_97 : decode cX8_fare 97 = .ok (.iload_n 1, 1) := by decide +kernel
theorem dX8_fare_98 : decode cX8_fare 98 = .ok (.iaload, 1) := by decide +kernel
theorem dX8_fare_99 : decode cX8_fare 99 = .ok (.ireturn, 1) := by decide +kernel
theorem dX8_fare_100 : decode cX8_fare 100 = .ok (.aload_n 0, 1) := by decide +kernel
theorem dX8_fare_101 : decode cX8_fare 101 = .ok (.getfield 19, 3) := by decide +kernel
theorem dX8_fare_104 : decode cX8_fare 104 = .ok (.getfield 151, 3) := by decide +kernel
theorem dX8_fare_107 : decode cX8_fare 107 = .ok (.iload_n 1, 1) := by decide +kernel
theorem dX8_fare_108 : decode cX8_fare 108 = .ok (.iaload, 1) := by decide +kernel
theorem dX8_fare_109 : decode cX8_fare 109 = .ok (.ireturn, 1) := by decide +kernel
theorem dX8_fare_110 : decode cX8_fare 110 = .ok (.aload_n 0, 1) := by decide +kernel
theorem dX8_fare_111 : decode cX8_fare 111 = .ok (.getfield 29, 3) := by decide +kernel
theorem dX8_fare_114 : decode cX8_fare 114 = .ok (.iload_n 1, 1) := by decide +kernel
theorem dX8_fare_115 : decode cX8_fare 115 = .ok (.invokevirtual 154, 3) := by decide +kernel
theorem dX8_fare_118 : decode cX8_fare 118 = .ok (.ifCond .eq 7, 3) := by decide +kernel
theorem dX8_fare_121 : decode cX8_fare 121 = .ok (.iconst 1, 1) := by decide +kernel
theorem dX8_fare_122 : decode cX8_fare 122 = .ok (.goto 4, 3) := by decide +kernel
theorem dX8_fare_125 : decode cX8_fare 125 = .ok (.iconst 0, 1) := by decide +kernel
theorem dX8_fare_126 : decode cX8_fare 126 = .ok (.ireturn, 1) := by decide +kernel
theorem dX8_fare_127 : decode cX8_fare 127 = .ok (.aload_n 0, 1) := by decide +kernel
theorem dX8_fare_128 : decode cX8_fare 128 = .ok (.getfield 29, 3) := by decide +kernel
theorem dX8_fare_131 : decode cX8_fare 131 = .ok (.getfield 157, 3) := by decide +kernel
theorem dX8_fare_134 : decode cX8_fare 134 = .ok (.iload_n 1, 1) := by decide +kernel
theorem dX8_fare_135 : decode cX8_fare 135 = .ok (.iaload, 1) := by decide +kernel
theorem dX8_fare_136 : decode cX8_fare 136 = .ok (.ireturn, 1) := by decide +kernel
theorem dX8_fare_137 : decode cX8_fare 137 = .ok (.aload_n 0, 1) := by decide +kernel
theorem dX8_fare_138 : decode cX8_fare 138 = .ok (.getfield 29, 3) := by decide +kernel
theorem dX8_fare_141 : decode cX8_fare 141 = .ok (.getfield 160, 3) := by decide +kernel
theorem dX8_fare_144 : decode cX8_fare 144 = .ok (.iload_n 1, 1) := by decide +kernel
theorem dX8_fare_145 : decode cX8_fare 145 = .ok (.iaload, 1) := by decide +kernel
theorem dX8_fare_146 : decode cX8_fare 146 = .ok (.ireturn, 1) := by decide +kernel
theorem dX8_fare_147 : decode cX8_fare 147 = .ok (.iconst (-1), 1) := by decide +kernel
theorem dX8_fare_148 : decode cX8_fare 148 = .ok (.ireturn, 1) := by decide +kernel
theorem dX8_take_0 : decode cX8_take 0 = .ok (.aload_n 0, 1) := by decide +kernel
theorem dX8_take_1 : decode cX8_take 1 = .ok (.getfield 19, 3) := by decide +kernel
theorem dX8_take_4 : decode cX8_take 4 = .ok (.iload_n 1, 1) := by decide +kernel
theorem dX8_take_5 : decode cX8_take 5 = .ok (.invokevirtual 120, 3) := by decide +kernel
theorem dX8_take_8 : decode cX8_take 8 = .ok (.ifCond .eq 14, 3) := by decide +kernel
theorem dX8_take_11 : decode cX8_take 11 = .ok (.aload_n 0, 1) := by decide +kernel
theorem dX8_take_12 : decode cX8_take 12 = .ok (.getfield 19, 3) := by decide +kernel
theorem dX8_take_15 : decode cX8_take 15 = .ok (.iload_n 2, 1) := by decide +kernel
theorem dX8_take_16 : decode cX8_take 16 = .ok (.invokevirtual 136, 3) := by decide +kernel
theorem dX8_take_19 : decode cX8_take 19 = .ok (.ifCond .ne 5, 3) := by decide +kernel
theorem dX8_take_22 : decode cX8_take 22 = .ok (.iconst (-1), 1) := by decide +kernel
theorem dX8_take_23 : decode cX8_take 23 = .ok (.ireturn, 1) := by decide +kernel
theorem dX8_take_24 : decode cX8_take 24 = .ok (.aload_n 0, 1) := by decide +kernel
theorem dX8_take_25 : decode cX8_take 25 = .ok (.getfield 29, 3) := by decide +kernel
theorem dX8_take_28 : decode cX8_take 28 = .ok (.iload_n 2, 1) := by decide +kernel
theorem dX8_take_29 : decode cX8_take 29 = .ok (.invokevirtual 154, 3) := by decide +kernel
theorem dX8_take_32 : decode cX8_take 32 = .ok (.ifCond .eq 6, 3) := by decide +kernel
theorem dX8_take_35 : decode cX8_take 35 = .ok (.bipush (-2), 2) := by decide +kernel
theorem dX8_take_37 : decode cX8_take 37 = .ok (.ireturn, 1) := by decide +kernel
theorem dX8_take_38 : decode cX8_take 38 = .ok (.aload_n 0, 1) := by decide +kernel
theorem dX8_take_39 : decode cX8_take 39 = .ok (.getfield 41, 3) := by decide +kernel
theorem dX8_take_42 : decode cX8_take 42 = .ok (.aload_n 0, 1) := by decide +kernel
theorem dX8_take_43 : decode cX8_take 43 = .ok (.getfield 29, 3) := by decide +kernel
theorem dX8_take_46 : decode cX8_take 46 = .ok (.invokevirtual 163, 3) := by decide +kernel
theorem dX8_take_49 : decode cX8_take 49 = .ok (.aload_n 0, 1) := by decide +kernel
theorem dX8_take_50 : decode cX8_take 50 = .ok (.getfield 19, 3) := by decide +kernel
theorem dX8_take_53 : decode cX8_take 53 = .ok (.aload_n 0, 1) := by decide +kernel
theorem dX8_take_54 : decode cX8_take 54 = .ok (.getfield 29, 3) := by decide +kernel
theorem dX8_take_57 : decode cX8_take 57 = .ok (.iload_n 1, 1) := by decide +kernel
theorem dX8_take_58 : decode cX8_take 58 = .ok (.iload_n 2, 1) := by decide +kernel
theorem dX8_take_59 : decode cX8_take 59 = .ok (.invokevirtual 167, 3) := by decide +kernel
theorem dX8_take_62 : decode cX8_take 62 = .ok (.pop, 1) := by decide +kernel
theorem dX8_take_63 : decode cX8_take 63 = .ok (.aload_n 0, 1) := by decide +kernel
theorem dX8_take_64 : decode cX8_take 64 = .ok (.getfield 29, 3) := by decide +kernel
theorem dX8_take_67 : decode cX8_take 67 = .ok (.getfield 157, 3) := by decide +kernel
theorem dX8_take_70 : decode cX8_take 70 = .ok (.iload_n 2, 1) := by decide +kernel
theorem dX8_take_71 : decode cX8_take 71 = .ok (.iaload, 1) := by decide +kernel
theorem dX8_take_72 : decode cX8_take 72 = .ok (.ireturn, 1) := by decide +kernel
theorem dX8_send_0 : decode cX8_send 0 = .ok (.aload_n 0, 1) := by decide +kernel
theorem dX8_send_1 : decode cX8_send 1 = .ok (.getfield 19, 3) := by decide +kernel
theorem dX8_send_4 : decode cX8_send 4 = .ok (.iload_n 1, 1) := by decide +kernel
theorem dX8_send_5 : decode cX8_send 5 = .ok (.invokevirtual 120, 3) := by decide +kernel
theorem dX8_send_8 : decode cX8_send 8 = .ok (.ifCond .eq 14, 3) := by decide +kernel
theorem dX8_send_11 : decode cX8_send 11 = .ok (.aload_n 0, 1) := by decide +kernel
theorem dX8_send_12 : decode cX8_send 12 = .ok (.getfield 19, 3) := by decide +kernel
theorem dX8_send_15 : decode cX8_send 15 = .ok (.iload_n 2, 1) := by decide +kernel
theorem dX8_send_16 : decode cX8_send 16 = .ok (.invokevirtual 112, 3) := by decide +kernel
theorem dX8_send_19 : decode cX8_send 19 = .ok (.ifCond .ne 5, 3) := by decide +kernel
theorem dX8_send_22 : decode cX8_send 22 = .ok (.iconst (-1), 1) := by decide +kernel
theorem dX8_send_23 : decode cX8_send 23 = .ok (.ireturn, 1) := by decide +kernel
theorem dX8_send_24 : decode cX8_send 24 = .ok (.aload_n 0, 1) := by decide +kernel
theorem dX8_send_25 : decode cX8_send 25 = .ok (.getfield 41, 3) := by decide +kernel
theorem dX8_send_28 : decode cX8_send 28 = .ok (.aload_n 0, 1) := by decide +kernel
theorem dX8_send_29 : decode cX8_send 29 = .ok (.getfield 29, 3) := by decide +kernel
theorem dX8_send_32 : decode cX8_send 32 = .ok (.invokevirtual 163, 3) := by decide +kernel
theorem dX8_send_35 : decode cX8_send 35 = .ok (.aload_n 0, 1) := by decide +kernel
theorem dX8_send_36 : decode cX8_send 36 = .ok (.getfield 19, 3) := by decide +kernel
theorem dX8_send_39 : decode cX8_send 39 = .ok (.aload_n 0, 1) := by decide +kernel
theorem dX8_send_40 : decode cX8_send 40 = .ok (.getfield 29, 3) := by decide +kernel
theorem dX8_send_43 : decode cX8_send 43 = .ok (.iload_n 1, 1) := by decide +kernel
theorem dX8_send_44 : decode cX8_send 44 = .ok (.iload_n 2, 1) := by decide +kernel
theorem dX8_send_45 : decode cX8_send 45 = .ok (.invokevirtual 171, 3) := by decide +kernel
theorem dX8_send_48 : decode cX8_send 48 = .ok (.aload_n 0, 1) := by decide +kernel
theorem dX8_send_49 : decode cX8_send 49 = .ok (.getfield 29, 3) := by decide +kernel
theorem dX8_send_52 : decode cX8_send 52 = .ok (.getfield 130, 3) := by decide +kernel
theorem dX8_send_55 : decode cX8_send 55 = .ok (.iload_n 1, 1) := by decide +kernel
theorem dX8_send_56 : decode cX8_send 56 = .ok (.iaload, 1) := by decide +kernel
theorem dX8_send_57 : decode cX8_send 57 = .ok (.ireturn, 1) := by decide +kernel
theorem dX8_pass_0 : decode cX8_pass 0 = .ok (.iload_n 1, 1) := by decide +kernel
theorem dX8_pass_1 : decode cX8_pass 1 = .ok (.iconst 1, 1) := by decide +kernel
theorem dX8_pass_2 : decode cX8_pass 2 = .ok (.bipush 60, 2) := by decide +kernel
theorem dX8_pass_4 : decode cX8_pass 4 = .ok (.invokestatic 99, 3) := by decide +kernel
theorem dX8_pass_7 : decode cX8_pass 7 = .ok (.ifCond .ne 5, 3) := by decide +kernel
theorem dX8_pass_10 : decode cX8_pass 10 = .ok (.iconst (-1), 1) := by decide +kernel
theorem dX8_pass_11 : decode cX8_pass 11 = .ok (.ireturn, 1) := by decide +kernel
theorem dX8_pass_12 : decode cX8_pass 12 = .ok (.aload_n 0, 1) := by decide +kernel
theorem dX8_pass_13 : decode cX8_pass 13 = .ok (.getfield 41, 3) := by decide +kernel
theorem dX8_pass_16 : decode cX8_pass 16 = .ok (.aload_n 0, 1) := by decide +kernel
theorem dX8_pass_17 : decode cX8_pass 17 = .ok (.getfield 29, 3) := by decide +kernel
theorem dX8_pass_20 : decode cX8_pass 20 = .ok (.invokevirtual 163, 3) := by decide +kernel
theorem dX8_pass_23 : decode cX8_pass 23 = .ok (.aload_n 0, 1) := by decide +kernel
theorem dX8_pass_24 : decode cX8_pass 24 = .ok (.getfield 29, 3) := by decide +kernel
theorem dX8_pass_27 : decode cX8_pass 27 = .ok (.dup, 1) := by decide +kernel
theorem dX8_pass_28 : decode cX8_pass 28 = .ok (.getfield 175, 3) := by decide +kernel
theorem dX8_pass_31 : decode cX8_pass 31 = .ok (.iload_n 1, 1) := by decide +kernel
theorem dX8_pass_32 : decode cX8_pass 32 = .ok (.iadd, 1) := by decide +kernel
theorem dX8_pass_33 : decode cX8_pass 33 = .ok (.putfield 175, 3) := by decide +kernel
theorem dX8_pass_36 : decode cX8_pass 36 = .ok (.aload_n 0, 1) := by decide +kernel
theorem dX8_pass_37 : decode cX8_pass 37 = .ok (.getfield 29, 3) := by decide +kernel
theorem dX8_pass_40 : decode cX8_pass 40 = .ok (.getfield 175, 3) := by decide +kernel
theorem dX8_pass_43 : decode cX8_pass 43 = .ok (.ireturn, 1) := by decide +kernel
theorem dX8_undo_0 : decode cX8_undo 0 = .ok (.aload_n 0, 1) := by decide +kernel
theorem dX8_undo_1 : decode cX8_undo 1 = .ok (.getfield 41, 3) := by decide +kernel
theorem dX8_undo_4 : decode cX8_undo 4 = .ok (.aload_n 0, 1) := by decide +kernel
theorem dX8_undo_5 : decode cX8_undo 5 = .ok (.getfield 29, 3) := by decide +kernel
theorem dX8_undo_8 : decode cX8_undo 8 = .ok (.invokevirtual 178, 3) := by decide +kernel
theorem dX8_undo_11 : decode cX8_undo 11 = .ok (.ifCond .eq 13, 3) := by decide +kernel
theorem dX8_undo_14 : decode cX8_undo 14 = .ok (.aload_n 0, 1) := by decide +kernel
theorem dX8_undo_15 : decode cX8_undo 15 = .ok (.getfield 41, 3) := by decide +kernel
theorem dX8_undo_18 : decode cX8_undo 18 = .ok (.getfield 182, 3) := by decide +kernel
theorem dX8_undo_21 : decode cX8_undo 21 = .ok (.goto 5, 3) := by decide +kernel
theorem dX8_undo_24 : decode cX8_undo 24 = .ok (.bipush (-2), 2) := by decide +kernel
theorem dX8_undo_26 : decode cX8_undo 26 = .ok (.ireturn, 1) := by decide +kernel
theorem dX8_ride_0 : decode cX8_ride 0 = .ok (.aload_n 0, 1) := by decide +kernel
theorem dX8_ride_1 : decode cX8_ride 1 = .ok (.getfield 19, 3) := by decide +kernel
theorem dX8_ride_4 : decode cX8_ride 4 = .ok (.iload_n 1, 1) := by decide +kernel
theorem dX8_ride_5 : decode cX8_ride 5 = .ok (.invokevirtual 120, 3) := by decide +kernel
theorem dX8_ride_8 : decode cX8_ride 8 = .ok (.ifCond .eq 14, 3) := by decide +kernel
theorem dX8_ride_11 : decode cX8_ride 11 = .ok (.aload_n 0, 1) := by decide +kernel
theorem dX8_ride_12 : decode cX8_ride 12 = .ok (.getfield 19, 3) := by decide +kernel
theorem dX8_ride_15 : decode cX8_ride 15 = .ok (.iload_n 2, 1) := by decide +kernel
theorem dX8_ride_16 : decode cX8_ride 16 = .ok (.invokevirtual 136, 3) := by decide +kernel
theorem dX8_ride_19 : decode cX8_ride 19 = .ok (.ifCond .ne 5, 3) := by decide +kernel
theorem dX8_ride_22 : decode cX8_ride 22 = .ok (.iconst (-1), 1) := by decide +kernel
theorem dX8_ride_23 : decode cX8_ride 23 = .ok (.ireturn, 1) := by decide +kernel
theorem dX8_ride_24 : decode cX8_ride 24 = .ok (.aload_n 0, 1) := by decide +kernel
theorem dX8_ride_25 : decode cX8_ride 25 = .ok (.getfield 19, 3) := by decide +kernel
theorem dX8_ride_28 : decode cX8_ride 28 = .ok (.aload_n 0, 1) := by decide +kernel
theorem dX8_ride_29 : decode cX8_ride 29 = .ok (.getfield 29, 3) := by decide +kernel
theorem dX8_ride_32 : decode cX8_ride 32 = .ok (.iload_n 1, 1) := by decide +kernel
theorem dX8_ride_33 : decode cX8_ride 33 = .ok (.iload_n 2, 1) := by decide +kernel
theorem dX8_ride_34 : decode cX8_ride 34 = .ok (.invokevirtual 185, 3) := by decide +kernel
theorem dX8_ride_37 : decode cX8_ride 37 = .ok (.iload_n 3, 1) := by decide +kernel
theorem dX8_ride_38 : decode cX8_ride 38 = .ok (.tableswitch 90 0 3 #[30, 41, 52, 71], 30) := by decide +kernel
theorem dX8_ride_68 : decode cX8_ride 68 = .ok (.aload_n 0, 1) := by decide +kernel
theorem dX8_ride_69 : decode cX8_ride 69 = .ok (.getfield 19, 3) := by decide +kernel
theorem dX8_ride_72 : decode cX8_ride 72 = .ok (.getfield 188, 3) := by decide +kernel
theorem dX8_ride_75 : decode cX8_ride 75 = .ok (.getfield 192, 3) := by decide +kernel
theorem dX8_ride_78 : decode cX8_ride 78 = .ok (.ireturn, 1) := by decide +kernel
theorem dX8_ride_79 : decode cX8_ride 79 = .ok (.aload_n 0, 1) := by decide +kernel
theorem dX8_ride_80 : decode cX8_ride 80 = .ok (.getfield 19, 3) := by decide +kernel
theorem dX8_ride_83 : decode cX8_ride 83 = .ok (.getfield 188, 3) := by decide +kernel
theorem dX8_ride_86 : decode cX8_ride 86 = .ok (.getfield 196, 3) := by decide +kernel
theorem dX8_ride_89 : decode cX8_ride 89 = .ok (.ireturn, 1) := by decide +kernel
theorem dX8_ride_90 : decode cX8_ride 90 = .ok (.aload_n 0, 1) := by decide +kernel
theorem dX8_ride_91 : decode cX8_ride 91 = .ok (.getfield 19, 3) := by decide +kernel
theorem dX8_ride_94 : decode cX8_ride 94 = .ok (.getfield 188, 3) := by decide +kernel
theorem dX8_ride_97 : decode cX8_ride 97 = .ok (.getfield 198, 3) := by decide +kernel
theorem dX8_ride_100 : decode cX8_ride 100 = .ok (.ifCond .eq 7, 3) := by decide +kernel
theorem dX8_ride_103 : decode cX8_ride 103 = .ok (.iconst 1, 1) := by decide +kernel
theorem dX8_ride_104 : decode cX8_ride 104 = .ok (.goto 4, 3) := by decide +kernel
theorem dX8_ride_107 : decode cX8_ride 107 = .ok (.iconst 0, 1) := by decide +kernel
theorem dX8_ride_108 : decode cX8_ride 108 = .ok (.ireturn, 1) := by decide +kernel
theorem dX8_ride_109 : decode cX8_ride 109 = .ok (.aload_n 0, 1) := by decide +kernel
theorem dX8_ride_110 : decode cX8_ride 110 = .ok (.getfield 19, 3) := by decide +kernel
theorem dX8_ride_113 : decode cX8_ride 113 = .ok (.getfield 188, 3) := by decide +kernel
theorem dX8_ride_116 : decode cX8_ride 116 = .ok (.getfield 202, 3) := by decide +kernel
theorem dX8_ride_119 : decode cX8_ride 119 = .ok (.ifCond .eq 7, 3) := by decide +kernel
theorem dX8_ride_122 : decode cX8_ride 122 = .ok (.iconst 1, 1) := by decide +kernel
theorem dX8_ride_123 : decode cX8_ride 123 = .ok (.goto 4, 3) := by decide +kernel
theorem dX8_ride_126 : decode cX8_ride 126 = .ok (.iconst 0, 1) := by decide +kernel
theorem dX8_ride_127 : decode cX8_ride 127 = .ok (.ireturn, 1) := by decide +kernel
theorem dX8_ride_128 : decode cX8_ride 128 = .ok (.iconst (-1), 1) := by decide +kernel
theorem dX8_ride_129 : decode cX8_ride 129 = .ok (.ireturn, 1) := by decide +kernel
theorem dX8_soonest_0 : decode cX8_soonest 0 = .ok (.aload_n 0, 1) := by decide +kernel
theorem dX8_soonest_1 : decode cX8_soonest 1 = .ok (.getfield 19, 3) := by decide +kernel
theorem dX8_soonest_4 : decode cX8_soonest 4 = .ok (.iload_n 1, 1) := by decide +kernel
theorem dX8_soonest_5 : decode cX8_soonest 5 = .ok (.invokevirtual 136, 3) := by decide +kernel
theorem dX8_soonest_8 : decode cX8_soonest 8 = .ok (.ifCond .eq 18, 3) := by decide +kernel
theorem dX8_soonest_11 : decode cX8_soonest 11 = .ok (.aload_n 0, 1) := by decide +kernel
theorem dX8_soonest_12 : decode cX8_soonest 12 = .ok (.getfield 19, 3) := by decide +kernel
theorem dX8_soonest_15 : decode cX8_soonest 15 = .ok (.aload_n 0, 1) := by decide +kernel
theorem dX8_soonest_16 : decode cX8_soonest 16 = .ok (.getfield 29, 3) := by decide +kernel
theorem dX8_soonest_19 : decode cX8_soonest 19 = .ok (.iload_n 1, 1) := by decide +kernel
theorem dX8_soonest_20 : decode cX8_soonest 20 = .ok (.invokevirtual 205, 3) := by decide +kernel
theorem dX8_soonest_23 : decode cX8_soonest 23 = .ok (.goto 4, 3) := by decide +kernel
theorem dX8_soonest_26 : decode cX8_soonest 26 = .ok (.iconst (-1), 1) := by decide +kernel
theorem dX8_soonest_27 : decode cX8_soonest 27 = .ok (.ireturn, 1) := by decide +kernel
theorem dX8_order_0 : decode cX8_order 0 = .ok (.iload_n 1, 1) := by decide +kernel
theorem dX8_order_1 : decode cX8_order 1 = .ok (.iconst 0, 1) := by decide +kernel
theorem dX8_order_2 : decode cX8_order 2 = .ok (.bipush 7, 2) := by decide +kernel
theorem dX8_order_4 : decode cX8_order 4 = .ok (.invokestatic 99, 3) := by decide +kernel
theorem dX8_order_7 : decode cX8_order 7 = .ok (.ifCond .ne 5, 3) := by decide +kernel
theorem dX8_order_10 : decode cX8_order 10 = .ok (.iconst (-1), 1) := by decide +kernel
theorem dX8_order_11 : decode cX8_order 11 = .ok (.ireturn, 1) := by decide +kernel
theorem dX8_order_12 : decode cX8_order 12 = .ok (.aload_n 0, 1) := by decide +kernel
theorem dX8_order_13 : decode cX8_order 13 = .ok (.getfield 58, 3) := by decide +kernel
theorem dX8_order_16 : decode cX8_order 16 = .ok (.aload_n 0, 1) := by decide +kernel
theorem dX8_order_17 : decode cX8_order 17 = .ok (.getfield 19, 3) := by decide +kernel
theorem dX8_order_20 : decode cX8_order 20 = .ok (.aload_n 0, 1) := by decide +kernel
theorem dX8_order_21 : decode cX8_order 21 = .ok (.getfield 29, 3) := by decide +kernel
theorem dX8_order_24 : decode cX8_order 24 = .ok (.invokevirtual 209, 3) := by decide +kernel
theorem dX8_order_27 : decode cX8_order 27 = .ok (.iload_n 1, 1) := by decide +kernel
theorem dX8_order_28 : decode cX8_order 28 = .ok (.ifCond .ne 11, 3) := by decide +kernel
theorem dX8_order_31 : decode cX8_order 31 = .ok (.aload_n 0, 1) := by decide +kernel
theorem dX8_order_32 : decode cX8_order 32 = .ok (.getfield 58, 3) := by decide +kernel
theorem dX8_order_35 : decode cX8_order 35 = .ok (.getfield 213, 3) := by decide +kernel
theorem dX8_order_38 : decode cX8_order 38 = .ok (.ireturn, 1) := by decide +kernel
theorem dX8_order_39 : decode cX8_order 39 = .ok (.iload_n 1, 1) := by decide +kernel
theorem dX8_order_40 : decode cX8_order 40 = .ok (.aload_n 0, 1) := by decide +kernel
theorem dX8_order_41 : decode cX8_order 41 = .ok (.getfield 58, 3) := by decide +kernel
theorem dX8_order_44 : decode cX8_order 44 = .ok (.getfield 216, 3) := by decide +kernel
theorem dX8_order_47 : decode cX8_order 47 = .ok (.if_icmp .gt 17, 3) := by decide +kernel
theorem dX8_order_50 : decode cX8_order 50 = .ok (.aload_n 0, 1) := by decide +kernel
theorem dX8_order_51 : decode cX8_order 51 = .ok (.getfield 58, 3) := by decide +kernel
theorem dX8_order_54 : decode cX8_order 54 = .ok (.getfield 217, 3) := by decide +kernel
theorem dX8_order_57 : decode cX8_order 57 = .ok (.iload_n 1, 1) := by decide +kernel
theorem dX8_order_58 : decode cX8_order 58 = .ok (.iconst 1, 1) := by decide +kernel
theorem dX8_order_59 : decode cX8_order 59 = .ok (.isub, 1) := by decide +kernel
theorem dX8_order_60 : decode cX8_order 60 = .ok (.iaload, 1) := by decide +kernel
theorem dX8_order_61 : decode cX8_order 61 = .ok (.goto 5, 3) := by decide +kernel
theorem dX8_order_64 : decode cX8_order 64 = .ok (.bipush (-4), 2) := by decide +kernel
theorem dX8_order_66 : decode cX8_order 66 = .ok (.ireturn, 1) := by decide +kernel
theorem dX8_waiting_0 : decode cX8_waiting 0 = .ok (.aload_n 0, 1) := by decide +kernel
theorem dX8_waiting_1 : decode cX8_waiting 1 = .ok (.getfield 19, 3) := by decide +kernel
theorem dX8_waiting_4 : decode cX8_waiting 4 = .ok (.iload_n 1, 1) := by decide +kernel
theorem dX8_waiting_5 : decode cX8_waiting 5 = .ok (.invokevirtual 120, 3) := by decide +kernel
theorem dX8_waiting_8 : decode cX8_waiting 8 = .ok (.ifCond .eq 12, 3) := by decide +kernel
theorem dX8_waiting_11 : decode cX8_waiting 11 = .ok (.iload_n 2, 1) := by decide +kernel
theorem dX8_waiting_12 : decode cX8_waiting 12 = .ok (.iconst 0, 1) := by decide +kernel
theorem dX8_waiting_13 : decode cX8_waiting 13 = .ok (.iconst 1, 1) := by decide +kernel
theorem dX8_waiting_14 : decode cX8_waiting 14 = .ok (.invokestatic 99, 3) := by decide +kernel
theorem dX8_waiting_17 : decode cX8_waiting 17 = .ok (.ifCond .ne 5, 3) := by decide +kernel
theorem dX8_waiting_20 : decode cX8_waiting 20 = .ok (.iconst (-1), 1) := by decide +kernel
theorem dX8_waiting_21 : decode cX8_waiting 21 = .ok (.ireturn, 1) := by decide +kernel
theorem dX8_waiting_22 : decode cX8_waiting 22 = .ok (.iconst 0, 1) := by decide +kernel
theorem dX8_waiting_23 : decode cX8_waiting 23 = .ok (.istore_n 3, 1) := by decide +kernel
theorem dX8_waiting_24 : decode cX8_waiting 24 = .ok (.aload_n 0, 1) := by decide +kernel
theorem dX8_waiting_25 : decode cX8_waiting 25 = .ok (.iload_n 1, 1) := by decide +kernel
theorem dX8_waiting_26 : decode cX8_waiting 26 = .ok (.iconst 0, 1) := by decide +kernel
theorem dX8_waiting_27 : decode cX8_waiting 27 = .ok (.invokevirtual 220, 3) := by decide +kernel
theorem dX8_waiting_30 : decode cX8_waiting 30 = .ok (.istore 4, 2) := by decide +kernel
theorem dX8_waiting_32 : decode cX8_waiting 32 = .ok (.iconst 1, 1) := by decide +kernel
theorem dX8_waiting_33 : decode cX8_waiting 33 = .ok (.istore 5, 2) := by decide +kernel
theorem dX8_waiting_35 : decode cX8_waiting 35 = .ok (.iload 5, 2) := by decide +kernel
theorem dX8_waiting_37 : decode cX8_waiting 37 = .ok (.aload_n 0, 1) := by decide +kernel
theorem dX8_waiting_38 : decode cX8_waiting 38 = .ok (.getfield 19, 3) := by decide +kernel
theorem dX8_waiting_41 : decode cX8_waiting 41 = .ok (.invokevirtual 109, 3) := by decide +kernel
theorem dX8_waiting_44 : decode cX8_waiting 44 = .ok (.if_icmp .ge 32, 3) := by decide +kernel
theorem dX8_waiting_47 : decode cX8_waiting 47 = .ok (.aload_n 0, 1) := by decide +kernel
theorem dX8_waiting_48 : decode cX8_waiting 48 = .ok (.iload_n 1, 1) := by decide +kernel
theorem dX8_waiting_49 : decode cX8_waiting 49 = .ok (.iload 5, 2) := by decide +kernel
theorem dX8_waiting_51 : decode cX8_waiting 51 = .ok (.invokevirtual 220, 3) := by decide +kernel
theorem dX8_waiting_54 : decode cX8_waiting 54 = .ok (.istore 6, 2) := by decide +kernel
theorem dX8_waiting_56 : decode cX8_waiting 56 = .ok (.iload 6, 2) := by decide +kernel
theorem dX8_waiting_58 : decode cX8_waiting 58 = .ok (.iload 4, 2) := by decide +kernel
theorem dX8_waiting_60 : decode cX8_waiting 60 = .ok (.if_icmp .ge 10, 3) := by decide +kernel
theorem dX8_waiting_63 : decode cX8_waiting 63 = .ok (.iload 6, 2) := by decide +kernel
theorem dX8_waiting_65 : decode cX8_waiting 65 = .ok (.istore 4, 2) := by decide +kernel
theorem dX8_waiting_67 : decode cX8_waiting 67 = .ok (.iload 5, 2) := by decide +kernel
theorem dX8_waiting_69 : decode cX8_waiting 69 = .ok (.istore_n 3, 1) := by decide +kernel
theorem dX8_waiting_70 : decode cX8_waiting 70 = .ok (.iinc 5 1, 3) := by decide +kernel
theorem dX8_waiting_73 : decode cX8_waiting 73 = .ok (.goto (-38), 3) := by decide +kernel
theorem dX8_waiting_76 : decode cX8_waiting 76 = .ok (.iload_n 2, 1) := by decide +kernel
theorem dX8_waiting_77 : decode cX8_waiting 77 = .ok (.ifCond .ne 7, 3) := by decide +kernel
theorem dX8_waiting_80 : decode cX8_waiting 80 = .ok (.iload_n 3, 1) := by decide +kernel
theorem dX8_waiting_81 : decode cX8_waiting 81 = .ok (.goto 5, 3) := by decide +kernel
theorem dX8_waiting_84 : decode cX8_waiting 84 = .ok (.iload 4, 2) := by decide +kernel
theorem dX8_waiting_86 : decode cX8_waiting 86 = .ok (.ireturn, 1) := by decide +kernel
theorem dX8_round_0 : decode cX8_round 0 = .ok (.iload_n 1, 1) := by decide +kernel
theorem dX8_round_1 : decode cX8_round 1 = .ok (.iconst 0, 1) := by decide +kernel
theorem dX8_round_2 : decode cX8_round 2 = .ok (.iconst 1, 1) := by decide +kernel
theorem dX8_round_3 : decode cX8_round 3 = .ok (.invokestatic 99, 3) := by decide +kernel
theorem dX8_round_6 : decode cX8_round 6 = .ok (.ifCond .ne 5, 3) := by decide +kernel
theorem dX8_round_9 : decode cX8_round 9 = .ok (.iconst (-1), 1) := by decide +kernel
theorem dX8_round_10 : decode cX8_round 10 = .ok (.ireturn, 1) := by decide +kernel
theorem dX8_round_11 : decode cX8_round 11 = .ok (.aload_n 0, 1) := by decide +kernel
theorem dX8_round_12 : decode cX8_round 12 = .ok (.getfield 33, 3) := by decide +kernel
theorem dX8_round_15 : decode cX8_round 15 = .ok (.aload_n 0, 1) := by decide +kernel
theorem dX8_round_16 : decode cX8_round 16 = .ok (.getfield 29, 3) := by decide +kernel
theorem dX8_round_19 : decode cX8_round 19 = .ok (.invokevirtual 223, 3) := by decide +kernel
theorem dX8_round_22 : decode cX8_round 22 = .ok (.aload_n 0, 1) := by decide +kernel
theorem dX8_round_23 : decode cX8_round 23 = .ok (.getfield 69, 3) := by decide +kernel
theorem dX8_round_26 : decode cX8_round 26 = .ok (.iconst 0, 1) := by decide +kernel
theorem dX8_round_27 : decode cX8_round 27 = .ok (.aload_n 0, 1) := by decide +kernel
theorem dX8_round_28 : decode cX8_round 28 = .ok (.getfield 33, 3) := by decide +kernel
theorem dX8_round_31 : decode cX8_round 31 = .ok (.invokevirtual 226, 3) := by decide +kernel
theorem dX8_round_34 : decode cX8_round 34 = .ok (.lastore, 1) := by decide +kernel
theorem dX8_round_35 : decode cX8_round 35 = .ok (.iconst 1, 1) := by decide +kernel
theorem dX8_round_36 : decode cX8_round 36 = .ok (.istore_n 2, 1) := by decide +kernel
theorem dX8_round_37 : decode cX8_round 37 = .ok (.iload_n 2, 1) := by decide +kernel
theorem dX8_round_38 : decode cX8_round 38 = .ok (.bipush 40, 2) := by decide +kernel
theorem dX8_round_40 : decode cX8_round 40 = .ok (.if_icmp .gt 47, 3) := by decide +kernel
theorem dX8_round_43 : decode cX8_round 43 = .ok (.aload_n 0, 1) := by decide +kernel
theorem dX8_round_44 : decode cX8_round 44 = .ok (.invokevirtual 230, 3) := by decide +kernel
theorem dX8_round_47 : decode cX8_round 47 = .ok (.aload_n 0, 1) := by decide +kernel
theorem dX8_round_48 : decode cX8_round 48 = .ok (.getfield 69, 3) := by decide +kernel
theorem dX8_round_51 : decode cX8_round 51 = .ok (.iload_n 2, 1) := by decide +kernel
theorem dX8_round_52 : decode cX8_round 52 = .ok (.aload_n 0, 1) := by decide +kernel
theorem dX8_round_53 : decode cX8_round 53 = .ok (.getfield 33, 3) := by decide +kernel
theorem dX8_round_56 : decode cX8_round 56 = .ok (.invokevirtual 226, 3) := by decide +kernel
theorem dX8_round_59 : decode cX8_round 59 = .ok (.lastore, 1) := by decide +kernel
theorem dX8_round_60 : decode cX8_round 60 = .ok (.aload_n 0, 1) := by decide +kernel
theorem dX8_round_61 : decode cX8_round 61 = .ok (.iload_n 2, 1) := by decide +kernel
theorem dX8_round_62 : decode cX8_round 62 = .ok (.invokevirtual 233, 3) := by decide +kernel
theorem dX8_round_65 : decode cX8_round 65 = .ok (.istore_n 3, 1) := by decide +kernel
theorem dX8_round_66 : decode cX8_round 66 = .ok (.iload_n 3, 1) := by decide +kernel
theorem dX8_round_67 : decode cX8_round 67 = .ok (.iload_n 2, 1) := by decide +kernel
theorem dX8_round_68 : decode cX8_round 68 = .ok (.if_icmp .ge 13, 3) := by decide +kernel
theorem dX8_round_71 : decode cX8_round 71 = .ok (.iload_n 1, 1) := by decide +kernel
theorem dX8_round_72 : decode cX8_round 72 = .ok (.ifCond .ne 7, 3) := by decide +kernel
theorem dX8_round_75 : decode cX8_round 75 = .ok (.iload_n 2, 1) := by decide +kernel
theorem dX8_round_76 : decode cX8_round 76 = .ok (.goto 4, 3) := by decide +kernel
theorem dX8_round_79 : decode cX8_round 79 = .ok (.iload_n 3, 1) := by decide +kernel
theorem dX8_round_80 : decode cX8_round 80 = .ok (.ireturn, 1) := by decide +kernel
theorem dX8_round_81 : decode cX8_round 81 = .ok (.iinc 2 1, 3) := by decide +kernel
theorem dX8_round_84 : decode cX8_round 84 = .ok (.goto (-47), 3) := by decide +kernel
theorem dX8_round_87 : decode cX8_round 87 = .ok (.bipush (-4), 2) := by decide +kernel
theorem dX8_round_89 : decode cX8_round 89 = .ok (.ireturn, 1) := by decide +kernel
theorem dX8_mends_0 : decode cX8_mends 0 = .ok (.aload_n 0, 1) := by decide +kernel
theorem dX8_mends_1 : decode cX8_mends 1 = .ok (.getfield 19, 3) := by decide +kernel
theorem dX8_mends_4 : decode cX8_mends 4 = .ok (.iload_n 1, 1) := by decide +kernel
theorem dX8_mends_5 : decode cX8_mends 5 = .ok (.invokevirtual 136, 3) := by decide +kernel
theorem dX8_mends_8 : decode cX8_mends 8 = .ok (.ifCond .ne 5, 3) := by decide +kernel
theorem dX8_mends_11 : decode cX8_mends 11 = .ok (.iconst (-1), 1) := by decide +kernel
theorem dX8_mends_12 : decode cX8_mends 12 = .ok (.ireturn, 1) := by decide +kernel
theorem dX8_mends_13 : decode cX8_mends 13 = .ok (.aload_n 0, 1) := by decide +kernel
theorem dX8_mends_14 : decode cX8_mends 14 = .ok (.getfield 29, 3) := by decide +kernel
theorem dX8_mends_17 : decode cX8_mends 17 = .ok (.iload_n 1, 1) := by decide +kernel
theorem dX8_mends_18 : decode cX8_mends 18 = .ok (.invokevirtual 154, 3) := by decide +kernel
theorem dX8_mends_21 : decode cX8_mends 21 = .ok (.ifCond .ne 16, 3) := by decide +kernel
theorem dX8_mends_24 : decode cX8_mends 24 = .ok (.aload_n 0, 1) := by decide +kernel
theorem dX8_mends_25 : decode cX8_mends 25 = .ok (.getfield 19, 3) := by decide +kernel
theorem dX8_mends_28 : decode cX8_mends 28 = .ok (.getfield 139, 3) := by decide +kernel
theorem dX8_mends_31 : decode cX8_mends 31 = .ok (.iload_n 1, 1) := by decide +kernel
theorem dX8_mends_32 : decode cX8_mends 32 = .ok (.iaload, 1) := by decide +kernel
theorem dX8_mends_33 : decode cX8_mends 33 = .ok (.iconst 3, 1) := by decide +kernel
theorem dX8_mends_34 : decode cX8_mends 34 = .ok (.if_icmp .eq 6, 3) := by decide +kernel
theorem dX8_mends_37 : decode cX8_mends 37 = .ok (.bipush (-2), 2) := by decide +kernel
theorem dX8_mends_39 : decode cX8_mends 39 = .ok (.ireturn, 1) := by decide +kernel
theorem dX8_mends_40 : decode cX8_mends 40 = .ok (.aload_n 0, 1) := by decide +kernel
theorem dX8_mends_41 : decode cX8_mends 41 = .ok (.getfield 33, 3) := by decide +kernel
theorem dX8_mends_44 : decode cX8_mends 44 = .ok (.aload_n 0, 1) := by decide +kernel
theorem dX8_mends_45 : decode cX8_mends 45 = .ok (.getfield 29, 3) := by decide +kernel
theorem dX8_mends_48 : decode cX8_mends 48 = .ok (.invokevirtual 223, 3) := by decide +kernel
theorem dX8_mends_51 : decode cX8_mends 51 = .ok (.aload_n 0, 1) := by decide +kernel
theorem dX8_mends_52 : decode cX8_mends 52 = .ok (.iload_n 1, 1) := by decide +kernel
theorem dX8_mends_53 : decode cX8_mends 53 = .ok (.invokevirtual 237, 3) := by decide +kernel
theorem dX8_mends_56 : decode cX8_mends 56 = .ok (.istore_n 2, 1) := by decide +kernel
theorem dX8_mends_57 : decode cX8_mends 57 = .ok (.aload_n 0, 1) := by decide +kernel
theorem dX8_mends_58 : decode cX8_mends 58 = .ok (.getfield 33, 3) := by decide +kernel
theorem dX8_mends_61 : decode cX8_mends 61 = .ok (.aload_n 0, 1) := by decide +kernel
theorem dX8_mends_62 : decode cX8_mends 62 = .ok (.getfield 29, 3) := by decide +kernel
theorem dX8_mends_65 : decode cX8_mends 65 = .ok (.invokevirtual 223, 3) := by decide +kernel
theorem dX8_mends_68 : decode cX8_mends 68 = .ok (.aload_n 0, 1) := by decide +kernel
theorem dX8_mends_69 : decode cX8_mends 69 = .ok (.getfield 19, 3) := by decide +kernel
theorem dX8_mends_72 : decode cX8_mends 72 = .ok (.aload_n 0, 1) := by decide +kernel
theorem dX8_mends_73 : decode cX8_mends 73 = .ok (.getfield 33, 3) := by decide +kernel
theorem dX8_mends_76 : decode cX8_mends 76 = .ok (.iload_n 1, 1) := by decide +kernel
theorem dX8_mends_77 : decode cX8_mends 77 = .ok (.invokevirtual 240, 3) := by decide +kernel
theorem dX8_mends_80 : decode cX8_mends 80 = .ok (.pop, 1) := by decide +kernel
theorem dX8_mends_81 : decode cX8_mends 81 = .ok (.iload_n 2, 1) := by decide +kernel
theorem dX8_mends_82 : decode cX8_mends 82 = .ok (.aload_n 0, 1) := by decide +kernel
theorem dX8_mends_83 : decode cX8_mends 83 = .ok (.iload_n 1, 1) := by decide +kernel
theorem dX8_mends_84 : decode cX8_mends 84 = .ok (.invokevirtual 237, 3) := by decide +kernel
theorem dX8_mends_87 : decode cX8_mends 87 = .ok (.isub, 1) := by decide +kernel
theorem dX8_mends_88 : decode cX8_mends 88 = .ok (.bipush 10, 2) := by decide +kernel
theorem dX8_mends_90 : decode cX8_mends 90 = .ok (.iadd, 1) := by decide +kernel
theorem dX8_mends_91 : decode cX8_mends 91 = .ok (.ireturn, 1) := by decide +kernel
theorem dX8_rivals_0 : decode cX8_rivals 0 = .ok (.aload_n 0, 1) := by decide +kernel
theorem dX8_rivals_1 : decode cX8_rivals 1 = .ok (.getfield 19, 3) := by decide +kernel
theorem dX8_rivals_4 : decode cX8_rivals 4 = .ok (.iload_n 1, 1) := by decide +kernel
theorem dX8_rivals_5 : decode cX8_rivals 5 = .ok (.invokevirtual 120, 3) := by decide +kernel
theorem dX8_rivals_8 : decode cX8_rivals 8 = .ok (.ifCond .eq 23, 3) := by decide +kernel
theorem dX8_rivals_11 : decode cX8_rivals 11 = .ok (.aload_n 0, 1) := by decide +kernel
theorem dX8_rivals_12 : decode cX8_rivals 12 = .ok (.getfield 19, 3) := by decide +kernel
theorem dX8_rivals_15 : decode cX8_rivals 15 = .ok (.iload_n 2, 1) := by decide +kernel
theorem dX8_rivals_16 : decode cX8_rivals 16 = .ok (.invokevirtual 120, 3) := by decide +kernel
theorem dX8_rivals_19 : decode cX8_rivals 19 = .ok (.ifCond .eq 12, 3) := by decide +kernel
theorem dX8_rivals_22 : decode cX8_rivals 22 = .ok (.iload_n 1, 1) := by decide +kernel
theorem dX8_rivals_23 : decode cX8_rivals 23 = .ok (.iload_n 2, 1) := by decide +kernel
theorem dX8_rivals_24 : decode cX8_rivals 24 = .ok (.if_icmp .eq 7, 3) := by decide +kernel
theorem dX8_rivals_27 : decode cX8_rivals 27 = .ok (.iconst 1, 1) := by decide +kernel
theorem dX8_rivals_28 : decode cX8_rivals 28 = .ok (.goto 4, 3) := by decide +kernel
theorem dX8_rivals_31 : decode cX8_rivals 31 = .ok (.iconst 0, 1) := by decide +kernel
theorem dX8_rivals_32 : decode cX8_rivals 32 = .ok (.istore 5, 2) := by decide +kernel
theorem dX8_rivals_34 : decode cX8_rivals 34 = .ok (.iload 5, 2) := by decide +kernel
theorem dX8_rivals_36 : decode cX8_rivals 36 = .ok (.ifCond .eq 22, 3) := by decide +kernel
theorem dX8_rivals_39 : decode cX8_rivals 39 = .ok (.iload_n 3, 1) := by decide +kernel
theorem dX8_rivals_40 : decode cX8_rivals 40 = .ok (.iconst 1, 1) := by decide +kernel
theorem dX8_rivals_41 : decode cX8_rivals 41 = .ok (.iconst 4, 1) := by decide +kernel
theorem dX8_rivals_42 : decode cX8_rivals 42 = .ok (.invokestatic 99, 3) := by decide +kernel
theorem dX8_rivals_45 : decode cX8_rivals 45 = .ok (.ifCond .eq 13, 3) := by decide +kernel
theorem dX8_rivals_48 : decode cX8_rivals 48 = .ok (.iload 4, 2) := by decide +kernel
theorem dX8_rivals_50 : decode cX8_rivals 50 = .ok (.iconst 0, 1) := by decide +kernel
theorem dX8_rivals_51 : decode cX8_rivals 51 = .ok (.iconst 1, 1) := by decide +kernel
theorem dX8_rivals_52 : decode cX8_rivals 52 = .ok (.invokestatic 99, 3) := by decide +kernel
theorem dX8_rivals_55 : decode cX8_rivals 55 = .ok (.ifCond .ne 5, 3) := by decide +kernel
theorem dX8_rivals_58 : decode cX8_rivals 58 = .ok (.iconst (-1), 1) := by decide +kernel
theorem dX8_rivals_59 : decode cX8_rivals 59 = .ok (.ireturn, 1) := by decide +kernel
theorem dX8_rivals_60 : decode cX8_rivals 60 = .ok (.aload_n 0, 1) := by decide +kernel
theorem dX8_rivals_61 : decode cX8_rivals 61 = .ok (.getfield 65, 3) := by decide +kernel
theorem dX8_rivals_64 : decode cX8_rivals 64 = .ok (.aload_n 0, 1) := by decide +kernel
theorem dX8_rivals_65 : decode cX8_rivals 65 = .ok (.getfield 19, 3) := by decide +kernel
theorem dX8_rivals_68 : decode cX8_rivals 68 = .ok (.aload_n 0, 1) := by decide +kernel
theorem dX8_rivals_69 : decode cX8_rivals 69 = .ok (.getfield 29, 3) := by decide +kernel
theorem dX8_rivals_72 : decode cX8_rivals 72 = .ok (.iload_n 1, 1) := by decide +kernel
theorem dX8_rivals_73 : decode cX8_rivals 73 = .ok (.iload_n 2, 1) := by decide +kernel
theorem dX8_rivals_74 : decode cX8_rivals 74 = .ok (.iload_n 3, 1) := by decide +kernel
theorem dX8_rivals_75 : decode cX8_rivals 75 = .ok (.invokevirtual 244, 3) := by decide +kernel
theorem dX8_rivals_78 : decode cX8_rivals 78 = .ok (.iload 4, 2) := by decide +kernel
theorem dX8_rivals_80 : decode cX8_rivals 80 = .ok (.ifCond .ne 16, 3) := by decide +kernel
theorem dX8_rivals_83 : decode cX8_rivals 83 = .ok (.aload_n 0, 1) := by decide +kernel
theorem dX8_rivals_84 : decode cX8_rivals 84 = .ok (.getfield 65, 3) := by decide +kernel
theorem dX8_rivals_87 : decode cX8_rivals 87 = .ok (.getfield 248, 3) := by decide +kernel
theorem dX8_rivals_90 : decode cX8_rivals 90 = .ok (.bipush 10, 2) := by decide +kernel
theorem dX8_rivals_92 : decode cX8_rivals 92 = .ok (.iadd, 1) := by decide +kernel
theorem dX8_rivals_93 : decode cX8_rivals 93 = .ok (.goto 10, 3) := by decide +kernel
theorem dX8_rivals_96 : decode cX8_rivals 96 = .ok (.aload_n 0, 1) := by decide +kernel
theorem dX8_rivals_97 : decode cX8_rivals 97 = .ok (.getfield 65, 3) := by decide +kernel
theorem dX8_rivals_100 : decode cX8_rivals 100 = .ok (.getfield 251, 3) := by decide +kernel
theorem dX8_rivals_103 : decode cX8_rivals 103 = .ok (.ireturn, 1) := by decide +kernel
theorem dX8_see_0 : decode cX8_see 0 = .ok (.aload_n 0, 1) := by decide +kernel
theorem dX8_see_1 : decode cX8_see 1 = .ok (.getfield 19, 3) := by decide +kernel
theorem dX8_see_4 : decode cX8_see 4 = .ok (.iload_n 1, 1) := by decide +kernel
theorem dX8_see_5 : decode cX8_see 5 = .ok (.invokevirtual 120, 3) := by decide +kernel
theorem dX8_see_8 : decode cX8_see 8 = .ok (.ifCond .eq 25, 3) := by decide +kernel
theorem dX8_see_11 : decode cX8_see 11 = .ok (.aload_n 0, 1) := by decide +kernel
theorem dX8_see_12 : decode cX8_see 12 = .ok (.getfield 19, 3) := by decide +kernel
theorem dX8_see_15 : decode cX8_see 15 = .ok (.iload_n 2, 1) := by decide +kernel
theorem dX8_see_16 : decode cX8_see 16 = .ok (.invokevirtual 136, 3) := by decide +kernel
theorem dX8_see_19 : decode cX8_see 19 = .ok (.ifCond .eq 14, 3) := by decide +kernel
theorem dX8_see_22 : decode cX8_see 22 = .ok (.iload_n 3, 1) := by decide +kernel
theorem dX8_see_23 : decode cX8_see 23 = .ok (.iconst 0, 1) := by decide +kernel
theorem dX8_see_24 : decode cX8_see 24 = .ok (.sipush 400, 3) := by decide +kernel
theorem dX8_see_27 : decode cX8_see 27 = .ok (.invokestatic 99, 3) := by decide +kernel
theorem dX8_see_30 : decode cX8_see 30 = .ok (.ifCond .ne 5, 3) := by decide +kernel
theorem dX8_see_33 : decode cX8_see 33 = .ok (.iconst (-1), 1) := by decide +kernel
theorem dX8_see_34 : decode cX8_see 34 = .ok (.ireturn, 1) := by decide +kernel
theorem dX8_see_35 : decode cX8_see 35 = .ok (.aload_n 0, 1) := by decide +kernel
theorem dX8_see_36 : decode cX8_see 36 = .ok (.getfield 51, 3) := by decide +kernel
theorem dX8_see_39 : decode cX8_see 39 = .ok (.iload_n 1, 1) := by decide +kernel
theorem dX8_see_40 : decode cX8_see 40 = .ok (.iload_n 2, 1) := by decide +kernel
theorem dX8_see_41 : decode cX8_see 41 = .ok (.iload_n 3, 1) := by decide +kernel
theorem dX8_see_42 : decode cX8_see 42 = .ok (.invokevirtual 254, 3) := by decide +kernel
theorem dX8_see_45 : decode cX8_see 45 = .ok (.ifCond .eq 13, 3) := by decide +kernel
theorem dX8_see_48 : decode cX8_see 48 = .ok (.aload_n 0, 1) := by decide +kernel
theorem dX8_see_49 : decode cX8_see 49 = .ok (.getfield 51, 3) := by decide +kernel
theorem dX8_see_52 : decode cX8_see 52 = .ok (.getfield 256, 3) := by decide +kernel
theorem dX8_see_55 : decode cX8_see 55 = .ok (.goto 5, 3) := by decide +kernel
theorem dX8_see_58 : decode cX8_see 58 = .ok (.bipush (-3), 2) := by decide +kernel
theorem dX8_see_60 : decode cX8_see 60 = .ok (.ireturn, 1) := by decide +kernel
theorem dX8_forget_0 : decode cX8_forget 0 = .ok (.aload_n 0, 1) := by decide +kernel
theorem dX8_forget_1 : decode cX8_forget 1 = .ok (.getfield 51, 3) := by decide +kernel
theorem dX8_forget_4 : decode cX8_forget 4 = .ok (.getfield 256, 3) := by decide +kernel
theorem dX8_forget_7 : decode cX8_forget 7 = .ok (.istore_n 1, 1) := by decide +kernel
theorem dX8_forget_8 : decode cX8_forget 8 = .ok (.aload_n 0, 1) := by decide +kernel
theorem dX8_forget_9 : decode cX8_forget 9 = .ok (.getfield 51, 3) := by decide +kernel
theorem dX8_forget_12 : decode cX8_forget 12 = .ok (.iconst 0, 1) := by decide +kernel
theorem dX8_forget_13 : decode cX8_forget 13 = .ok (.putfield 256, 3) := by decide +kernel
theorem dX8_forget_16 : decode cX8_forget 16 = .ok (.iload_n 1, 1) := by decide +kernel
theorem dX8_forget_17 : decode cX8_forget 17 = .ok (.ireturn, 1) := by decide +kernel
theorem dX8_wept_0 : decode cX8_wept 0 = .ok (.aload_n 0, 1) := by decide +kernel
theorem dX8_wept_1 : decode cX8_wept 1 = .ok (.getfield 19, 3) := by decide +kernel
theorem dX8_wept_4 : decode cX8_wept 4 = .ok (.iload_n 1, 1) := by decide +kernel
theorem dX8_wept_5 : decode cX8_wept 5 = .ok (.invokevirtual 120, 3) := by decide +kernel
theorem dX8_wept_8 : decode cX8_wept 8 = .ok (.ifCond .eq 12, 3) := by decide +kernel
theorem dX8_wept_11 : decode cX8_wept 11 = .ok (.iload_n 2, 1) := by decide +kernel
theorem dX8_wept_12 : decode cX8_wept 12 = .ok (.iconst 0, 1) := by decide +kernel
theorem dX8_wept_13 : decode cX8_wept 13 = .ok (.iconst 1, 1) := by decide +kernel
theorem dX8_wept_14 : decode cX8_wept 14 = .ok (.invokestatic 99, 3) := by decide +kernel
theorem dX8_wept_17 : decode cX8_wept 17 = .ok (.ifCond .ne 5, 3) := by decide +kernel
theorem dX8_wept_20 : decode cX8_wept 20 = .ok (.iconst (-1), 1) := by decide +kernel
theorem dX8_wept_21 : decode cX8_wept 21 = .ok (.ireturn, 1) := by decide +kernel
theorem dX8_wept_22 : decode cX8_wept 22 = .ok (.aload_n 0, 1) := by decide +kernel
theorem dX8_wept_23 : decode cX8_wept 23 = .ok (.iload_n 1, 1) := by decide +kernel
theorem dX8_wept_24 : decode cX8_wept 24 = .ok (.aload_n 0, 1) := by decide +kernel
theorem dX8_wept_25 : decode cX8_wept 25 = .ok (.getfield 19, 3) := by decide +kernel
theorem dX8_wept_28 : decode cX8_wept 28 = .ok (.getfield 123, 3) := by decide +kernel
theorem dX8_wept_31 : decode cX8_wept 31 = .ok (.iload_n 1, 1) := by decide +kernel
theorem dX8_wept_32 : decode cX8_wept 32 = .ok (.iaload, 1) := by decide +kernel
theorem dX8_wept_33 : decode cX8_wept 33 = .ok (.bipush (-4), 2) := by decide +kernel
theorem dX8_wept_35 : decode cX8_wept 35 = .ok (.invokevirtual 257, 3) := by decide +kernel
theorem dX8_wept_38 : decode cX8_wept 38 = .ok (.ifCond .eq 7, 3) := by decide +kernel
theorem dX8_wept_41 : decode cX8_wept 41 = .ok (.iconst 1, 1) := by decide +kernel
theorem dX8_wept_42 : decode cX8_wept 42 = .ok (.goto 4, 3) := by decide +kernel
theorem dX8_wept_45 : decode cX8_wept 45 = .ok (.iconst 0, 1) := by decide +kernel
theorem dX8_wept_46 : decode cX8_wept 46 = .ok (.istore_n 3, 1) := by decide +kernel
theorem dX8_wept_47 : decode cX8_wept 47 = .ok (.iload_n 3, 1) := by decide +kernel
theorem dX8_wept_48 : decode cX8_wept 48 = .ok (.iconst 1, 1) := by decide +kernel
theorem dX8_wept_49 : decode cX8_wept 49 = .ok (.if_icmp .ne 8, 3) := by decide +kernel
theorem dX8_wept_52 : decode cX8_wept 52 = .ok (.bipush 99, 2) := by decide +kernel
theorem dX8_wept_54 : decode cX8_wept 54 = .ok (.goto 5, 3) := by decide +kernel
theorem dX8_wept_57 : decode cX8_wept 57 = .ok (.bipush (-4), 2) := by decide +kernel
theorem dX8_wept_59 : decode cX8_wept 59 = .ok (.istore 4, 2) := by decide +kernel
theorem dX8_wept_61 : decode cX8_wept 61 = .ok (.aload_n 0, 1) := by decide +kernel
theorem dX8_wept_62 : decode cX8_wept 62 = .ok (.getfield 19, 3) := by decide +kernel
theorem dX8_wept_65 : decode cX8_wept 65 = .ok (.invokevirtual 109, 3) := by decide +kernel
theorem dX8_wept_68 : decode cX8_wept 68 = .ok (.iconst 1, 1) := by decide +kernel
theorem dX8_wept_69 : decode cX8_wept 69 = .ok (.isub, 1) := by decide +kernel
theorem dX8_wept_70 : decode cX8_wept 70 = .ok (.istore 5, 2) := by decide +kernel
theorem dX8_wept_72 : decode cX8_wept 72 = .ok (.iload 5, 2) := by decide +kernel
theorem dX8_wept_74 : decode cX8_wept 74 = .ok (.ifCond .lt 35, 3) := by decide +kernel
theorem dX8_wept_77 : decode cX8_wept 77 = .ok (.aload_n 0, 1) := by decide +kernel
theorem dX8_wept_78 : decode cX8_wept 78 = .ok (.iload_n 1, 1) := by decide +kernel
theorem dX8_wept_79 : decode cX8_wept 79 = .ok (.aload_n 0, 1) := by decide +kernel
theorem dX8_wept_80 : decode cX8_wept 80 = .ok (.getfield 19, 3) := by decide +kernel
theorem dX8_wept_83 : decode cX8_wept 83 = .ok (.getfield 123, 3) := by decide +kernel
theorem dX8_wept_86 : decode cX8_wept 86 = .ok (.iload_n 1, 1) := by decide +kernel
theorem dX8_wept_87 : decode cX8_wept 87 = .ok (.iaload, 1) := by decide +kernel
theorem dX8_wept_88 : decode cX8_wept 88 = .ok (.iload 5, 2) := by decide +kernel
theorem dX8_wept_90 : decode cX8_wept 90 = .ok (.invokevirtual 257, 3) := by decide +kernel
theorem dX8_wept_93 : decode cX8_wept 93 = .ok (.ifCond .eq 10, 3) := by decide +kernel
theorem dX8_wept_96 : decode cX8_wept 96 = .ok (.iinc 3 1, 3) := by decide +kernel
theorem dX8_wept_99 : decode cX8_wept 99 = .ok (.iload 5, 2) := by decide +kernel
theorem dX8_wept_101 : decode cX8_wept 101 = .ok (.istore 4, 2) := by decide +kernel
theorem dX8_wept_103 : decode cX8_wept 103 = .ok (.iinc 5 (-1), 3) := by decide +kernel
theorem dX8_wept_106 : decode cX8_wept 106 = .ok (.goto (-34), 3) := by decide +kernel
theorem dX8_wept_109 : decode cX8_wept 109 = .ok (.iload_n 2, 1) := by decide +kernel
theorem dX8_wept_110 : decode cX8_wept 110 = .ok (.ifCond .ne 7, 3) := by decide +kernel
theorem dX8_wept_113 : decode cX8_wept 113 = .ok (.iload_n 3, 1) := by decide +kernel
theorem dX8_wept_114 : decode cX8_wept 114 = .ok (.goto 5, 3) := by decide +kernel
theorem dX8_wept_117 : decode cX8_wept 117 = .ok (.iload 4, 2) := by decide +kernel
theorem dX8_wept_119 : decode cX8_wept 119 = .ok (.ireturn, 1) := by decide +kernel
theorem dX8_kinds_0 : decode cX8_kinds 0 = .ok (.aload_n 0, 1) := by decide +kernel
theorem dX8_kinds_1 : decode cX8_kinds 1 = .ok (.getfield 19, 3) := by decide +kernel
theorem dX8_kinds_4 : decode cX8_kinds 4 = .ok (.iload_n 1, 1) := by decide +kernel
theorem dX8_kinds_5 : decode cX8_kinds 5 = .ok (.invokevirtual 120, 3) := by decide +kernel
theorem dX8_kinds_8 : decode cX8_kinds 8 = .ok (.ifCond .ne 5, 3) := by decide +kernel
theorem dX8_kinds_11 : decode cX8_kinds 11 = .ok (.iconst (-1), 1) := by decide +kernel
theorem dX8_kinds_12 : decode cX8_kinds 12 = .ok (.ireturn, 1) := by decide +kernel
theorem dX8_kinds_13 : decode cX8_kinds 13 = .ok (.iconst 0, 1) := by decide +kernel
theorem dX8_kinds_14 : decode cX8_kinds 14 = .ok (.istore_n 2, 1) := by decide +kernel
theorem dX8_kinds_15 : decode cX8_kinds 15 = .ok (.iconst 0, 1) := by decide +kernel
theorem dX8_kinds_16 : decode cX8_kinds 16 = .ok (.istore_n 3, 1) := by decide +kernel
theorem dX8_kinds_17 : decode cX8_kinds 17 = .ok (.iload_n 3, 1) := by decide +kernel
theorem dX8_kinds_18 : decode cX8_kinds 18 = .ok (.iconst 3, 1) := by decide +kernel
theorem dX8_kinds_19 : decode cX8_kinds 19 = .ok (.if_icmp .ge 33, 3) := by decide +kernel
theorem dX8_kinds_22 : decode cX8_kinds 22 = .ok (.aload_n 0, 1) := by decide +kernel
theorem dX8_kinds_23 : decode cX8_kinds 23 = .ok (.iload_n 1, 1) := by decide +kernel
theorem dX8_kinds_24 : decode cX8_kinds 24 = .ok (.iload_n 3, 1) := by decide +kernel
theorem dX8_kinds_25 : decode cX8_kinds 25 = .ok (.aload_n 0, 1) := by decide +kernel
theorem dX8_kinds_26 : decode cX8_kinds 26 = .ok (.getfield 29, 3) := by decide +kernel
theorem dX8_kinds_29 : decode cX8_kinds 29 = .ok (.getfield 133, 3) := by decide +kernel
theorem dX8_kinds_32 : decode cX8_kinds 32 = .ok (.iload_n 1, 1) := by decide +kernel
theorem dX8_kinds_33 : decode cX8_kinds 33 = .ok (.iaload, 1) := by decide +kernel
theorem dX8_kinds_34 : decode cX8_kinds 34 = .ok (.invokevirtual 257, 3) := by decide +kernel
theorem dX8_kinds_37 : decode cX8_kinds 37 = .ok (.ifCond .eq 9, 3) := by decide +kernel
theorem dX8_kinds_40 : decode cX8_kinds 40 = .ok (.iload_n 2, 1) := by decide +kernel
theorem dX8_kinds_41 : decode cX8_kinds 41 = .ok (.iconst 1, 1) := by decide +kernel
theorem dX8_kinds_42 : decode cX8_kinds 42 = .ok (.iload_n 3, 1) := by decide +kernel
theorem dX8_kinds_43 : decode cX8_kinds 43 = .ok (.ishl, 1) := by decide +kernel
theorem dX8_kinds_44 : decode cX8_kinds 44 = .ok (.ior, 1) := by decide +kernel
theorem dX8_kinds_45 : decode cX8_kinds 45 = .ok (.istore_n 2, 1) := by decide +kernel
theorem dX8_kinds_46 : decode cX8_kinds 46 = .ok (.iinc 3 1, 3) := by decide +kernel
theorem dX8_kinds_49 : decode cX8_kinds 49 = .ok (.goto (-32), 3) := by decide +kernel
theorem dX8_kinds_52 : decode cX8_kinds 52 = .ok (.iload_n 2, 1) := by decide +kernel
theorem dX8_kinds_53 : decode cX8_kinds 53 = .ok (.ireturn, 1) := by decide +kernel
theorem dX8_tears_0 : decode cX8_tears 0 = .ok (.iload_n 1, 1) := by decide +kernel
theorem dX8_tears_1 : decode cX8_tears 1 = .ok (.iconst 0, 1) := by decide +kernel
theorem dX8_tears_2 : decode cX8_tears 2 = .ok (.bipush 7, 2) := by decide +kernel
theorem dX8_tears_4 : decode cX8_tears 4 = .ok (.invokestatic 99, 3) := by decide +kernel
theorem dX8_tears_7 : decode cX8_tears 7 = .ok (.ifCond .eq 22, 3) := by decide +kernel
theorem dX8_tears_10 : decode cX8_tears 10 = .ok (.iload_n 2, 1) := by decide +kernel
theorem dX8_tears_11 : decode cX8_tears 11 = .ok (.iconst 0, 1) := by decide +kernel
theorem dX8_tears_12 : decode cX8_tears 12 = .ok (.bipush 10, 2) := by decide +kernel
theorem dX8_tears_14 : decode cX8_tears 14 = .ok (.invokestatic 99, 3) := by decide +kernel
theorem dX8_tears_17 : decode cX8_tears 17 = .ok (.ifCond .eq 12, 3) := by decide +kernel
theorem dX8_tears_20 : decode cX8_tears 20 = .ok (.iload_n 3, 1) := by decide +kernel
theorem dX8_tears_21 : decode cX8_tears 21 = .ok (.iconst 0, 1) := by decide +kernel
theorem dX8_tears_22 : decode cX8_tears 22 = .ok (.iconst 1, 1) := by decide +kernel
theorem dX8_tears_23 : decode cX8_tears 23 = .ok (.invokestatic 99, 3) := by decide +kernel
theorem dX8_tears_26 : decode cX8_tears 26 = .ok (.ifCond .ne 5, 3) := by decide +kernel
theorem dX8_tears_29 : decode cX8_tears 29 = .ok (.iconst (-1), 1) := by decide +kernel
theorem dX8_tears_30 : decode cX8_tears 30 = .ok (.ireturn, 1) := by decide +kernel
theorem dX8_tears_31 : decode cX8_tears 31 = .ok (.aload_n 0, 1) := by decide +kernel
theorem dX8_tears_32 : decode cX8_tears 32 = .ok (.getfield 19, 3) := by decide +kernel
theorem dX8_tears_35 : decode cX8_tears 35 = .ok (.aload_n 0, 1) := by decide +kernel
theorem dX8_tears_36 : decode cX8_tears 36 = .ok (.getfield 29, 3) := by decide +kernel
theorem dX8_tears_39 : decode cX8_tears 39 = .ok (.invokestatic 260, 3) := by decide +kernel
theorem dX8_tears_42 : decode cX8_tears 42 = .ok (.istore 4, 2) := by decide +kernel
theorem dX8_tears_44 : decode cX8_tears 44 = .ok (.bipush 10, 2) := by decide +kernel
theorem dX8_tears_46 : decode cX8_tears 46 = .ok (.iload 4, 2) := by decide +kernel
theorem dX8_tears_48 : decode cX8_tears 48 = .ok (.invokestatic 264, 3) := by decide +kernel
theorem dX8_tears_51 : decode cX8_tears 51 = .ok (.istore 5, 2) := by decide +kernel
theorem dX8_tears_53 : decode cX8_tears 53 = .ok (.iconst 0, 1) := by decide +kernel
theorem dX8_tears_54 : decode cX8_tears 54 = .ok (.istore 6, 2) := by decide +kernel
theorem dX8_tears_56 : decode cX8_tears 56 = .ok (.iconst 0, 1) := by decide +kernel
theorem dX8_tears_57 : decode cX8_tears 57 = .ok (.istore 7, 2) := by decide +kernel
theorem dX8_tears_59 : decode cX8_tears 59 = .ok (.iload 7, 2) := by decide +kernel
theorem dX8_tears_61 : decode cX8_tears 61 = .ok (.iconst 1, 1) := by decide +kernel
theorem dX8_tears_62 : decode cX8_tears 62 = .ok (.iload 4, 2) := by decide +kernel
theorem dX8_tears_64 : decode cX8_tears 64 = .ok (.ishl, 1) := by decide +kernel
theorem dX8_tears_65 : decode cX8_tears 65 = .ok (.if_icmp .ge 59, 3) := by decide +kernel
theorem dX8_tears_68 : decode cX8_tears 68 = .ok (.iload 7, 2) := by decide +kernel
theorem dX8_tears_70 : decode cX8_tears 70 = .ok (.invokestatic 267, 3) := by decide +kernel
theorem dX8_tears_73 : decode cX8_tears 73 = .ok (.istore 8, 2) := by decide +kernel
theorem dX8_tears_75 : decode cX8_tears 75 = .ok (.iload_n 2, 1) := by decide +kernel
theorem dX8_tears_76 : decode cX8_tears 76 = .ok (.iload 8, 2) := by decide +kernel
theorem dX8_tears_78 : decode cX8_tears 78 = .ok (.invokestatic 264, 3) := by decide +kernel
theorem dX8_tears_81 : decode cX8_tears 81 = .ok (.bipush 10, 2) := by decide +kernel
theorem dX8_tears_83 : decode cX8_tears 83 = .ok (.iload_n 2, 1) := by decide +kernel
theorem dX8_tears_84 : decode cX8_tears 84 = .ok (.isub, 1) := by decide +kernel
theorem dX8_tears_85 : decode cX8_tears 85 = .ok (.iload 4, 2) := by decide +kernel
theorem dX8_tears_87 : decode cX8_tears 87 = .ok (.iload 8, 2) := by decide +kernel
theorem dX8_tears_89 : decode cX8_tears 89 = .ok (.isub, 1) := by decide +kernel
theorem dX8_tears_90 : decode cX8_tears 90 = .ok (.invokestatic 264, 3) := by decide +kernel
theorem dX8_tears_93 : decode cX8_tears 93 = .ok (.imul, 1) := by decide +kernel
theorem dX8_tears_94 : decode cX8_tears 94 = .ok (.istore 9, 2) := by decide +kernel
theorem dX8_tears_96 : decode cX8_tears 96 = .ok (.iload 9, 2) := by decide +kernel
theorem dX8_tears_98 : decode cX8_tears 98 = .ok (.ifCond .le 20, 3) := by decide +kernel
theorem dX8_tears_101 : decode cX8_tears 101 = .ok (.aload_n 0, 1) := by decide +kernel
theorem dX8_tears_102 : decode cX8_tears 102 = .ok (.iload 7, 2) := by decide +kernel
theorem dX8_tears_104 : decode cX8_tears 104 = .ok (.invokevirtual 272, 3) := by decide +kernel
theorem dX8_tears_107 : decode cX8_tears 107 = .ok (.iload_n 1, 1) := by decide +kernel
theorem dX8_tears_108 : decode cX8_tears 108 = .ok (.if_icmp .lt 10, 3) := by decide +kernel
theorem dX8_tears_111 : decode cX8_tears 111 = .ok (.iload 6, 2) := by decide +kernel
theorem dX8_tears_113 : decode cX8_tears 113 = .ok (.iload 9, 2) := by decide +kernel
theorem dX8_tears_115 : decode cX8_tears 115 = .ok (.iadd, 1) := by decide +kernel
theorem dX8_tears_116 : decode cX8_tears 116 = .ok (.istore 6, 2) := by decide +kernel
theorem dX8_tears_118 : decode cX8_tears 118 = .ok (.iinc 7 1, 3) := by decide +kernel
theorem dX8_tears_121 : decode cX8_tears 121 = .ok (.goto (-62), 3) := by decide +kernel
theorem dX8_tears_124 : decode cX8_tears 124 = .ok (.iload 6, 2) := by decide +kernel
theorem dX8_tears_126 : decode cX8_tears 126 = .ok (.iload 5, 2) := by decide +kernel
theorem dX8_tears_128 : decode cX8_tears 128 = .ok (.invokestatic 275, 3) := by decide +kernel
theorem dX8_tears_131 : decode cX8_tears 131 = .ok (.istore 7, 2) := by decide +kernel
theorem dX8_tears_133 : decode cX8_tears 133 = .ok (.iload_n 3, 1) := by decide +kernel
theorem dX8_tears_134 : decode cX8_tears 134 = .ok (.ifCond .ne 8, 3) := by decide +kernel
theorem dX8_tears_137 : decode cX8_tears 137 = .ok (.iload 6, 2) := by decide +kernel
theorem dX8_tears_139 : decode cX8_tears 139 = .ok (.goto 5, 3) := by decide +kernel
theorem dX8_tears_142 : decode cX8_tears 142 = .ok (.iload 5, 2) := by decide +kernel
theorem dX8_tears_144 : decode cX8_tears 144 = .ok (.iconst 1, 1) := by decide +kernel
theorem dX8_tears_145 : decode cX8_tears 145 = .ok (.iload 7, 2) := by decide +kernel
theorem dX8_tears_147 : decode cX8_tears 147 = .ok (.invokestatic 278, 3) := by decide +kernel
theorem dX8_tears_150 : decode cX8_tears 150 = .ok (.idiv, 1) := by decide +kernel
theorem dX8_tears_151 : decode cX8_tears 151 = .ok (.ireturn, 1) := by decide +kernel
theorem dX8_year_0 : decode cX8_year 0 = .ok (.iload_n 1, 1) := by decide +kernel
theorem dX8_year_1 : decode cX8_year 1 = .ok (.iconst 0, 1) := by decide +kernel
theorem dX8_year_2 : decode cX8_year 2 = .ok (.sipush 9999, 3) := by decide +kernel
theorem dX8_year_5 : decode cX8_year 5 = .ok (.invokestatic 99, 3) := by decide +kernel
theorem dX8_year_8 : decode cX8_year 8 = .ok (.ifCond .eq 22, 3) := by decide +kernel
theorem dX8_year_11 : decode cX8_year 11 = .ok (.iload_n 2, 1) := by decide +kernel
theorem dX8_year_12 : decode cX8_year 12 = .ok (.iconst 1, 1) := by decide +kernel
theorem dX8_year_13 : decode cX8_year 13 = .ok (.bipush 40, 2) := by decide +kernel
theorem dX8_year_15 : decode cX8_year 15 = .ok (.invokestatic 99, 3) := by decide +kernel
theorem dX8_year_18 : decode cX8_year 18 = .ok (.ifCond .eq 12, 3) := by decide +kernel
theorem dX8_year_21 : decode cX8_year 21 = .ok (.iload_n 3, 1) := by decide +kernel
theorem dX8_year_22 : decode cX8_year 22 = .ok (.iconst 0, 1) := by decide +kernel
theorem dX8_year_23 : decode cX8_year 23 = .ok (.iconst 1, 1) := by decide +kernel
theorem dX8_year_24 : decode cX8_year 24 = .ok (.invokestatic 99, 3) := by decide +kernel
theorem dX8_year_27 : decode cX8_year 27 = .ok (.ifCond .ne 5, 3) := by decide +kernel
theorem dX8_year_30 : decode cX8_year 30 = .ok (.iconst (-1), 1) := by decide +kernel
theorem dX8_year_31 : decode cX8_year 31 = .ok (.ireturn, 1) := by decide +kernel
theorem dX8_year_32 : decode cX8_year 32 = .ok (.aload_n 0, 1) := by decide +kernel
theorem dX8_year_33 : decode cX8_year 33 = .ok (.getfield 33, 3) := by decide +kernel
theorem dX8_year_36 : decode cX8_year 36 = .ok (.aload_n 0, 1) := by decide +kernel
theorem dX8_year_37 : decode cX8_year 37 = .ok (.getfield 29, 3) := by decide +kernel
theorem dX8_year_40 : decode cX8_year 40 = .ok (.invokevirtual 223, 3) := by decide +kernel
theorem dX8_year_43 : decode cX8_year 43 = .ok (.iconst 0, 1) := by decide +kernel
theorem dX8_year_44 : decode cX8_year 44 = .ok (.istore 4, 2) := by decide +kernel
theorem dX8_year_46 : decode cX8_year 46 = .ok (.iconst 0, 1) := by decide +kernel
theorem dX8_year_47 : decode cX8_year 47 = .ok (.istore 5, 2) := by decide +kernel
theorem dX8_year_49 : decode cX8_year 49 = .ok (.iconst 0, 1) := by decide +kernel
theorem dX8_year_50 : decode cX8_year 50 = .ok (.istore 6, 2) := by decide +kernel
theorem dX8_year_52 : decode cX8_year 52 = .ok (.iload 6, 2) := by decide +kernel
theorem dX8_year_54 : decode cX8_year 54 = .ok (.iload_n 2, 1) := by decide +kernel
theorem dX8_year_55 : decode cX8_year 55 = .ok (.if_icmp .ge 114, 3) := by decide +kernel
theorem dX8_year_58 : decode cX8_year 58 = .ok (.iload_n 1, 1) := by decide +kernel
theorem dX8_year_59 : decode cX8_year 59 = .ok (.iload 6, 2) := by decide +kernel
theorem dX8_year_61 : decode cX8_year 61 = .ok (.invokestatic 283, 3) := by decide +kernel
theorem dX8_year_64 : decode cX8_year 64 = .ok (.istore 7, 2) := by decide +kernel
theorem dX8_year_66 : decode cX8_year 66 = .ok (.iload 7, 2) := by decide +kernel
theorem dX8_year_68 : decode cX8_year 68 = .ok (.iconst 4, 1) := by decide +kernel
theorem dX8_year_69 : decode cX8_year 69 = .ok (.idiv, 1) := by decide +kernel
theorem dX8_year_70 : decode cX8_year 70 = .ok (.iconst 1, 1) := by decide +kernel
theorem dX8_year_71 : decode cX8_year 71 = .ok (.aload_n 0, 1) := by decide +kernel
theorem dX8_year_72 : decode cX8_year 72 = .ok (.getfield 19, 3) := by decide +kernel
theorem dX8_year_75 : decode cX8_year 75 = .ok (.getfield 106, 3) := by decide +kernel
theorem dX8_year_78 : decode cX8_year 78 = .ok (.invokestatic 278, 3) := by decide +kernel
theorem dX8_year_81 : decode cX8_year 81 = .ok (.irem, 1) := by decide +kernel
theorem dX8_year_82 : decode cX8_year 82 = .ok (.istore 8, 2) := by decide +kernel
theorem dX8_year_84 : decode cX8_year 84 = .ok (.iload 7, 2) := by decide +kernel
theorem dX8_year_86 : decode cX8_year 86 = .ok (.iconst 1, 1) := by decide +kernel
theorem dX8_year_87 : decode cX8_year 87 = .ok (.aload_n 0, 1) := by decide +kernel
theorem dX8_year_88 : decode cX8_year 88 = .ok (.getfield 19, 3) := by decide +kernel
theorem dX8_year_91 : decode cX8_year 91 = .ok (.getfield 103, 3) := by decide +kernel
theorem dX8_year_94 : decode cX8_year 94 = .ok (.invokestatic 278, 3) := by decide +kernel
theorem dX8_year_97 : decode cX8_year 97 = .ok (.irem, 1) := by decide +kernel
theorem dX8_year_98 : decode cX8_year 98 = .ok (.istore 9, 2) := by decide +kernel
theorem dX8_year_100 : decode cX8_year 100 = .ok (.iload 4, 2) := by decide +kernel
theorem dX8_year_102 : decode cX8_year 102 = .ok (.aload_n 0, 1) := by decide +kernel
theorem dX8_year_103 : decode cX8_year 103 = .ok (.getfield 19, 3) := by decide +kernel
theorem dX8_year_106 : decode cX8_year 106 = .ok (.aload_n 0, 1) := by decide +kernel
theorem dX8_year_107 : decode cX8_year 107 = .ok (.getfield 33, 3) := by decide +kernel
theorem dX8_year_110 : decode cX8_year 110 = .ok (.iload 9, 2) := by decide +kernel
theorem dX8_year_112 : decode cX8_year 112 = .ok (.iload 8, 2) := by decide +kernel
theorem dX8_year_114 : decode cX8_year 114 = .ok (.invokevirtual 167, 3) := by decide +kernel
theorem dX8_year_117 : decode cX8_year 117 = .ok (.ifCond .eq 7, 3) := by decide +kernel
theorem dX8_year_120 : decode cX8_year 120 = .ok (.iconst 1, 1) := by decide +kernel
theorem dX8_year_121 : decode cX8_year 121 = .ok (.goto 4, 3) := by decide +kernel
theorem dX8_year_124 : decode cX8_year 124 = .ok (.iconst 0, 1) := by decide +kernel
theorem dX8_year_125 : decode cX8_year 125 = .ok (.iadd, 1) := by decide +kernel
theorem dX8_year_126 : decode cX8_year 126 = .ok (.istore 4, 2) := by decide +kernel
theorem dX8_year_128 : decode cX8_year 128 = .ok (.iload 5, 2) := by decide +kernel
theorem dX8_year_130 : decode cX8_year 130 = .ok (.aload_n 0, 1) := by decide +kernel
theorem dX8_year_131 : decode cX8_year 131 = .ok (.getfield 33, 3) := by decide +kernel
theorem dX8_year_134 : decode cX8_year 134 = .ok (.getfield 157, 3) := by decide +kernel
theorem dX8_year_137 : decode cX8_year 137 = .ok (.iload 8, 2) := by decide +kernel
theorem dX8_year_139 : decode cX8_year 139 = .ok (.iaload, 1) := by decide +kernel
theorem dX8_year_140 : decode cX8_year 140 = .ok (.iadd, 1) := by decide +kernel
theorem dX8_year_141 : decode cX8_year 141 = .ok (.istore 5, 2) := by decide +kernel
theorem dX8_year_143 : decode cX8_year 143 = .ok (.aload_n 0, 1) := by decide +kernel
theorem dX8_year_144 : decode cX8_year 144 = .ok (.getfield 33, 3) := by decide +kernel
theorem dX8_year_147 : decode cX8_year 147 = .ok (.dup, 1) := by decide +kernel
theorem dX8_year_148 : decode cX8_year 148 = .ok (.getfield 175, 3) := by decide +kernel
theorem dX8_year_151 : decode cX8_year 151 = .ok (.iload 7, 2) := by decide +kernel
theorem dX8_year_153 : decode cX8_year 153 = .ok (.bipush 64, 2) := by decide +kernel
theorem dX8_year_155 : decode cX8_year 155 = .ok (.idiv, 1) := by decide +kernel
theorem dX8_year_156 : decode cX8_year 156 = .ok (.bipush 8, 2) := by decide +kernel
theorem dX8_year_158 : decode cX8_year 158 = .ok (.irem, 1) := by decide +kernel
theorem dX8_year_159 : decode cX8_year 159 = .ok (.iadd, 1) := by decide +kernel
theorem dX8_year_160 : decode cX8_year 160 = .ok (.putfield 175, 3) := by decide +kernel
theorem dX8_year_163 : decode cX8_year 163 = .ok (.iinc 6 1, 3) := by decide +kernel
theorem dX8_year_166 : decode cX8_year 166 = .ok (.goto (-114), 3) := by decide +kernel
theorem dX8_year_169 : decode cX8_year 169 = .ok (.iload_n 3, 1) := by decide +kernel
theorem dX8_year_170 : decode cX8_year 170 = .ok (.ifCond .ne 8, 3) := by decide +kernel
theorem dX8_year_173 : decode cX8_year 173 = .ok (.iload 4, 2) := by decide +kernel
theorem dX8_year_175 : decode cX8_year 175 = .ok (.goto 5, 3) := by decide +kernel
theorem dX8_year_178 : decode cX8_year 178 = .ok (.iload 5, 2) := by decide +kernel
theorem dX8_year_180 : decode cX8_year 180 = .ok (.ireturn, 1) := by decide +kernel
theorem dX8_keep_0 : decode cX8_keep 0 = .ok (.aload_n 0, 1) := by decide +kernel
theorem dX8_keep_1 : decode cX8_keep 1 = .ok (.getfield 45, 3) := by decide +kernel
theorem dX8_keep_4 : decode cX8_keep 4 = .ok (.getfield 182, 3) := by decide +kernel
theorem dX8_keep_7 : decode cX8_keep 7 = .ok (.iconst 2, 1) := by decide +kernel
theorem dX8_keep_8 : decode cX8_keep 8 = .ok (.if_icmp .ne 6, 3) := by decide +kernel
theorem dX8_keep_11 : decode cX8_keep 11 = .ok (.bipush (-3), 2) := by decide +kernel
theorem dX8_keep_13 : decode cX8_keep 13 = .ok (.ireturn, 1) := by decide +kernel
theorem dX8_keep_14 : decode cX8_keep 14 = .ok (.aload_n 0, 1) := by decide +kernel
theorem dX8_keep_15 : decode cX8_keep 15 = .ok (.getfield 45, 3) := by decide +kernel
theorem dX8_keep_18 : decode cX8_keep 18 = .ok (.aload_n 0, 1) := by decide +kernel
theorem dX8_keep_19 : decode cX8_keep 19 = .ok (.getfield 29, 3) := by decide +kernel
theorem dX8_keep_22 : decode cX8_keep 22 = .ok (.invokevirtual 163, 3) := by decide +kernel
theorem dX8_keep_25 : decode cX8_keep 25 = .ok (.aload_n 0, 1) := by decide +kernel
theorem dX8_keep_26 : decode cX8_keep 26 = .ok (.getfield 45, 3) := by decide +kernel
theorem dX8_keep_29 : decode cX8_keep 29 = .ok (.getfield 182, 3) := by decide +kernel
theorem dX8_keep_32 : decode cX8_keep 32 = .ok (.ireturn, 1) := by decide +kernel
theorem dX8_back_0 : decode cX8_back 0 = .ok (.aload_n 0, 1) := by decide +kernel
theorem dX8_back_1 : decode cX8_back 1 = .ok (.getfield 45, 3) := by decide +kernel
theorem dX8_back_4 : decode cX8_back 4 = .ok (.aload_n 0, 1) := by decide +kernel
theorem dX8_back_5 : decode cX8_back 5 = .ok (.getfield 29, 3) := by decide +kernel
theorem dX8_back_8 : decode cX8_back 8 = .ok (.invokevirtual 178, 3) := by decide +kernel
theorem dX8_back_11 : decode cX8_back 11 = .ok (.ifCond .ne 6, 3) := by decide +kernel
theorem dX8_back_14 : decode cX8_back 14 = .ok (.bipush (-2), 2) := by decide +kernel
theorem dX8_back_16 : decode cX8_back 16 = .ok (.ireturn, 1) := by decide +kernel
theorem dX8_back_17 : decode cX8_back 17 = .ok (.aload_n 0, 1) := by decide +kernel
theorem dX8_back_18 : decode cX8_back 18 = .ok (.getfield 41, 3) := by decide +kernel
theorem dX8_back_21 : decode cX8_back 21 = .ok (.iconst 0, 1) := by decide +kernel
theorem dX8_back_22 : decode cX8_back 22 = .ok (.putfield 182, 3) := by decide +kernel
theorem dX8_back_25 : decode cX8_back 25 = .ok (.aload_n 0, 1) := by decide +kernel
theorem dX8_back_26 : decode cX8_back 26 = .ok (.getfield 45, 3) := by decide +kernel
theorem dX8_back_29 : decode cX8_back 29 = .ok (.getfield 182, 3) := by decide +kernel
theorem dX8_back_32 : decode cX8_back 32 = .ok (.ireturn, 1) := by decide +kernel
theorem dX8_count_0 : decode cX8_count 0 = .ok (.iload_n 1, 1) := by decide +kernel
theorem dX8_count_1 : decode cX8_count 1 = .ok (.tableswitch 156 0 10 #[59, 67, 75, 83, 91, 99, 119, 124, 132, 140, 148], 59) := by decide +kernel
theorem dX8_count_60 : decode cX8_count 60 = .ok (.aload_n 0, 1) := by decide +kernel
theorem dX8_count_61 : decode cX8_count 61 = .ok (.getfield 19, 3) := by decide +kernel
theorem dX8_count_64 : decode cX8_count 64 = .ok (.invokevirtual 109, 3) := by decide +kernel
theorem dX8_count_67 : decode cX8_count 67 = .ok (.ireturn, 1) := by decide +kernel
theorem dX8_count_68 : decode cX8_count 68 = .ok (.aload_n 0, 1) := by decide +kernel
theorem dX8_count_69 : decode cX8_count 69 = .ok (.getfield 19, 3) := by decide +kernel
theorem dX8_count_72 : decode cX8_count 72 = .ok (.getfield 286, 3) := by decide +kernel
theorem dX8_count_75 : decode cX8_count 75 = .ok (.ireturn, 1) := by decide +kernel
theorem dX8_count_76 : decode cX8_count 76 = .ok (.aload_n 0, 1) := by decide +kernel
theorem dX8_count_77 : decode cX8_count 77 = .ok (.getfield 19, 3) := by decide +kernel
theorem dX8_count_80 : decode cX8_count 80 = .ok (.getfield 103, 3) := by decide +kernel
theorem dX8_count_83 : decode cX8_count 83 = .ok (.ireturn, 1) := by decide +kernel
theorem dX8_count_84 : decode cX8_count 84 = .ok (.aload_n 0, 1) := by decide +kernel
theorem dX8_count_85 : decode cX8_count 85 = .ok (.getfield 19, 3) := by decide +kernel
theorem dX8_count_88 : decode cX8_count 88 = .ok (.getfield 106, 3) := by decide +kernel
theorem dX8_count_91 : decode cX8_count 91 = .ok (.ireturn, 1) := by decide +kernel
theorem dX8_count_92 : decode cX8_count 92 = .ok (.aload_n 0, 1) := by decide +kernel
theorem dX8_count_93 : decode cX8_count 93 = .ok (.getfield 29, 3) := by decide +kernel
theorem dX8_count_96 : decode cX8_count 96 = .ok (.getfield 175, 3) := by decide +kernel
theorem dX8_count_99 : decode cX8_count 99 = .ok (.ireturn, 1) := by decide +kernel
theorem dX8_count_100 : decode cX8_count 100 = .ok (.aload_n 0, 1) := by decide +kernel
theorem dX8_count_101 : decode cX8_count 101 = .ok (.getfield 19, 3) := by decide +kernel
theorem dX8_count_104 : decode cX8_count 104 = .ok (.getfield 106, 3) := by decide +kernel
theorem dX8_count_107 : decode cX8_count 107 = .ok (.aload_n 0, 1) := by decide +kernel
theorem dX8_count_108 : decode cX8_count 108 = .ok (.getfield 19, 3) := by decide +kernel
theorem dX8_count_111 : decode cX8_count 111 = .ok (.aload_n 0, 1) := by decide +kernel
theorem dX8_count_112 : decode cX8_count 112 = .ok (.getfield 29, 3) := by decide +kernel
theorem dX8_count_115 : decode cX8_count 115 = .ok (.invokestatic 260, 3) := by decide +kernel
theorem dX8_count_118 : decode cX8_count 118 = .ok (.isub, 1) := by decide +kernel
theorem dX8_count_119 : decode cX8_count 119 = .ok (.ireturn, 1) := by decide +kernel
theorem dX8_count_120 : decode cX8_count 120 = .ok (.aload_n 0, 1) := by decide +kernel
theorem dX8_count_121 : decode cX8_count 121 = .ok (.invokevirtual 289, 3) := by decide +kernel
theorem dX8_count_124 : decode cX8_count 124 = .ok (.ireturn, 1) := by decide +kernel
theorem dX8_count_125 : decode cX8_count 125 = .ok (.aload_n 0, 1) := by decide +kernel
theorem dX8_count_126 : decode cX8_count 126 = .ok (.getfield 51, 3) := by decide +kernel
theorem dX8_count_129 : decode cX8_count 129 = .ok (.getfield 256, 3) := by decide +kernel
theorem dX8_count_132 : decode cX8_count 132 = .ok (.ireturn, 1) := by decide +kernel
theorem dX8_count_133 : decode cX8_count 133 = .ok (.aload_n 0, 1) := by decide +kernel
theorem dX8_count_134 : decode cX8_count 134 = .ok (.getfield 41, 3) := by decide +kernel
theorem dX8_count_137 : decode cX8_count 137 = .ok (.getfield 182, 3) := by decide +kernel
theorem dX8_count_140 : decode cX8_count 140 = .ok (.ireturn, 1) := by decide +kernel
theorem dX8_count_141 : decode cX8_count 141 = .ok (.aload_n 0, 1) := by decide +kernel
theorem dX8_count_142 : decode cX8_count 142 = .ok (.getfield 45, 3) := by decide +kernel
theorem dX8_count_145 : decode cX8_count 145 = .ok (.getfield 182, 3) := by decide +kernel
theorem dX8_count_148 : decode cX8_count 148 = .ok (.ireturn, 1) := by decide +kernel
theorem dX8_count_149 : decode cX8_count 149 = .ok (.aload_n 0, 1) := by decide +kernel
theorem dX8_count_150 : decode cX8_count 150 = .ok (.getfield 12, 3) := by decide +kernel
theorem dX8_count_153 : decode cX8_count 153 = .ok (.getfield 93, 3) := by decide +kernel
theorem dX8_count_156 : decode cX8_count 156 = .ok (.ireturn, 1) := by decide +kernel
theorem dX8_count_157 : decode cX8_count 157 = .ok (.iconst (-1), 1) := by decide +kernel
theorem dX8_count_158 : decode cX8_count 158 = .ok (.ireturn, 1) := by decide +kernel
theorem dX8_within_0 : decode cX8_within 0 = .ok (.iload_n 0, 1) := by decide +kernel
theorem dX8_within_1 : decode cX8_within 1 = .ok (.iload_n 1, 1) := by decide +kernel
theorem dX8_within_2 : decode cX8_within 2 = .ok (.if_icmp .lt 12, 3) := by decide +kernel
theorem dX8_within_5 : decode cX8_within 5 = .ok (.iload_n 0, 1) := by decide +kernel
theorem dX8_within_6 : decode cX8_within 6 = .ok (.iload_n 2, 1) := by decide +kernel
theorem dX8_within_7 : decode cX8_within 7 = .ok (.if_icmp .gt 7, 3) := by decide +kernel
theorem dX8_within_10 : decode cX8_within 10 = .ok (.iconst 1, 1) := by decide +kernel
theorem dX8_within_11 : decode cX8_within 11 = .ok (.goto 4, 3) := by decide +kernel
theorem dX8_within_14 : decode cX8_within 14 = .ok (.iconst 0, 1) := by decide +kernel
theorem dX8_within_15 : decode cX8_within 15 = .ok (.ireturn, 1) := by decide +kernel
theorem dX8_begin_0 : decode cX8_begin 0 = .ok (.aload_n 0, 1) := by decide +kernel
theorem dX8_begin_1 : decode cX8_begin 1 = .ok (.getfield 29, 3) := by decide +kernel
theorem dX8_begin_4 : decode cX8_begin 4 = .ok (.aload_n 0, 1) := by decide +kernel
theorem dX8_begin_5 : decode cX8_begin 5 = .ok (.getfield 19, 3) := by decide +kernel
theorem dX8_begin_8 : decode cX8_begin 8 = .ok (.invokevirtual 292, 3) := by decide +kernel
theorem dX8_begin_11 : decode cX8_begin 11 = .ok (.aload_n 0, 1) := by decide +kernel
theorem dX8_begin_12 : decode cX8_begin 12 = .ok (.getfield 41, 3) := by decide +kernel
theorem dX8_begin_15 : decode cX8_begin 15 = .ok (.iconst 0, 1) := by decide +kernel
theorem dX8_begin_16 : decode cX8_begin 16 = .ok (.putfield 182, 3) := by decide +kernel
theorem dX8_begin_19 : decode cX8_begin 19 = .ok (.aload_n 0, 1) := by decide +kernel
theorem dX8_begin_20 : decode cX8_begin 20 = .ok (.getfield 45, 3) := by decide +kernel
theorem dX8_begin_23 : decode cX8_begin 23 = .ok (.iconst 0, 1) := by decide +kernel
theorem dX8_begin_24 : decode cX8_begin 24 = .ok (.putfield 182, 3) := by decide +kernel
theorem dX8_begin_27 : decode cX8_begin 27 = .ok (.aload_n 0, 1) := by decide +kernel
theorem dX8_begin_28 : decode cX8_begin 28 = .ok (.getfield 51, 3) := by decide +kernel
theorem dX8_begin_31 : decode cX8_begin 31 = .ok (.iconst 0, 1) := by decide +kernel
theorem dX8_begin_32 : decode cX8_begin 32 = .ok (.putfield 256, 3) := by decide +kernel
theorem dX8_begin_35 : decode cX8_begin 35 = .ok (.return_, 1) := by decide +kernel
theorem dX8_restOf_0 : decode cX8_restOf 0 = .ok (.iconst 0, 1) := by decide +kernel
theorem dX8_restOf_1 : decode cX8_restOf 1 = .ok (.istore_n 2, 1) := by decide +kernel
theorem dX8_restOf_2 : decode cX8_restOf 2 = .ok (.iconst 0, 1) := by decide +kernel
theorem dX8_restOf_3 : decode cX8_restOf 3 = .ok (.istore_n 3, 1) := by decide +kernel
theorem dX8_restOf_4 : decode cX8_restOf 4 = .ok (.iload_n 3, 1) := by decide +kernel
theorem dX8_restOf_5 : decode cX8_restOf 5 = .ok (.aload_n 0, 1) := by decide +kernel
theorem dX8_restOf_6 : decode cX8_restOf 6 = .ok (.getfield 106, 3) := by decide +kernel
theorem dX8_restOf_9 : decode cX8_restOf 9 = .ok (.if_icmp .ge 25, 3) := by decide +kernel
theorem dX8_restOf_12 : decode cX8_restOf 12 = .ok (.iload_n 2, 1) := by decide +kernel
theorem dX8_restOf_13 : decode cX8_restOf 13 = .ok (.aload_n 1, 1) := by decide +kernel
theorem dX8_restOf_14 : decode cX8_restOf 14 = .ok (.iload_n 3, 1) := by decide +kernel
theorem dX8_restOf_15 : decode cX8_restOf 15 = .ok (.invokevirtual 154, 3) := by decide +kernel
theorem dX8_restOf_18 : decode cX8_restOf 18 = .ok (.ifCond .eq 7, 3) := by decide +kernel
theorem dX8_restOf_21 : decode cX8_restOf 21 = .ok (.iconst 0, 1) := by decide +kernel
theorem dX8_restOf_22 : decode cX8_restOf 22 = .ok (.goto 4, 3) := by decide +kernel
theorem dX8_restOf_25 : decode cX8_restOf 25 = .ok (.iconst 1, 1) := by decide +kernel
theorem dX8_restOf_26 : decode cX8_restOf 26 = .ok (.iadd, 1) := by decide +kernel
theorem dX8_restOf_27 : decode cX8_restOf 27 = .ok (.istore_n 2, 1) := by decide +kernel
theorem dX8_restOf_28 : decode cX8_restOf 28 = .ok (.iinc 3 1, 3) := by decide +kernel
theorem dX8_restOf_31 : decode cX8_restOf 31 = .ok (.goto (-27), 3) := by decide +kernel
theorem dX8_restOf_34 : decode cX8_restOf 34 = .ok (.iload_n 2, 1) := by decide +kernel
theorem dX8_restOf_35 : decode cX8_restOf 35 = .ok (.ireturn, 1) := by decide +kernel
theorem dX8_howManyWept_0 : decode cX8_howManyWept 0 = .ok (.iconst 0, 1) := by decide +kernel
theorem dX8_howManyWept_1 : decode cX8_howManyWept 1 = .ok (.istore_n 1, 1) := by decide +kernel
theorem dX8_howManyWept_2 : decode cX8_howManyWept 2 = .ok (.iconst 0, 1) := by decide +kernel
theorem dX8_howManyWept_3 : decode cX8_howManyWept 3 = .ok (.istore_n 2, 1) := by decide +kernel
theorem dX8_howManyWept_4 : decode cX8_howManyWept 4 = .ok (.iload_n 2, 1) := by decide +kernel
theorem dX8_howManyWept_5 : decode cX8_howManyWept 5 = .ok (.aload_n 0, 1) := by decide +kernel
theorem dX8_howManyWept_6 : decode cX8_howManyWept 6 = .ok (.getfield 19, 3) := by decide +kernel
theorem dX8_howManyWept_9 : decode cX8_howManyWept 9 = .ok (.getfield 106, 3) := by decide +kernel
theorem dX8_howManyWept_12 : decode cX8_howManyWept 12 = .ok (.if_icmp .ge 21, 3) := by decide +kernel
theorem dX8_howManyWept_15 : decode cX8_howManyWept 15 = .ok (.iload_n 1, 1) := by decide +kernel
theorem dX8_howManyWept_16 : decode cX8_howManyWept 16 = .ok (.aload_n 0, 1) := by decide +kernel
theorem dX8_howManyWept_17 : decode cX8_howManyWept 17 = .ok (.getfield 29, 3) := by decide +kernel
theorem dX8_howManyWept_20 : decode cX8_howManyWept 20 = .ok (.getfield 160, 3) := by decide +kernel
theorem dX8_howManyWept_23 : decode cX8_howManyWept 23 = .ok (.iload_n 2, 1) := by decide +kernel
theorem dX8_howManyWept_24 : decode cX8_howManyWept 24 = .ok (.iaload, 1) := by decide +kernel
theorem dX8_howManyWept_25 : decode cX8_howManyWept 25 = .ok (.iadd, 1) := by decide +kernel
theorem dX8_howManyWept_26 : decode cX8_howManyWept 26 = .ok (.istore_n 1, 1) := by decide +kernel
theorem dX8_howManyWept_27 : decode cX8_howManyWept 27 = .ok (.iinc 2 1, 3) := by decide +kernel
theorem dX8_howManyWept_30 : decode cX8_howManyWept 30 = .ok (.goto (-26), 3) := by decide +kernel
theorem dX8_howManyWept_33 : decode cX8_howManyWept 33 = .ok (.iload_n 1, 1) := by decide +kernel
theorem dX8_howManyWept_34 : decode cX8_howManyWept 34 = .ok (.ireturn, 1) := by decide +kernel
theorem dX8_lateFrom_0 : decode cX8_lateFrom 0 = .ok (.aload_n 0, 1) := by decide +kernel
theorem dX8_lateFrom_1 : decode cX8_lateFrom 1 = .ok (.getfield 33, 3) := by decide +kernel
theorem dX8_lateFrom_4 : decode cX8_lateFrom 4 = .ok (.aload_n 0, 1) := by decide +kernel
theorem dX8_lateFrom_5 : decode cX8_lateFrom 5 = .ok (.getfield 29, 3) := by decide +kernel
theorem dX8_lateFrom_8 : decode cX8_lateFrom 8 = .ok (.invokevirtual 223, 3) := by decide +kernel
theorem dX8_lateFrom_11 : decode cX8_lateFrom 11 = .ok (.aload_n 0, 1) := by decide +kernel
theorem dX8_lateFrom_12 : decode cX8_lateFrom 12 = .ok (.getfield 19, 3) := by decide +kernel
theorem dX8_lateFrom_15 : decode cX8_lateFrom 15 = .ok (.aload_n 0, 1) := by decide +kernel
theorem dX8_lateFrom_16 : decode cX8_lateFrom 16 = .ok (.getfield 33, 3) := by decide +kernel
theorem dX8_lateFrom_19 : decode cX8_lateFrom 19 = .ok (.iload_n 1, 1) := by decide +kernel
theorem dX8_lateFrom_20 : decode cX8_lateFrom 20 = .ok (.iload_n 2, 1) := by decide +kernel
theorem dX8_lateFrom_21 : decode cX8_lateFrom 21 = .ok (.invokevirtual 171, 3) := by decide +kernel
theorem dX8_lateFrom_24 : decode cX8_lateFrom 24 = .ok (.iconst 0, 1) := by decide +kernel
theorem dX8_lateFrom_25 : decode cX8_lateFrom 25 = .ok (.istore_n 3, 1) := by decide +kernel
theorem dX8_lateFrom_26 : decode cX8_lateFrom 26 = .ok (.iconst 0, 1) := by decide +kernel
theorem dX8_lateFrom_27 : decode cX8_lateFrom 27 = .ok (.istore 4, 2) := by decide +kernel
theorem dX8_lateFrom_29 : decode cX8_lateFrom 29 = .ok (.iload 4, 2) := by decide +kernel
theorem dX8_lateFrom_31 : decode cX8_lateFrom 31 = .ok (.aload_n 0, 1) := by decide +kernel
theorem dX8_lateFrom_32 : decode cX8_lateFrom 32 = .ok (.getfield 19, 3) := by decide +kernel
theorem dX8_lateFrom_35 : decode cX8_lateFrom 35 = .ok (.getfield 106, 3) := by decide +kernel
theorem dX8_lateFrom_38 : decode cX8_lateFrom 38 = .ok (.if_icmp .ge 48, 3) := by decide +kernel
theorem dX8_lateFrom_41 : decode cX8_lateFrom 41 = .ok (.aload_n 0, 1) := by decide +kernel
theorem dX8_lateFrom_42 : decode cX8_lateFrom 42 = .ok (.getfield 33, 3) := by decide +kernel
theorem dX8_lateFrom_45 : decode cX8_lateFrom 45 = .ok (.iload 4, 2) := by decide +kernel
theorem dX8_lateFrom_47 : decode cX8_lateFrom 47 = .ok (.invokevirtual 154, 3) := by decide +kernel
theorem dX8_lateFrom_50 : decode cX8_lateFrom 50 = .ok (.ifCond .ne 30, 3) := by decide +kernel
theorem dX8_lateFrom_53 : decode cX8_lateFrom 53 = .ok (.aload_n 0, 1) := by decide +kernel
theorem dX8_lateFrom_54 : decode cX8_lateFrom 54 = .ok (.getfield 19, 3) := by decide +kernel
theorem dX8_lateFrom_57 : decode cX8_lateFrom 57 = .ok (.aload_n 0, 1) := by decide +kernel
theorem dX8_lateFrom_58 : decode cX8_lateFrom 58 = .ok (.getfield 33, 3) := by decide +kernel
theorem dX8_lateFrom_61 : decode cX8_lateFrom 61 = .ok (.iload_n 1, 1) := by decide +kernel
theorem dX8_lateFrom_62 : decode cX8_lateFrom 62 = .ok (.iload 4, 2) := by decide +kernel
theorem dX8_lateFrom_64 : decode cX8_lateFrom 64 = .ok (.invokevirtual 185, 3) := by decide +kernel
theorem dX8_lateFrom_67 : decode cX8_lateFrom 67 = .ok (.iload_n 3, 1) := by decide +kernel
theorem dX8_lateFrom_68 : decode cX8_lateFrom 68 = .ok (.aload_n 0, 1) := by decide +kernel
theorem dX8_lateFrom_69 : decode cX8_lateFrom 69 = .ok (.getfield 19, 3) := by decide +kernel
theorem dX8_lateFrom_72 : decode cX8_lateFrom 72 = .ok (.getfield 188, 3) := by decide +kernel
theorem dX8_lateFrom_75 : decode cX8_lateFrom 75 = .ok (.getfield 196, 3) := by decide +kernel
theorem dX8_lateFrom_78 : decode cX8_lateFrom 78 = .ok (.iadd, 1) := by decide +kernel
theorem dX8_lateFrom_79 : decode cX8_lateFrom 79 = .ok (.istore_n 3, 1) := by decide +kernel
theorem dX8_lateFrom_80 : decode cX8_lateFrom 80 = .ok (.iinc 4 1, 3) := by decide +kernel
theorem dX8_lateFrom_83 : decode cX8_lateFrom 83 = .ok (.goto (-54), 3) := by decide +kernel
theorem dX8_lateFrom_86 : decode cX8_lateFrom 86 = .ok (.iload_n 3, 1) := by decide +kernel
theorem dX8_lateFrom_87 : decode cX8_lateFrom 87 = .ok (.ireturn, 1) := by decide +kernel
theorem dX8_liveOneDay_0 : decode cX8_liveOneDay 0 = .ok (.aload_n 0, 1) := by decide +kernel
theorem dX8_liveOneDay_1 : decode cX8_liveOneDay 1 = .ok (.getfield 33, 3) := by decide +kernel
theorem dX8_liveOneDay_4 : decode cX8_liveOneDay 4 = .ok (.invokevirtual 295, 3) := by decide +kernel
theorem dX8_liveOneDay_7 : decode cX8_liveOneDay 7 = .ok (.iconst 0, 1) := by decide +kernel
theorem dX8_liveOneDay_8 : decode cX8_liveOneDay 8 = .ok (.istore_n 1, 1) := by decide +kernel
theorem dX8_liveOneDay_9 : decode cX8_liveOneDay 9 = .ok (.iload_n 1, 1) := by decide +kernel
theorem dX8_liveOneDay_10 : decode cX8_liveOneDay 10 = .ok (.aload_n 0, 1) := by decide +kernel
theorem dX8_liveOneDay_11 : decode cX8_liveOneDay 11 = .ok (.getfield 19, 3) := by decide +kernel
theorem dX8_liveOneDay_14 : decode cX8_liveOneDay 14 = .ok (.getfield 106, 3) := by decide +kernel
theorem dX8_liveOneDay_17 : decode cX8_liveOneDay 17 = .ok (.if_icmp .ge 22, 3) := by decide +kernel
theorem dX8_liveOneDay_20 : decode cX8_liveOneDay 20 = .ok (.aload_n 0, 1) := by decide +kernel
theorem dX8_liveOneDay_21 : decode cX8_liveOneDay 21 = .ok (.getfield 19, 3) := by decide +kernel
theorem dX8_liveOneDay_24 : decode cX8_liveOneDay 24 = .ok (.aload_n 0, 1) := by decide +kernel
theorem dX8_liveOneDay_25 : decode cX8_liveOneDay 25 = .ok (.getfield 33, 3) := by decide +kernel
theorem dX8_liveOneDay_28 : decode cX8_liveOneDay 28 = .ok (.iload_n 1, 1) := by decide +kernel
theorem dX8_liveOneDay_29 : decode cX8_liveOneDay 29 = .ok (.invokevirtual 240, 3) := by decide +kernel
theorem dX8_liveOneDay_32 : decode cX8_liveOneDay 32 = .ok (.pop, 1) := by decide +kernel
theorem dX8_liveOneDay_33 : decode cX8_liveOneDay 33 = .ok (.iinc 1 1, 3) := by decide +kernel
theorem dX8_liveOneDay_36 : decode cX8_liveOneDay 36 = .ok (.goto (-27), 3) := by decide +kernel
theorem dX8_liveOneDay_39 : decode cX8_liveOneDay 39 = .ok (.return_, 1) := by decide +kernel
theorem dX8_dayLike_0 : decode cX8_dayLike 0 = .ok (.iconst 0, 1) := by decide +kernel
theorem dX8_dayLike_1 : decode cX8_dayLike 1 = .ok (.istore_n 2, 1) := by decide +kernel
theorem dX8_dayLike_2 : decode cX8_dayLike 2 = .ok (.iload_n 2, 1) := by decide +kernel
theorem dX8_dayLike_3 : decode cX8_dayLike 3 = .ok (.iload_n 1, 1) := by decide +kernel
theorem dX8_dayLike_4 : decode cX8_dayLike 4 = .ok (.if_icmp .ge 27, 3) := by decide +kernel
theorem dX8_dayLike_7 : decode cX8_dayLike 7 = .ok (.aload_n 0, 1) := by decide +kernel
theorem dX8_dayLike_8 : decode cX8_dayLike 8 = .ok (.getfield 69, 3) := by decide +kernel
theorem dX8_dayLike_11 : decode cX8_dayLike 11 = .ok (.iload_n 2, 1) := by decide +kernel
theorem dX8_dayLike_12 : decode cX8_dayLike 12 = .ok (.laload, 1) := by decide +kernel
theorem dX8_dayLike_13 : decode cX8_dayLike 13 = .ok (.aload_n 0, 1) := by decide +kernel
theorem dX8_dayLike_14 : decode cX8_dayLike 14 = .ok (.getfield 69, 3) := by decide +kernel
theorem dX8_dayLike_17 : decode cX8_dayLike 17 = .ok (.iload_n 1, 1) := by decide +kernel
theorem dX8_dayLike_18 : decode cX8_dayLike 18 = .ok (.laload, 1) := by decide +kernel
theorem dX8_dayLike_19 : decode cX8_dayLike 19 = .ok (.lcmp, 1) := by decide +kernel
theorem dX8_dayLike_20 : decode cX8_dayLike 20 = .ok (.ifCond .ne 5, 3) := by decide +kernel
theorem dX8_dayLike_23 : decode cX8_dayLike 23 = .ok (.iload_n 2, 1) := by decide +kernel
theorem dX8_dayLike_24 : decode cX8_dayLike 24 = .ok (.ireturn, 1) := by decide +kernel
theorem dX8_dayLike_25 : decode cX8_dayLike 25 = .ok (.iinc 2 1, 3) := by decide +kernel
theorem dX8_dayLike_28 : decode cX8_dayLike 28 = .ok (.goto (-26), 3) := by decide +kernel
theorem dX8_dayLike_31 : decode cX8_dayLike 31 = .ok (.iload_n 1, 1) := by decide +kernel
theorem dX8_dayLike_32 : decode cX8_dayLike 32 = .ok (.ireturn, 1) := by decide +kernel
theorem dX8_tearsOfOthers_0 : decode cX8_tearsOfOthers 0 = .ok (.iconst 0, 1) := by decide +kernel
theorem dX8_tearsOfOthers_1 : decode cX8_tearsOfOthers 1 = .ok (.istore_n 2, 1) := by decide +kernel
theorem dX8_tearsOfOthers_2 : decode cX8_tearsOfOthers 2 = .ok (.iconst 0, 1) := by decide +kernel
theorem dX8_tearsOfOthers_3 : decode cX8_tearsOfOthers 3 = .ok (.istore_n 3, 1) := by decide +kernel
theorem dX8_tearsOfOthers_4 : decode cX8_tearsOfOthers 4 = .ok (.iload_n 3, 1) := by decide +kernel
theorem dX8_tearsOfOthers_5 : decode cX8_tearsOfOthers 5 = .ok (.aload_n 0, 1) := by decide +kernel
theorem dX8_tearsOfOthers_6 : decode cX8_tearsOfOthers 6 = .ok (.getfield 19, 3) := by decide +kernel
theorem dX8_tearsOfOthers_9 : decode cX8_tearsOfOthers 9 = .ok (.getfield 106, 3) := by decide +kernel
theorem dX8_tearsOfOthers_12 : decode cX8_tearsOfOthers 12 = .ok (.if_icmp .ge 48, 3) := by decide +kernel
theorem dX8_tearsOfOthers_15 : decode cX8_tearsOfOthers 15 = .ok (.iload_n 3, 1) := by decide +kernel
theorem dX8_tearsOfOthers_16 : decode cX8_tearsOfOthers 16 = .ok (.iload_n 1, 1) := by decide +kernel
theorem dX8_tearsOfOthers_17 : decode cX8_tearsOfOthers 17 = .ok (.if_icmp .eq 37, 3) := by decide +kernel
theorem dX8_tearsOfOthers_20 : decode cX8_tearsOfOthers 20 = .ok (.aload_n 0, 1) := by decide +kernel
theorem dX8_tearsOfOthers_21 : decode cX8_tearsOfOthers 21 = .ok (.getfield 33, 3) := by decide +kernel
theorem dX8_tearsOfOthers_24 : decode cX8_tearsOfOthers 24 = .ok (.iload_n 3, 1) := by decide +kernel
theorem dX8_tearsOfOthers_25 : decode cX8_tearsOfOthers 25 = .ok (.invokevirtual 154, 3) := by decide +kernel
theorem dX8_tearsOfOthers_28 : decode cX8_tearsOfOthers 28 = .ok (.ifCond .ne 26, 3) := by decide +kernel
theorem dX8_tearsOfOthers_31 : decode cX8_tearsOfOthers 31 = .ok (.iload_n 2, 1) := by decide +kernel
theorem dX8_tearsOfOthers_32 : decode cX8_tearsOfOthers 32 = .ok (.aload_n 0, 1) := by decide +kernel
theorem dX8_tearsOfOthers_33 : decode cX8_tearsOfOthers 33 = .ok (.getfield 19, 3) := by decide +kernel
theorem dX8_tearsOfOthers_36 : decode cX8_tearsOfOthers 36 = .ok (.aload_n 0, 1) := by decide +kernel
theorem dX8_tearsOfOthers_37 : decode cX8_tearsOfOthers 37 = .ok (.getfield 33, 3) := by decide +kernel
theorem dX8_tearsOfOthers_40 : decode cX8_tearsOfOthers 40 = .ok (.iload_n 3, 1) := by decide +kernel
theorem dX8_tearsOfOthers_41 : decode cX8_tearsOfOthers 41 = .ok (.invokevirtual 240, 3) := by decide +kernel
theorem dX8_tearsOfOthers_44 : decode cX8_tearsOfOthers 44 = .ok (.ifCond .eq 7, 3) := by decide +kernel
theorem dX8_tearsOfOthers_47 : decode cX8_tearsOfOthers 47 = .ok (.iconst 1, 1) := by decide +kernel
theorem dX8_tearsOfOthers_48 : decode cX8_tearsOfOthers 48 = .ok (.goto 4, 3) := by decide +kernel
theorem dX8_tearsOfOthers_51 : decode cX8_tearsOfOthers 51 = .ok (.iconst 0, 1) := by decide +kernel
theorem dX8_tearsOfOthers_52 : decode cX8_tearsOfOthers 52 = .ok (.iadd, 1) := by decide +kernel
theorem dX8_tearsOfOthers_53 : decode cX8_tearsOfOthers 53 = .ok (.istore_n 2, 1) := by decide +kernel
theorem dX8_tearsOfOthers_54 : decode cX8_tearsOfOthers 54 = .ok (.iinc 3 1, 3) := by decide +kernel
theorem dX8_tearsOfOthers_57 : decode cX8_tearsOfOthers 57 = .ok (.goto (-53), 3) := by decide +kernel
theorem dX8_tearsOfOthers_60 : decode cX8_tearsOfOthers 60 = .ok (.iload_n 2, 1) := by decide +kernel
theorem dX8_tearsOfOthers_61 : decode cX8_tearsOfOthers 61 = .ok (.ireturn, 1) := by decide +kernel
theorem dX8_fitsSeen_0 : decode cX8_fitsSeen 0 = .ok (.iconst 0, 1) := by decide +kernel
theorem dX8_fitsSeen_1 : decode cX8_fitsSeen 1 = .ok (.istore 4, 2) := by decide +kernel
theorem dX8_fitsSeen_3 : decode cX8_fitsSeen 3 = .ok (.iload 4, 2) := by decide +kernel
theorem dX8_fitsSeen_5 : decode cX8_fitsSeen 5 = .ok (.aload_n 0, 1) := by decide +kernel
theorem dX8_fitsSeen_6 : decode cX8_fitsSeen 6 = .ok (.getfield 51, 3) := by decide +kernel
theorem dX8_fitsSeen_9 : decode cX8_fitsSeen 9 = .ok (.getfield 256, 3) := by decide +kernel
theorem dX8_fitsSeen_12 : decode cX8_fitsSeen 12 = .ok (.if_icmp .ge 72, 3) := by decide +kernel
theorem dX8_fitsSeen_15 : decode cX8_fitsSeen 15 = .ok (.aload_n 0, 1) := by decide +kernel
theorem dX8_fitsSeen_16 : decode cX8_fitsSeen 16 = .ok (.getfield 51, 3) := by decide +kernel
theorem dX8_fitsSeen_19 : decode cX8_fitsSeen 19 = .ok (.getfield 298, 3) := by decide +kernel
theorem dX8_fitsSeen_22 : decode cX8_fitsSeen 22 = .ok (.iload 4, 2) := by decide +kernel
theorem dX8_fitsSeen_24 : decode cX8_fitsSeen 24 = .ok (.iaload, 1) := by decide +kernel
theorem dX8_fitsSeen_25 : decode cX8_fitsSeen 25 = .ok (.iload_n 1, 1) := by decide +kernel
theorem dX8_fitsSeen_26 : decode cX8_fitsSeen 26 = .ok (.if_icmp .ne 52, 3) := by decide +kernel
theorem dX8_fitsSeen_29 : decode cX8_fitsSeen 29 = .ok (.aload_n 0, 1) := by decide +kernel
theorem dX8_fitsSeen_30 : decode cX8_fitsSeen 30 = .ok (.getfield 19, 3) := by decide +kernel
theorem dX8_fitsSeen_33 : decode cX8_fitsSeen 33 = .ok (.aload_n 0, 1) := by decide +kernel
theorem dX8_fitsSeen_34 : decode cX8_fitsSeen 34 = .ok (.getfield 29, 3) := by decide +kernel
theorem dX8_fitsSeen_37 : decode cX8_fitsSeen 37 = .ok (.iload_n 1, 1) := by decide +kernel
theorem dX8_fitsSeen_38 : decode cX8_fitsSeen 38 = .ok (.aload_n 0, 1) := by decide +kernel
theorem dX8_fitsSeen_39 : decode cX8_fitsSeen 39 = .ok (.getfield 51, 3) := by decide +kernel
theorem dX8_fitsSeen_42 : decode cX8_fitsSeen 42 = .ok (.getfield 301, 3) := by decide +kernel
theorem dX8_fitsSeen_45 : decode cX8_fitsSeen 45 = .ok (.iload 4, 2) := by decide +kernel
theorem dX8_fitsSeen_47 : decode cX8_fitsSeen 47 = .ok (.iaload, 1) := by decide +kernel
theorem dX8_fitsSeen_48 : decode cX8_fitsSeen 48 = .ok (.iload_n 2, 1) := by decide +kernel
theorem dX8_fitsSeen_49 : decode cX8_fitsSeen 49 = .ok (.iload_n 3, 1) := by decide +kernel
theorem dX8_fitsSeen_50 : decode cX8_fitsSeen 50 = .ok (.invokevirtual 304, 3) := by decide +kernel
theorem dX8_fitsSeen_53 : decode cX8_fitsSeen 53 = .ok (.aload_n 0, 1) := by decide +kernel
theorem dX8_fitsSeen_54 : decode cX8_fitsSeen 54 = .ok (.getfield 19, 3) := by decide +kernel
theorem dX8_fitsSeen_57 : decode cX8_fitsSeen 57 = .ok (.getfield 188, 3) := by decide +kernel
theorem dX8_fitsSeen_60 : decode cX8_fitsSeen 60 = .ok (.getfield 192, 3) := by decide +kernel
theorem dX8_fitsSeen_63 : decode cX8_fitsSeen 63 = .ok (.aload_n 0, 1) := by decide +kernel
theorem dX8_fitsSeen_64 : decode cX8_fitsSeen 64 = .ok (.getfield 51, 3) := by decide +kernel
theorem dX8_fitsSeen_67 : decode cX8_fitsSeen 67 = .ok (.getfield 308, 3) := by decide +kernel
theorem dX8_fitsSeen_70 : decode cX8_fitsSeen 70 = .ok (.iload 4, 2) := by decide +kernel
theorem dX8_fitsSeen_72 : decode cX8_fitsSeen 72 = .ok (.iaload, 1) := by decide +kernel
theorem dX8_fitsSeen_73 : decode cX8_fitsSeen 73 = .ok (.if_icmp .eq 5, 3) := by decide +kernel
theorem dX8_fitsSeen_76 : decode cX8_fitsSeen 76 = .ok (.iconst 0, 1) := by decide +kernel
theorem dX8_fitsSeen_77 : decode cX8_fitsSeen 77 = .ok (.ireturn, 1) := by decide +kernel
theorem dX8_fitsSeen_78 : decode cX8_fitsSeen 78 = .ok (.iinc 4 1, 3) := by decide +kernel
theorem dX8_fitsSeen_81 : decode cX8_fitsSeen 81 = .ok (.goto (-78), 3) := by decide +kernel
theorem dX8_fitsSeen_84 : decode cX8_fitsSeen 84 = .ok (.iconst 1, 1) := by decide +kernel
theorem dX8_fitsSeen_85 : decode cX8_fitsSeen 85 = .ok (.ireturn, 1) := by decide +kernel
theorem dX8_lateAmong_0 : decode cX8_lateAmong 0 = .ok (.aload_n 0, 1) := by decide +kernel
theorem dX8_lateAmong_1 : decode cX8_lateAmong 1 = .ok (.getfield 33, 3) := by decide +kernel
theorem dX8_lateAmong_4 : decode cX8_lateAmong 4 = .ok (.aload_n 0, 1) := by decide +kernel
theorem dX8_lateAmong_5 : decode cX8_lateAmong 5 = .ok (.getfield 29, 3) := by decide +kernel
theorem dX8_lateAmong_8 : decode cX8_lateAmong 8 = .ok (.invokevirtual 223, 3) := by decide +kernel
theorem dX8_lateAmong_11 : decode cX8_lateAmong 11 = .ok (.iconst 0, 1) := by decide +kernel
theorem dX8_lateAmong_12 : decode cX8_lateAmong 12 = .ok (.istore_n 2, 1) := by decide +kernel
theorem dX8_lateAmong_13 : decode cX8_lateAmong 13 = .ok (.iload_n 1, 1) := by decide +kernel
theorem dX8_lateAmong_14 : decode cX8_lateAmong 14 = .ok (.istore_n 3, 1) := by decide +kernel
theorem dX8_lateAmong_15 : decode cX8_lateAmong 15 = .ok (.iconst 0, 1) := by decide +kernel
theorem dX8_lateAmong_16 : decode cX8_lateAmong 16 = .ok (.istore 4, 2) := by decide +kernel
theorem dX8_lateAmong_18 : decode cX8_lateAmong 18 = .ok (.iload 4, 2) := by decide +kernel
theorem dX8_lateAmong_20 : decode cX8_lateAmong 20 = .ok (.aload_n 0, 1) := by decide +kernel
theorem dX8_lateAmong_21 : decode cX8_lateAmong 21 = .ok (.getfield 19, 3) := by decide +kernel
theorem dX8_lateAmong_24 : decode cX8_lateAmong 24 = .ok (.getfield 106, 3) := by decide +kernel
theorem dX8_lateAmong_27 : decode cX8_lateAmong 27 = .ok (.if_icmp .ge 113, 3) := by decide +kernel
theorem dX8_lateAmong_30 : decode cX8_lateAmong 30 = .ok (.aload_n 0, 1) := by decide +kernel
theorem dX8_lateAmong_31 : decode cX8_lateAmong 31 = .ok (.getfield 33, 3) := by decide +kernel
theorem dX8_lateAmong_34 : decode cX8_lateAmong 34 = .ok (.iload 4, 2) := by decide +kernel
theorem dX8_lateAmong_36 : decode cX8_lateAmong 36 = .ok (.invokevirtual 154, 3) := by decide +kernel
theorem dX8_lateAmong_39 : decode cX8_lateAmong 39 = .ok (.ifCond .ne 95, 3) := by decide +kernel
theorem dX8_lateAmong_42 : decode cX8_lateAmong 42 = .ok (.aload_n 0, 1) := by decide +kernel
theorem dX8_lateAmong_43 : decode cX8_lateAmong 43 = .ok (.getfield 19, 3) := by decide +kernel
theorem dX8_lateAmong_46 : decode cX8_lateAmong 46 = .ok (.aload_n 0, 1) := by decide +kernel
theorem dX8_lateAmong_47 : decode cX8_lateAmong 47 = .ok (.getfield 33, 3) := by decide +kernel
theorem dX8_lateAmong_50 : decode cX8_lateAmong 50 = .ok (.iload 4, 2) := by decide +kernel
theorem dX8_lateAmong_52 : decode cX8_lateAmong 52 = .ok (.invokevirtual 205, 3) := by decide +kernel
theorem dX8_lateAmong_55 : decode cX8_lateAmong 55 = .ok (.istore 5, 2) := by decide +kernel
theorem dX8_lateAmong_57 : decode cX8_lateAmong 57 = .ok (.aload_n 0, 1) := by decide +kernel
theorem dX8_lateAmong_58 : decode cX8_lateAmong 58 = .ok (.getfield 19, 3) := by decide +kernel
theorem dX8_lateAmong_61 : decode cX8_lateAmong 61 = .ok (.aload_n 0, 1) := by decide +kernel
theorem dX8_lateAmong_62 : decode cX8_lateAmong 62 = .ok (.getfield 33, 3) := by decide +kernel
theorem dX8_lateAmong_65 : decode cX8_lateAmong 65 = .ok (.iload 5, 2) := by decide +kernel
theorem dX8_lateAmong_67 : decode cX8_lateAmong 67 = .ok (.iload 4, 2) := by decide +kernel
theorem dX8_lateAmong_69 : decode cX8_lateAmong 69 = .ok (.invokevirtual 185, 3) := by decide +kernel
theorem dX8_lateAmong_72 : decode cX8_lateAmong 72 = .ok (.iload_n 2, 1) := by decide +kernel
theorem dX8_lateAmong_73 : decode cX8_lateAmong 73 = .ok (.aload_n 0, 1) := by decide +kernel
theorem dX8_lateAmong_74 : decode cX8_lateAmong 74 = .ok (.getfield 19, 3) := by decide +kernel
theorem dX8_lateAmong_77 : decode cX8_lateAmong 77 = .ok (.getfield 188, 3) := by decide +kernel
theorem dX8_lateAmong_80 : decode cX8_lateAmong 80 = .ok (.getfield 196, 3) := by decide +kernel
theorem dX8_lateAmong_83 : decode cX8_lateAmong 83 = .ok (.aload_n 0, 1) := by decide +kernel
theorem dX8_lateAmong_84 : decode cX8_lateAmong 84 = .ok (.getfield 19, 3) := by decide +kernel
theorem dX8_lateAmong_87 : decode cX8_lateAmong 87 = .ok (.getfield 151, 3) := by decide +kernel
theorem dX8_lateAmong_90 : decode cX8_lateAmong 90 = .ok (.iload 4, 2) := by decide +kernel
theorem dX8_lateAmong_92 : decode cX8_lateAmong 92 = .ok (.iaload, 1) := by decide +kernel
theorem dX8_lateAmong_93 : decode cX8_lateAmong 93 = .ok (.if_icmp .le 7, 3) := by decide +kernel
theorem dX8_lateAmong_96 : decode cX8_lateAmong 96 = .ok (.iconst 1, 1) := by decide +kernel
theorem dX8_lateAmong_97 : decode cX8_lateAmong 97 = .ok (.goto 4, 3) := by decide +kernel
theorem dX8_lateAmong_100 : decode cX8_lateAmong 100 = .ok (.iconst 0, 1) := by decide +kernel
theorem dX8_lateAmong_101 : decode cX8_lateAmong 101 = .ok (.iadd, 1) := by decide +kernel
theorem dX8_lateAmong_102 : decode cX8_lateAmong 102 = .ok (.istore_n 2, 1) := by decide +kernel
theorem dX8_lateAmong_103 : decode cX8_lateAmong 103 = .ok (.aload_n 0, 1) := by decide +kernel
theorem dX8_lateAmong_104 : decode cX8_lateAmong 104 = .ok (.getfield 19, 3) := by decide +kernel
theorem dX8_lateAmong_107 : decode cX8_lateAmong 107 = .ok (.aload_n 0, 1) := by decide +kernel
theorem dX8_lateAmong_108 : decode cX8_lateAmong 108 = .ok (.getfield 33, 3) := by decide +kernel
theorem dX8_lateAmong_111 : decode cX8_lateAmong 111 = .ok (.iload 5, 2) := by decide +kernel
theorem dX8_lateAmong_113 : decode cX8_lateAmong 113 = .ok (.iload 4, 2) := by decide +kernel
theorem dX8_lateAmong_115 : decode cX8_lateAmong 115 = .ok (.iload_n 3, 1) := by decide +kernel
theorem dX8_lateAmong_116 : decode cX8_lateAmong 116 = .ok (.iconst 1, 1) := by decide +kernel
theorem dX8_lateAmong_117 : decode cX8_lateAmong 117 = .ok (.iand, 1) := by decide +kernel
theorem dX8_lateAmong_118 : decode cX8_lateAmong 118 = .ok (.iconst 1, 1) := by decide +kernel
theorem dX8_lateAmong_119 : decode cX8_lateAmong 119 = .ok (.if_icmp .ne 7, 3) := by decide +kernel
theorem dX8_lateAmong_122 : decode cX8_lateAmong 122 = .ok (.iconst 1, 1) := by decide +kernel
theorem dX8_lateAmong_123 : decode cX8_lateAmong 123 = .ok (.goto 4, 3) := by decide +kernel
theorem dX8_lateAmong_126 : decode cX8_lateAmong 126 = .ok (.iconst 0, 1) := by decide +kernel
theorem dX8_lateAmong_127 : decode cX8_lateAmong 127 = .ok (.invokevirtual 311, 3) := by decide +kernel
theorem dX8_lateAmong_130 : decode cX8_lateAmong 130 = .ok (.iload_n 3, 1) := by decide +kernel
theorem dX8_lateAmong_131 : decode cX8_lateAmong 131 = .ok (.iconst 1, 1) := by decide +kernel
theorem dX8_lateAmong_132 : decode cX8_lateAmong 132 = .ok (.ishr, 1) := by decide +kernel
theorem dX8_lateAmong_133 : decode cX8_lateAmong 133 = .ok (.istore_n 3, 1) := by decide +kernel
theorem dX8_lateAmong_134 : decode cX8_lateAmong 134 = .ok (.iinc 4 1, 3) := by decide +kernel
theorem dX8_lateAmong_137 : decode cX8_lateAmong 137 = .ok (.goto (-119), 3) := by decide +kernel
theorem dX8_lateAmong_140 : decode cX8_lateAmong 140 = .ok (.iload_n 2, 1) := by decide +kernel
theorem dX8_lateAmong_141 : decode cX8_lateAmong 141 = .ok (.ireturn, 1) := by decide +kernel
theorem dX8_drawn_0 : decode cX8_drawn 0 = .ok (.ldc2_w 315, 3) := by decide +kernel
theorem dX8_drawn_3 : decode cX8_drawn 3 = .ok (.iload_n 0, 1) := by decide +kernel
theorem dX8_drawn_4 : decode cX8_drawn 4 = .ok (.i2l, 1) := by decide +kernel
theorem dX8_drawn_5 : decode cX8_drawn 5 = .ok (.lmul, 1) := by decide +kernel
theorem dX8_drawn_6 : decode cX8_drawn 6 = .ok (.ldc2_w 317, 3) := by decide +kernel
theorem dX8_drawn_9 : decode cX8_drawn 9 = .ok (.iload_n 1, 1) := by decide +kernel
theorem dX8_drawn_10 : decode cX8_drawn 10 = .ok (.i2l, 1) := by decide +kernel
theorem dX8_drawn_11 : decode cX8_drawn 11 = .ok (.lmul, 1) := by decide +kernel
theorem dX8_drawn_12 : decode cX8_drawn 12 = .ok (.ladd, 1) := by decide +kernel
theorem dX8_drawn_13 : decode cX8_drawn 13 = .ok (.lconst 1, 1) := by decide +kernel
theorem dX8_drawn_14 : decode cX8_drawn 14 = .ok (.ladd, 1) := by decide +kernel
theorem dX8_drawn_15 : decode cX8_drawn 15 = .ok (.lstore_n 2, 1) := by decide +kernel
theorem dX8_drawn_16 : decode cX8_drawn 16 = .ok (.lload_n 2, 1) := by decide +kernel
theorem dX8_drawn_17 : decode cX8_drawn 17 = .ok (.lload_n 2, 1) := by decide +kernel
theorem dX8_drawn_18 : decode cX8_drawn 18 = .ok (.lmul, 1) := by decide +kernel
theorem dX8_drawn_19 : decode cX8_drawn 19 = .ok (.ldc2_w 319, 3) := by decide +kernel
theorem dX8_drawn_22 : decode cX8_drawn 22 = .ok (.lrem, 1) := by decide +kernel
theorem dX8_drawn_23 : decode cX8_drawn 23 = .ok (.l2i, 1) := by decide +kernel
theorem dX8_drawn_24 : decode cX8_drawn 24 = .ok (.ireturn, 1) := by decide +kernel
theorem dX8_power_0 : decode cX8_power 0 = .ok (.iconst 1, 1) := by decide +kernel
theorem dX8_power_1 : decode cX8_power 1 = .ok (.istore_n 2, 1) := by decide +kernel
theorem dX8_power_2 : decode cX8_power 2 = .ok (.iconst 0, 1) := by decide +kernel
theorem dX8_power_3 : decode cX8_power 3 = .ok (.istore_n 3, 1) := by decide +kernel
theorem dX8_power_4 : decode cX8_power 4 = .ok (.iload_n 3, 1) := by decide +kernel
theorem dX8_power_5 : decode cX8_power 5 = .ok (.iload_n 1, 1) := by decide +kernel
theorem dX8_power_6 : decode cX8_power 6 = .ok (.if_icmp .ge 13, 3) := by decide +kernel
theorem dX8_power_9 : decode cX8_power 9 = .ok (.iload_n 2, 1) := by decide +kernel
theorem dX8_power_10 : decode cX8_power 10 = .ok (.iload_n 0, 1) := by decide +kernel
theorem dX8_power_11 : decode cX8_power 11 = .ok (.imul, 1) := by decide +kernel
theorem dX8_power_12 : decode cX8_power 12 = .ok (.istore_n 2, 1) := by decide +kernel
theorem dX8_power_13 : decode cX8_power 13 = .ok (.iinc 3 1, 3) := by decide +kernel
theorem dX8_power_16 : decode cX8_power 16 = .ok (.goto (-12), 3) := by decide +kernel
theorem dX8_power_19 : decode cX8_power 19 = .ok (.iload_n 2, 1) := by decide +kernel
theorem dX8_power_20 : decode cX8_power 20 = .ok (.ireturn, 1) := by decide +kernel
theorem dX8_commonDivisor_0 : decode cX8_commonDivisor 0 = .ok (.iload_n 0, 1) := by decide +kernel
theorem dX8_commonDivisor_1 : decode cX8_commonDivisor 1 = .ok (.istore_n 2, 1) := by decide +kernel
theorem dX8_commonDivisor_2 : decode cX8_commonDivisor 2 = .ok (.iload_n 1, 1) := by decide +kernel
theorem dX8_commonDivisor_3 : decode cX8_commonDivisor 3 = .ok (.istore_n 3, 1) := by decide +kernel
theorem dX8_commonDivisor_4 : decode cX8_commonDivisor 4 = .ok (.iconst 0, 1) := by decide +kernel
theorem dX8_commonDivisor_5 : decode cX8_commonDivisor 5 = .ok (.istore 4, 2) := by decide +kernel
theorem dX8_commonDivisor_7 : decode cX8_commonDivisor 7 = .ok (.iload 4, 2) := by decide +kernel
theorem dX8_commonDivisor_9 : decode cX8_commonDivisor 9 = .ok (.bipush 64, 2) := by decide +kernel
theorem dX8_commonDivisor_11 : decode cX8_commonDivisor 11 = .ok (.if_icmp .ge 23, 3) := by decide +kernel
theorem dX8_commonDivisor_14 : decode cX8_commonDivisor 14 = .ok (.iload_n 3, 1) := by decide +kernel
theorem dX8_commonDivisor_15 : decode cX8_commonDivisor 15 = .ok (.ifCond .eq 19, 3) := by decide +kernel
theorem dX8_commonDivisor_18 : decode cX8_commonDivisor 18 = .ok (.iload_n 2, 1) := by decide +kernel
theorem dX8_commonDivisor_19 : decode cX8_commonDivisor 19 = .ok (.iload_n 3, 1) := by decide +kernel
theorem dX8_commonDivisor_20 : decode cX8_commonDivisor 20 = .ok (.irem, 1) := by decide +kernel
theorem dX8_commonDivisor_21 : decode cX8_commonDivisor 21 = .ok (.istore 5, 2) := by decide +kernel
theorem dX8_commonDivisor_23 : decode cX8_commonDivisor 23 = .ok (.iload_n 3, 1) := by decide +kernel
theorem dX8_commonDivisor_24 : decode cX8_commonDivisor 24 = .ok (.istore_n 2, 1) := by decide +kernel
theorem dX8_commonDivisor_25 : decode cX8_commonDivisor 25 = .ok (.iload 5, 2) := by decide +kernel
theorem dX8_commonDivisor_27 : decode cX8_commonDivisor 27 = .ok (.istore_n 3, 1) := by decide +kernel
theorem dX8_commonDivisor_28 : decode cX8_commonDivisor 28 = .ok (.iinc 4 1, 3) := by decide +kernel
theorem dX8_commonDivisor_31 : decode cX8_commonDivisor 31 = .ok (.goto (-24), 3) := by decide +kernel
theorem dX8_commonDivisor_34 : decode cX8_commonDivisor 34 = .ok (.iload_n 2, 1) := by decide +kernel
theorem dX8_commonDivisor_35 : decode cX8_commonDivisor 35 = .ok (.ireturn, 1) := by decide +kernel
