theorem dX8_night_42 : decode cX8_night 42 = .ok (.getfield 10, 3) := by decide +kernel
theorem dX8_night_45 : decode cX8_night 45 = .ok (.getfield 96, 3) := by decide +kernel
theorem dX8_night_48 : decode cX8_night 48 = .ok (.if_icmp .ge 46, 3) := by decide +kernel
theorem dX8_night_51 : decode cX8_night 51 = .ok (.iload_n 3, 1) := by decide +kernel
theorem dX8_night_52 : decode cX8_night 52 = .ok (.ifCond .ne 42, 3) := by decide +kernel
theorem dX8_night_55 : decode cX8_night 55 = .ok (.aload_n 0, 1) := by decide +kernel
theorem dX8_night_56 : decode cX8_night 56 = .ok (.iload 4, 2) := by decide +kernel
theorem dX8_night_58 : decode cX8_night 58 = .ok (.invokevirtual 228, 3) := by decide +kernel
theorem dX8_night_61 : decode cX8_night 61 = .ok (.ifCond .ge 8, 3) := by decide +kernel
theorem dX8_night_64 : decode cX8_night 64 = .ok (.iconst 1, 1) := by decide +kernel
theorem dX8_night_65 : decode cX8_night 65 = .ok (.istore_n 3, 1) := by decide +kernel
theorem dX8_night_66 : decode cX8_night 66 = .ok (.goto 6, 3) := by decide +kernel
theorem dX8_night_69 : decode cX8_night 69 = .ok (.iinc 2 1, 3) := by decide +kernel
theorem dX8_night_72 : decode cX8_night 72 = .ok (.iload 4, 2) := by decide +kernel
theorem dX8_night_74 : decode cX8_night 74 = .ok (.iconst 1, 1) := by decide +kernel
theorem dX8_night_75 : decode cX8_night 75 = .ok (.aload_n 0, 1) := by decide +kernel
theorem dX8_night_76 : decode cX8_night 76 = .ok (.getfield 10, 3) := by decide +kernel
theorem dX8_night_79 : decode cX8_night 79 = .ok (.iload 4, 2) := by decide +kernel
theorem dX8_night_81 : decode cX8_night 81 = .ok (.invokevirtual 231, 3) := by decide +kernel
theorem dX8_night_84 : decode cX8_night 84 = .ok (.invokestatic 235, 3) := by decide +kernel
theorem dX8_night_87 : decode cX8_night 87 = .ok (.iadd, 1) := by decide +kernel
theorem dX8_night_88 : decode cX8_night 88 = .ok (.iadd, 1) := by decide +kernel
theorem dX8_night_89 : decode cX8_night 89 = .ok (.istore 4, 2) := by decide +kernel
theorem dX8_night_91 : decode cX8_night 91 = .ok (.goto (-52), 3) := by decide +kernel
theorem dX8_night_94 : decode cX8_night 94 = .ok (.iload_n 2, 1) := by decide +kernel
theorem dX8_night_95 : decode cX8_night 95 = .ok (.ifCond .le 10, 3) := by decide +kernel
theorem dX8_night_98 : decode cX8_night 98 = .ok (.aload_n 0, 1) := by decide +kernel
theorem dX8_night_99 : decode cX8_night 99 = .ok (.getfield 43, 3) := by decide +kernel
theorem dX8_night_102 : decode cX8_night 102 = .ok (.invokevirtual 122, 3) := by decide +kernel
theorem dX8_night_105 : decode cX8_night 105 = .ok (.aload_n 0, 1) := by decide +kernel
theorem dX8_night_106 : decode cX8_night 106 = .ok (.getfield 10, 3) := by decide +kernel
theorem dX8_night_109 : decode cX8_night 109 = .ok (.invokevirtual 111, 3) := by decide +kernel
theorem dX8_night_112 : decode cX8_night 112 = .ok (.aload_n 0, 1) := by decide +kernel
theorem dX8_night_113 : decode cX8_night 113 = .ok (.getfield 19, 3) := by decide +kernel
theorem dX8_night_116 : decode cX8_night 116 = .ok (.iload_n 3, 1) := by decide +kernel
theorem dX8_night_117 : decode cX8_night 117 = .ok (.ifCond .eq 7, 3) := by decide +kernel
theorem dX8_night_120 : decode cX8_night 120 = .ok (.lconst 1, 1) := by decide +kernel
theorem dX8_night_121 : decode cX8_night 121 = .ok (.goto 4, 3) := by decide +kernel
theorem dX8_night_124 : decode cX8_night 124 = .ok (.lconst 0, 1) := by decide +kernel
theorem dX8_night_125 : decode cX8_night 125 = .ok (.aload_n 0, 1) := by decide +kernel
theorem dX8_night_126 : decode cX8_night 126 = .ok (.getfield 33, 3) := by decide +kernel
theorem dX8_night_129 : decode cX8_night 129 = .ok (.getfield 222, 3) := by decide +kernel
theorem dX8_night_132 : decode cX8_night 132 = .ok (.i2l, 1) := by decide +kernel
theorem dX8_night_133 : decode cX8_night 133 = .ok (.invokevirtual 198, 3) := by decide +kernel
theorem dX8_night_136 : decode cX8_night 136 = .ok (.iload_n 2, 1) := by decide +kernel
theorem dX8_night_137 : decode cX8_night 137 = .ok (.ireturn, 1) := by decide +kernel
theorem dX8_undo_0 : decode cX8_undo 0 = .ok (.aload_n 0, 1) := by decide +kernel
theorem dX8_undo_1 : decode cX8_undo 1 = .ok (.getfield 43, 3) := by decide +kernel
theorem dX8_undo_4 : decode cX8_undo 4 = .ok (.aload_n 0, 1) := by decide +kernel
theorem dX8_undo_5 : decode cX8_undo 5 = .ok (.getfield 33, 3) := by decide +kernel
theorem dX8_undo_8 : decode cX8_undo 8 = .ok (.invokevirtual 239, 3) := by decide +kernel
theorem dX8_undo_11 : decode cX8_undo 11 = .ok (.ireturn, 1) := by decide +kernel
theorem dX8_floats_0 : decode cX8_floats 0 = .ok (.aload_n 0, 1) := by decide +kernel
theorem dX8_floats_1 : decode cX8_floats 1 = .ok (.getfield 26, 3) := by decide +kernel
theorem dX8_floats_4 : decode cX8_floats 4 = .ok (.aload_n 0, 1) := by decide +kernel
theorem dX8_floats_5 : decode cX8_floats 5 = .ok (.getfield 33, 3) := by decide +kernel
theorem dX8_floats_8 : decode cX8_floats 8 = .ok (.aload_n 0, 1) := by decide +kernel
theorem dX8_floats_9 : decode cX8_floats 9 = .ok (.getfield 26, 3) := by decide +kernel
theorem dX8_floats_12 : decode cX8_floats 12 = .ok (.getfield 163, 3) := by decide +kernel
theorem dX8_floats_15 : decode cX8_floats 15 = .ok (.invokevirtual 242, 3) := by decide +kernel
theorem dX8_floats_18 : decode cX8_floats 18 = .ok (.istore_n 1, 1) := by decide +kernel
theorem dX8_floats_19 : decode cX8_floats 19 = .ok (.iconst 0, 1) := by decide +kernel
theorem dX8_floats_20 : decode cX8_floats 20 = .ok (.istore_n 2, 1) := by decide +kernel
theorem dX8_floats_21 : decode cX8_floats 21 = .ok (.iconst 0, 1) := by decide +kernel
theorem dX8_floats_22 : decode cX8_floats 22 = .ok (.istore_n 3, 1) := by decide +kernel
theorem dX8_floats_23 : decode cX8_floats 23 = .ok (.iload_n 3, 1) := by decide +kernel
theorem dX8_floats_24 : decode cX8_floats 24 = .ok (.aload_n 0, 1) := by decide +kernel
theorem dX8_floats_25 : decode cX8_floats 25 = .ok (.getfield 26, 3) := by decide +kernel
theorem dX8_floats_28 : decode cX8_floats 28 = .ok (.getfield 246, 3) := by decide +kernel
theorem dX8_floats_31 : decode cX8_floats 31 = .ok (.if_icmp .ge 26, 3) := by decide +kernel
theorem dX8_floats_34 : decode cX8_floats 34 = .ok (.iload_n 1, 1) := by decide +kernel
theorem dX8_floats_35 : decode cX8_floats 35 = .ok (.aload_n 0, 1) := by decide +kernel
theorem dX8_floats_36 : decode cX8_floats 36 = .ok (.getfield 26, 3) := by decide +kernel
theorem dX8_floats_39 : decode cX8_floats 39 = .ok (.getfield 249, 3) := by decide +kernel
theorem dX8_floats_42 : decode cX8_floats 42 = .ok (.iload_n 3, 1) := by decide +kernel
theorem dX8_floats_43 : decode cX8_floats 43 = .ok (.iaload, 1) := by decide +kernel
theorem dX8_floats_44 : decode cX8_floats 44 = .ok (.iand, 1) := by decide +kernel
theorem dX8_floats_45 : decode cX8_floats 45 = .ok (.ifCond .eq 6, 3) := by decide +kernel
theorem dX8_floats_48 : decode cX8_floats 48 = .ok (.iinc 2 1, 3) := by decide +kernel
theorem dX8_floats_51 : decode cX8_floats 51 = .ok (.iinc 3 1, 3) := by decide +kernel
theorem dX8_floats_54 : decode cX8_floats 54 = .ok (.goto (-31), 3) := by decide +kernel
theorem dX8_floats_57 : decode cX8_floats 57 = .ok (.aload_n 0, 1) := by decide +kernel
theorem dX8_floats_58 : decode cX8_floats 58 = .ok (.getfield 19, 3) := by decide +kernel
theorem dX8_floats_61 : decode cX8_floats 61 = .ok (.aload_n 0, 1) := by decide +kernel
theorem dX8_floats_62 : decode cX8_floats 62 = .ok (.getfield 26, 3) := by decide +kernel
theorem dX8_floats_65 : decode cX8_floats 65 = .ok (.getfield 246, 3) := by decide +kernel
theorem dX8_floats_68 : decode cX8_floats 68 = .ok (.i2l, 1) := by decide +kernel
theorem dX8_floats_69 : decode cX8_floats 69 = .ok (.iload_n 2, 1) := by decide +kernel
theorem dX8_floats_70 : decode cX8_floats 70 = .ok (.i2l, 1) := by decide +kernel
theorem dX8_floats_71 : decode cX8_floats 71 = .ok (.invokevirtual 198, 3) := by decide +kernel
theorem dX8_floats_74 : decode cX8_floats 74 = .ok (.iload_n 1, 1) := by decide +kernel
theorem dX8_floats_75 : decode cX8_floats 75 = .ok (.ireturn, 1) := by decide +kernel
theorem dX8_spare_0 : decode cX8_spare 0 = .ok (.aload_n 0, 1) := by decide +kernel
theorem dX8_spare_1 : decode cX8_spare 1 = .ok (.getfield 26, 3) := by decide +kernel
theorem dX8_spare_4 : decode cX8_spare 4 = .ok (.iload_n 1, 1) := by decide +kernel
theorem dX8_spare_5 : decode cX8_spare 5 = .ok (.invokevirtual 138, 3) := by decide +kernel
theorem dX8_spare_8 : decode cX8_spare 8 = .ok (.ifCond .ne 5, 3) := by decide +kernel
theorem dX8_spare_11 : decode cX8_spare 11 = .ok (.iconst (-1), 1) := by decide +kernel
theorem dX8_spare_12 : decode cX8_spare 12 = .ok (.ireturn, 1) := by decide +kernel
theorem dX8_spare_13 : decode cX8_spare 13 = .ok (.aload_n 0, 1) := by decide +kernel
theorem dX8_spare_14 : decode cX8_spare 14 = .ok (.getfield 33, 3) := by decide +kernel
theorem dX8_spare_17 : decode cX8_spare 17 = .ok (.iload_n 1, 1) := by decide +kernel
theorem dX8_spare_18 : decode cX8_spare 18 = .ok (.invokevirtual 160, 3) := by decide +kernel
theorem dX8_spare_21 : decode cX8_spare 21 = .ok (.ifCond .eq 6, 3) := by decide +kernel
theorem dX8_spare_24 : decode cX8_spare 24 = .ok (.bipush (-2), 2) := by decide +kernel
theorem dX8_spare_26 : decode cX8_spare 26 = .ok (.ireturn, 1) := by decide +kernel
theorem dX8_spare_27 : decode cX8_spare 27 = .ok (.aload_n 0, 1) := by decide +kernel
theorem dX8_spare_28 : decode cX8_spare 28 = .ok (.getfield 26, 3) := by decide +kernel
theorem dX8_spare_31 : decode cX8_spare 31 = .ok (.aload_n 0, 1) := by decide +kernel
theorem dX8_spare_32 : decode cX8_spare 32 = .ok (.getfield 33, 3) := by decide +kernel
theorem dX8_spare_35 : decode cX8_spare 35 = .ok (.aload_n 0, 1) := by decide +kernel
theorem dX8_spare_36 : decode cX8_spare 36 = .ok (.getfield 26, 3) := by decide +kernel
theorem dX8_spare_39 : decode cX8_spare 39 = .ok (.getfield 163, 3) := by decide +kernel
theorem dX8_spare_42 : decode cX8_spare 42 = .ok (.invokevirtual 167, 3) := by decide +kernel
theorem dX8_spare_45 : decode cX8_spare 45 = .ok (.aload_n 0, 1) := by decide +kernel
theorem dX8_spare_46 : decode cX8_spare 46 = .ok (.getfield 33, 3) := by decide +kernel
theorem dX8_spare_49 : decode cX8_spare 49 = .ok (.iload_n 1, 1) := by decide +kernel
theorem dX8_spare_50 : decode cX8_spare 50 = .ok (.invokevirtual 177, 3) := by decide +kernel
theorem dX8_spare_53 : decode cX8_spare 53 = .ok (.istore_n 2, 1) := by decide +kernel
theorem dX8_spare_54 : decode cX8_spare 54 = .ok (.aload_n 0, 1) := by decide +kernel
theorem dX8_spare_55 : decode cX8_spare 55 = .ok (.getfield 33, 3) := by decide +kernel
theorem dX8_spare_58 : decode cX8_spare 58 = .ok (.iload_n 2, 1) := by decide +kernel
theorem dX8_spare_59 : decode cX8_spare 59 = .ok (.invokevirtual 252, 3) := by decide +kernel
theorem dX8_spare_62 : decode cX8_spare 62 = .ok (.istore_n 3, 1) := by decide +kernel
theorem dX8_spare_63 : decode cX8_spare 63 = .ok (.aload_n 0, 1) := by decide +kernel
theorem dX8_spare_64 : decode cX8_spare 64 = .ok (.getfield 26, 3) := by decide +kernel
theorem dX8_spare_67 : decode cX8_spare 67 = .ok (.iload_n 2, 1) := by decide +kernel
theorem dX8_spare_68 : decode cX8_spare 68 = .ok (.invokevirtual 255, 3) := by decide +kernel
theorem dX8_spare_71 : decode cX8_spare 71 = .ok (.istore 4, 2) := by decide +kernel
theorem dX8_spare_73 : decode cX8_spare 73 = .ok (.aload_n 0, 1) := by decide +kernel
theorem dX8_spare_74 : decode cX8_spare 74 = .ok (.getfield 19, 3) := by decide +kernel
theorem dX8_spare_77 : decode cX8_spare 77 = .ok (.iload_n 3, 1) := by decide +kernel
theorem dX8_spare_78 : decode cX8_spare 78 = .ok (.i2l, 1) := by decide +kernel
theorem dX8_spare_79 : decode cX8_spare 79 = .ok (.iload 4, 2) := by decide +kernel
theorem dX8_spare_81 : decode cX8_spare 81 = .ok (.i2l, 1) := by decide +kernel
theorem dX8_spare_82 : decode cX8_spare 82 = .ok (.invokevirtual 198, 3) := by decide +kernel
theorem dX8_spare_85 : decode cX8_spare 85 = .ok (.sipush 1000, 3) := by decide +kernel
theorem dX8_spare_88 : decode cX8_spare 88 = .ok (.iload_n 3, 1) := by decide +kernel
theorem dX8_spare_89 : decode cX8_spare 89 = .ok (.iadd, 1) := by decide +kernel
theorem dX8_spare_90 : decode cX8_spare 90 = .ok (.iload 4, 2) := by decide +kernel
theorem dX8_spare_92 : decode cX8_spare 92 = .ok (.isub, 1) := by decide +kernel
theorem dX8_spare_93 : decode cX8_spare 93 = .ok (.ireturn, 1) := by decide +kernel
theorem dX8_height_0 : decode cX8_height 0 = .ok (.aload_n 0, 1) := by decide +kernel
theorem dX8_height_1 : decode cX8_height 1 = .ok (.getfield 26, 3) := by decide +kernel
theorem dX8_height_4 : decode cX8_height 4 = .ok (.iload_n 1, 1) := by decide +kernel
theorem dX8_height_5 : decode cX8_height 5 = .ok (.invokevirtual 138, 3) := by decide +kernel
theorem dX8_height_8 : decode cX8_height 8 = .ok (.ifCond .eq 13, 3) := by decide +kernel
theorem dX8_height_11 : decode cX8_height 11 = .ok (.iload_n 2, 1) := by decide +kernel
theorem dX8_height_12 : decode cX8_height 12 = .ok (.ifCond .lt 9, 3) := by decide +kernel
theorem dX8_height_15 : decode cX8_height 15 = .ok (.iload_n 2, 1) := by decide +kernel
theorem dX8_height_16 : decode cX8_height 16 = .ok (.bipush 99, 2) := by decide +kernel
theorem dX8_height_18 : decode cX8_height 18 = .ok (.if_icmp .le 5, 3) := by decide +kernel
theorem dX8_height_21 : decode cX8_height 21 = .ok (.iconst (-1), 1) := by decide +kernel
theorem dX8_height_22 : decode cX8_height 22 = .ok (.ireturn, 1) := by decide +kernel
theorem dX8_height_23 : decode cX8_height 23 = .ok (.aload_n 0, 1) := by decide +kernel
theorem dX8_height_24 : decode cX8_height 24 = .ok (.iload_n 2, 1) := by decide +kernel
theorem dX8_height_25 : decode cX8_height 25 = .ok (.invokevirtual 258, 3) := by decide +kernel
theorem dX8_height_28 : decode cX8_height 28 = .ok (.aload_n 0, 1) := by decide +kernel
theorem dX8_height_29 : decode cX8_height 29 = .ok (.getfield 19, 3) := by decide +kernel
theorem dX8_height_32 : decode cX8_height 32 = .ok (.aload_n 0, 1) := by decide +kernel
theorem dX8_height_33 : decode cX8_height 33 = .ok (.getfield 37, 3) := by decide +kernel
theorem dX8_height_36 : decode cX8_height 36 = .ok (.iload_n 1, 1) := by decide +kernel
theorem dX8_height_37 : decode cX8_height 37 = .ok (.invokevirtual 160, 3) := by decide +kernel
theorem dX8_height_40 : decode cX8_height 40 = .ok (.ifCond .eq 7, 3) := by decide +kernel
theorem dX8_height_43 : decode cX8_height 43 = .ok (.lconst 1, 1) := by decide +kernel
theorem dX8_height_44 : decode cX8_height 44 = .ok (.goto 4, 3) := by decide +kernel
theorem dX8_height_47 : decode cX8_height 47 = .ok (.lconst 0, 1) := by decide +kernel
theorem dX8_height_48 : decode cX8_height 48 = .ok (.aload_n 0, 1) := by decide +kernel
theorem dX8_height_49 : decode cX8_height 49 = .ok (.getfield 37, 3) := by decide +kernel
theorem dX8_height_52 : decode cX8_height 52 = .ok (.getfield 157, 3) := by decide +kernel
theorem dX8_height_55 : decode cX8_height 55 = .ok (.iload_n 1, 1) := by decide +kernel
theorem dX8_height_56 : decode cX8_height 56 = .ok (.iaload, 1) := by decide +kernel
theorem dX8_height_57 : decode cX8_height 57 = .ok (.i2l, 1) := by decide +kernel
theorem dX8_height_58 : decode cX8_height 58 = .ok (.invokevirtual 198, 3) := by decide +kernel
theorem dX8_height_61 : decode cX8_height 61 = .ok (.aload_n 0, 1) := by decide +kernel
theorem dX8_height_62 : decode cX8_height 62 = .ok (.getfield 37, 3) := by decide +kernel
theorem dX8_height_65 : decode cX8_height 65 = .ok (.iload_n 1, 1) := by decide +kernel
theorem dX8_height_66 : decode cX8_height 66 = .ok (.invokevirtual 160, 3) := by decide +kernel
theorem dX8_height_69 : decode cX8_height 69 = .ok (.ifCond .eq 8, 3) := by decide +kernel
theorem dX8_height_72 : decode cX8_height 72 = .ok (.bipush 9, 2) := by decide +kernel
theorem dX8_height_74 : decode cX8_height 74 = .ok (.goto 12, 3) := by decide +kernel
theorem dX8_height_77 : decode cX8_height 77 = .ok (.aload_n 0, 1) := by decide +kernel
theorem dX8_height_78 : decode cX8_height 78 = .ok (.getfield 37, 3) := by decide +kernel
theorem dX8_height_81 : decode cX8_height 81 = .ok (.getfield 154, 3) := by decide +kernel
theorem dX8_height_84 : decode cX8_height 84 = .ok (.iload_n 1, 1) := by decide +kernel
theorem dX8_height_85 : decode cX8_height 85 = .ok (.iaload, 1) := by decide +kernel
theorem dX8_height_86 : decode cX8_height 86 = .ok (.ireturn, 1) := by decide +kernel
theorem dX8_gone_0 : decode cX8_gone 0 = .ok (.aload_n 0, 1) := by decide +kernel
theorem dX8_gone_1 : decode cX8_gone 1 = .ok (.getfield 26, 3) := by decide +kernel
theorem dX8_gone_4 : decode cX8_gone 4 = .ok (.iload_n 1, 1) := by decide +kernel
theorem dX8_gone_5 : decode cX8_gone 5 = .ok (.invokevirtual 138, 3) := by decide +kernel
theorem dX8_gone_8 : decode cX8_gone 8 = .ok (.ifCond .ne 5, 3) := by decide +kernel
theorem dX8_gone_11 : decode cX8_gone 11 = .ok (.iconst (-1), 1) := by decide +kernel
theorem dX8_gone_12 : decode cX8_gone 12 = .ok (.ireturn, 1) := by decide +kernel
theorem dX8_gone_13 : decode cX8_gone 13 = .ok (.aload_n 0, 1) := by decide +kernel
theorem dX8_gone_14 : decode cX8_gone 14 = .ok (.iconst 0, 1) := by decide +kernel
theorem dX8_gone_15 : decode cX8_gone 15 = .ok (.invokevirtual 258, 3) := by decide +kernel
theorem dX8_gone_18 : decode cX8_gone 18 = .ok (.iconst 0, 1) := by decide +kernel
theorem dX8_gone_19 : decode cX8_gone 19 = .ok (.istore_n 2, 1) := by decide +kernel
theorem dX8_gone_20 : decode cX8_gone 20 = .ok (.iload_n 2, 1) := by decide +kernel
theorem dX8_gone_21 : decode cX8_gone 21 = .ok (.bipush 99, 2) := by decide +kernel
theorem dX8_gone_23 : decode cX8_gone 23 = .ok (.if_icmp .gt 55, 3) := by decide +kernel
theorem dX8_gone_26 : decode cX8_gone 26 = .ok (.aload_n 0, 1) := by decide +kernel
theorem dX8_gone_27 : decode cX8_gone 27 = .ok (.getfield 37, 3) := by decide +kernel
theorem dX8_gone_30 : decode cX8_gone 30 = .ok (.iload_n 1, 1) := by decide +kernel
theorem dX8_gone_31 : decode cX8_gone 31 = .ok (.invokevirtual 160, 3) := by decide +kernel
theorem dX8_gone_34 : decode cX8_gone 34 = .ok (.ifCond .eq 25, 3) := by decide +kernel
theorem dX8_gone_37 : decode cX8_gone 37 = .ok (.aload_n 0, 1) := by decide +kernel
theorem dX8_gone_38 : decode cX8_gone 38 = .ok (.getfield 19, 3) := by decide +kernel
theorem dX8_gone_41 : decode cX8_gone 41 = .ok (.aload_n 0, 1) := by decide +kernel
theorem dX8_gone_42 : decode cX8_gone 42 = .ok (.getfield 37, 3) := by decide +kernel
theorem dX8_gone_45 : decode cX8_gone 45 = .ok (.getfield 186, 3) := by decide +kernel
theorem dX8_gone_48 : decode cX8_gone 48 = .ok (.invokestatic 189, 3) := by decide +kernel
theorem dX8_gone_51 : decode cX8_gone 51 = .ok (.iconst 1, 1) := by decide +kernel
theorem dX8_gone_52 : decode cX8_gone 52 = .ok (.isub, 1) := by decide +kernel
theorem dX8_gone_53 : decode cX8_gone 53 = .ok (.i2l, 1) := by decide +kernel
theorem dX8_gone_54 : decode cX8_gone 54 = .ok (.invokevirtual 261, 3) := by decide +kernel
theorem dX8_gone_57 : decode cX8_gone 57 = .ok (.iload_n 2, 1) := by decide +kernel
theorem dX8_gone_58 : decode cX8_gone 58 = .ok (.ireturn, 1) := by decide +kernel
theorem dX8_gone_59 : decode cX8_gone 59 = .ok (.aload_n 0, 1) := by decide +kernel
theorem dX8_gone_60 : decode cX8_gone 60 = .ok (.getfield 26, 3) := by decide +kernel
theorem dX8_gone_63 : decode cX8_gone 63 = .ok (.aload_n 0, 1) := by decide +kernel
theorem dX8_gone_64 : decode cX8_gone 64 = .ok (.getfield 37, 3) := by decide +kernel
theorem dX8_gone_67 : decode cX8_gone 67 = .ok (.iconst 1, 1) := by decide +kernel
theorem dX8_gone_68 : decode cX8_gone 68 = .ok (.invokevirtual 194, 3) := by decide +kernel
theorem dX8_gone_71 : decode cX8_gone 71 = .ok (.pop, 1) := by decide +kernel
theorem dX8_gone_72 : decode cX8_gone 72 = .ok (.iinc 2 1, 3) := by decide +kernel
theorem dX8_gone_75 : decode cX8_gone 75 = .ok (.goto (-55), 3) := by decide +kernel
theorem dX8_gone_78 : decode cX8_gone 78 = .ok (.bipush (-2), 2) := by decide +kernel
theorem dX8_gone_80 : decode cX8_gone 80 = .ok (.ireturn, 1) := by decide +kernel
theorem dX8_ahead_0 : decode cX8_ahead 0 = .ok (.iload_n 1, 1) := by decide +kernel
theorem dX8_ahead_1 : decode cX8_ahead 1 = .ok (.ifCond .lt 9, 3) := by decide +kernel
theorem dX8_ahead_4 : decode cX8_ahead 4 = .ok (.iload_n 1, 1) := by decide +kernel
theorem dX8_ahead_5 : decode cX8_ahead 5 = .ok (.bipush 99, 2) := by decide +kernel
theorem dX8_ahead_7 : decode cX8_ahead 7 = .ok (.if_icmp .le 5, 3) := by decide +kernel
theorem dX8_ahead_10 : decode cX8_ahead 10 = .ok (.iconst (-1), 1) := by decide +kernel
theorem dX8_ahead_11 : decode cX8_ahead 11 = .ok (.ireturn, 1) := by decide +kernel
theorem dX8_ahead_12 : decode cX8_ahead 12 = .ok (.aload_n 0, 1) := by decide +kernel
theorem dX8_ahead_13 : decode cX8_ahead 13 = .ok (.iload_n 1, 1) := by decide +kernel
theorem dX8_ahead_14 : decode cX8_ahead 14 = .ok (.invokevirtual 258, 3) := by decide +kernel
theorem dX8_ahead_17 : decode cX8_ahead 17 = .ok (.aload_n 0, 1) := by decide +kernel
theorem dX8_ahead_18 : decode cX8_ahead 18 = .ok (.getfield 19, 3) := by decide +kernel
theorem dX8_ahead_21 : decode cX8_ahead 21 = .ok (.invokevirtual 264, 3) := by decide +kernel
theorem dX8_ahead_24 : decode cX8_ahead 24 = .ok (.iconst 0, 1) := by decide +kernel
theorem dX8_ahead_25 : decode cX8_ahead 25 = .ok (.istore_n 2, 1) := by decide +kernel
theorem dX8_ahead_26 : decode cX8_ahead 26 = .ok (.iconst 0, 1) := by decide +kernel
theorem dX8_ahead_27 : decode cX8_ahead 27 = .ok (.istore_n 3, 1) := by decide +kernel
theorem dX8_ahead_28 : decode cX8_ahead 28 = .ok (.iload_n 3, 1) := by decide +kernel
theorem dX8_ahead_29 : decode cX8_ahead 29 = .ok (.aload_n 0, 1) := by decide +kernel
theorem dX8_ahead_30 : decode cX8_ahead 30 = .ok (.getfield 26, 3) := by decide +kernel
theorem dX8_ahead_33 : decode cX8_ahead 33 = .ok (.getfield 265, 3) := by decide +kernel
theorem dX8_ahead_36 : decode cX8_ahead 36 = .ok (.if_icmp .ge 38, 3) := by decide +kernel
theorem dX8_ahead_39 : decode cX8_ahead 39 = .ok (.aload_n 0, 1) := by decide +kernel
theorem dX8_ahead_40 : decode cX8_ahead 40 = .ok (.getfield 19, 3) := by decide +kernel
theorem dX8_ahead_43 : decode cX8_ahead 43 = .ok (.aload_n 0, 1) := by decide +kernel
theorem dX8_ahead_44 : decode cX8_ahead 44 = .ok (.getfield 37, 3) := by decide +kernel
theorem dX8_ahead_47 : decode cX8_ahead 47 = .ok (.getfield 151, 3) := by decide +kernel
theorem dX8_ahead_50 : decode cX8_ahead 50 = .ok (.iload_n 3, 1) := by decide +kernel
theorem dX8_ahead_51 : decode cX8_ahead 51 = .ok (.iaload, 1) := by decide +kernel
theorem dX8_ahead_52 : decode cX8_ahead 52 = .ok (.i2l, 1) := by decide +kernel
theorem dX8_ahead_53 : decode cX8_ahead 53 = .ok (.invokevirtual 268, 3) := by decide +kernel
theorem dX8_ahead_56 : decode cX8_ahead 56 = .ok (.iload_n 2, 1) := by decide +kernel
theorem dX8_ahead_57 : decode cX8_ahead 57 = .ok (.aload_n 0, 1) := by decide +kernel
theorem dX8_ahead_58 : decode cX8_ahead 58 = .ok (.getfield 37, 3) := by decide +kernel
theorem dX8_ahead_61 : decode cX8_ahead 61 = .ok (.getfield 151, 3) := by decide +kernel
theorem dX8_ahead_64 : decode cX8_ahead 64 = .ok (.iload_n 3, 1) := by decide +kernel
theorem dX8_ahead_65 : decode cX8_ahead 65 = .ok (.iaload, 1) := by decide +kernel
theorem dX8_ahead_66 : decode cX8_ahead 66 = .ok (.iadd, 1) := by decide +kernel
theorem dX8_ahead_67 : decode cX8_ahead 67 = .ok (.istore_n 2, 1) := by decide +kernel
theorem dX8_ahead_68 : decode cX8_ahead 68 = .ok (.iinc 3 1, 3) := by decide +kernel
theorem dX8_ahead_71 : decode cX8_ahead 71 = .ok (.goto (-43), 3) := by decide +kernel
theorem dX8_ahead_74 : decode cX8_ahead 74 = .ok (.iload_n 2, 1) := by decide +kernel
theorem dX8_ahead_75 : decode cX8_ahead 75 = .ok (.ireturn, 1) := by decide +kernel
theorem dX8_least_0 : decode cX8_least 0 = .ok (.iload_n 1, 1) := by decide +kernel
theorem dX8_least_1 : decode cX8_least 1 = .ok (.aload_n 0, 1) := by decide +kernel
theorem dX8_least_2 : decode cX8_least 2 = .ok (.getfield 26, 3) := by decide +kernel
theorem dX8_least_5 : decode cX8_least 5 = .ok (.invokevirtual 270, 3) := by decide +kernel
theorem dX8_least_8 : decode cX8_least 8 = .ok (.iconst (-1), 1) := by decide +kernel
theorem dX8_least_9 : decode cX8_least 9 = .ok (.ixor, 1) := by decide +kernel
theorem dX8_least_10 : decode cX8_least 10 = .ok (.iand, 1) := by decide +kernel
theorem dX8_least_11 : decode cX8_least 11 = .ok (.ifCond .eq 5, 3) := by decide +kernel
theorem dX8_least_14 : decode cX8_least 14 = .ok (.iconst (-1), 1) := by decide +kernel
theorem dX8_least_15 : decode cX8_least 15 = .ok (.ireturn, 1) := by decide +kernel
theorem dX8_least_16 : decode cX8_least 16 = .ok (.iload_n 1, 1) := by decide +kernel
theorem dX8_least_17 : decode cX8_least 17 = .ok (.aload_n 0, 1) := by decide +kernel
theorem dX8_least_18 : decode cX8_least 18 = .ok (.getfield 33, 3) := by decide +kernel
theorem dX8_least_21 : decode cX8_least 21 = .ok (.getfield 186, 3) := by decide +kernel
theorem dX8_least_24 : decode cX8_least 24 = .ok (.iand, 1) := by decide +kernel
theorem dX8_least_25 : decode cX8_least 25 = .ok (.ifCond .eq 6, 3) := by decide +kernel
theorem dX8_least_28 : decode cX8_least 28 = .ok (.bipush (-2), 2) := by decide +kernel
theorem dX8_least_30 : decode cX8_least 30 = .ok (.ireturn, 1) := by decide +kernel
theorem dX8_least_31 : decode cX8_least 31 = .ok (.aload_n 0, 1) := by decide +kernel
theorem dX8_least_32 : decode cX8_least 32 = .ok (.getfield 26, 3) := by decide +kernel
theorem dX8_least_35 : decode cX8_least 35 = .ok (.aload_n 0, 1) := by decide +kernel
theorem dX8_least_36 : decode cX8_least 36 = .ok (.getfield 33, 3) := by decide +kernel
theorem dX8_least_39 : decode cX8_least 39 = .ok (.aload_n 0, 1) := by decide +kernel
theorem dX8_least_40 : decode cX8_least 40 = .ok (.getfield 26, 3) := by decide +kernel
theorem dX8_least_43 : decode cX8_least 43 = .ok (.getfield 163, 3) := by decide +kernel
theorem dX8_least_46 : decode cX8_least 46 = .ok (.invokevirtual 242, 3) := by decide +kernel
theorem dX8_least_49 : decode cX8_least 49 = .ok (.istore_n 2, 1) := by decide +kernel
theorem dX8_least_50 : decode cX8_least 50 = .ok (.iconst 0, 1) := by decide +kernel
theorem dX8_least_51 : decode cX8_least 51 = .ok (.istore_n 3, 1) := by decide +kernel
theorem dX8_least_52 : decode cX8_least 52 = .ok (.iconst 0, 1) := by decide +kernel
theorem dX8_least_53 : decode cX8_least 53 = .ok (.istore 4, 2) := by decide +kernel
theorem dX8_least_55 : decode cX8_least 55 = .ok (.iconst 0, 1) := by decide +kernel
theorem dX8_least_56 : decode cX8_least 56 = .ok (.istore 5, 2) := by decide +kernel
theorem dX8_least_58 : decode cX8_least 58 = .ok (.iconst 0, 1) := by decide +kernel
theorem dX8_least_59 : decode cX8_least 59 = .ok (.istore 6, 2) := by decide +kernel
theorem dX8_least_61 : decode cX8_least 61 = .ok (.iload 6, 2) := by decide +kernel
theorem dX8_least_63 : decode cX8_least 63 = .ok (.aload_n 0, 1) := by decide +kernel
theorem dX8_least_64 : decode cX8_least 64 = .ok (.getfield 26, 3) := by decide +kernel
theorem dX8_least_67 : decode cX8_least 67 = .ok (.getfield 246, 3) := by decide +kernel
theorem dX8_least_70 : decode cX8_least 70 = .ok (.if_icmp .ge 61, 3) := by decide +kernel
theorem dX8_least_73 : decode cX8_least 73 = .ok (.aload_n 0, 1) := by decide +kernel
theorem dX8_least_74 : decode cX8_least 74 = .ok (.getfield 26, 3) := by decide +kernel
theorem dX8_least_77 : decode cX8_least 77 = .ok (.getfield 249, 3) := by decide +kernel
theorem dX8_least_80 : decode cX8_least 80 = .ok (.iload 6, 2) := by decide +kernel
theorem dX8_least_82 : decode cX8_least 82 = .ok (.iaload, 1) := by decide +kernel
theorem dX8_least_83 : decode cX8_least 83 = .ok (.istore 7, 2) := by decide +kernel
theorem dX8_least_85 : decode cX8_least 85 = .ok (.iload 7, 2) := by decide +kernel
theorem dX8_least_87 : decode cX8_least 87 = .ok (.iload_n 1, 1) := by decide +kernel
theorem dX8_least_88 : decode cX8_least 88 = .ok (.iand, 1) := by decide +kernel
theorem dX8_least_89 : decode cX8_least 89 = .ok (.ifCond .eq 36, 3) := by decide +kernel
theorem dX8_least_92 : decode cX8_least 92 = .ok (.iload 7, 2) := by decide +kernel
theorem dX8_least_94 : decode cX8_least 94 = .ok (.iload_n 2, 1) := by decide +kernel
theorem dX8_least_95 : decode cX8_least 95 = .ok (.iand, 1) := by decide +kernel
theorem dX8_least_96 : decode cX8_least 96 = .ok (.ifCond .eq 29, 3) := by decide +kernel
theorem dX8_least_99 : decode cX8_least 99 = .ok (.iload_n 3, 1) := by decide +kernel
theorem dX8_least_100 : decode cX8_least 100 = .ok (.aload_n 0, 1) := by decide +kernel
theorem dX8_least_101 : decode cX8_least 101 = .ok (.getfield 26, 3) := by decide +kernel
theorem dX8_least_104 : decode cX8_least 104 = .ok (.aload_n 0, 1) := by decide +kernel
theorem dX8_least_105 : decode cX8_least 105 = .ok (.getfield 33, 3) := by decide +kernel
theorem dX8_least_108 : decode cX8_least 108 = .ok (.iload 7, 2) := by decide +kernel
theorem dX8_least_110 : decode cX8_least 110 = .ok (.invokevirtual 273, 3) := by decide +kernel
theorem dX8_least_113 : decode cX8_least 113 = .ok (.isub, 1) := by decide +kernel
theorem dX8_least_114 : decode cX8_least 114 = .ok (.istore_n 3, 1) := by decide +kernel
theorem dX8_least_115 : decode cX8_least 115 = .ok (.iinc 4 1, 3) := by decide +kernel
theorem dX8_least_118 : decode cX8_least 118 = .ok (.iload 5, 2) := by decide +kernel
theorem dX8_least_120 : decode cX8_least 120 = .ok (.iload 7, 2) := by decide +kernel
theorem dX8_least_122 : decode cX8_least 122 = .ok (.ior, 1) := by decide +kernel
theorem dX8_least_123 : decode cX8_least 123 = .ok (.istore 5, 2) := by decide +kernel
theorem dX8_least_125 : decode cX8_least 125 = .ok (.iinc 6 1, 3) := by decide +kernel
theorem dX8_least_128 : decode cX8_least 128 = .ok (.goto (-67), 3) := by decide +kernel
theorem dX8_least_131 : decode cX8_least 131 = .ok (.aload_n 0, 1) := by decide +kernel
theorem dX8_least_132 : decode cX8_least 132 = .ok (.getfield 19, 3) := by decide +kernel
theorem dX8_least_135 : decode cX8_least 135 = .ok (.iload 4, 2) := by decide +kernel
theorem dX8_least_137 : decode cX8_least 137 = .ok (.i2l, 1) := by decide +kernel
theorem dX8_least_138 : decode cX8_least 138 = .ok (.iload 5, 2) := by decide +kernel
theorem dX8_least_140 : decode cX8_least 140 = .ok (.i2l, 1) := by decide +kernel
theorem dX8_least_141 : decode cX8_least 141 = .ok (.invokevirtual 198, 3) := by decide +kernel
theorem dX8_least_144 : decode cX8_least 144 = .ok (.iload_n 3, 1) := by decide +kernel
theorem dX8_least_145 : decode cX8_least 145 = .ok (.ireturn, 1) := by decide +kernel
theorem dX8_surplus_0 : decode cX8_surplus 0 = .ok (.aload_n 0, 1) := by decide +kernel
theorem dX8_surplus_1 : decode cX8_surplus 1 = .ok (.getfield 26, 3) := by decide +kernel
theorem dX8_surplus_4 : decode cX8_surplus 4 = .ok (.aload_n 0, 1) := by decide +kernel
theorem dX8_surplus_5 : decode cX8_surplus 5 = .ok (.getfield 33, 3) := by decide +kernel
theorem dX8_surplus_8 : decode cX8_surplus 8 = .ok (.aload_n 0, 1) := by decide +kernel
theorem dX8_surplus_9 : decode cX8_surplus 9 = .ok (.getfield 26, 3) := by decide +kernel
theorem dX8_surplus_12 : decode cX8_surplus 12 = .ok (.getfield 163, 3) := by decide +kernel
theorem dX8_surplus_15 : decode cX8_surplus 15 = .ok (.invokevirtual 167, 3) := by decide +kernel
theorem dX8_surplus_18 : decode cX8_surplus 18 = .ok (.aload_n 0, 1) := by decide +kernel
theorem dX8_surplus_19 : decode cX8_surplus 19 = .ok (.getfield 26, 3) := by decide +kernel
theorem dX8_surplus_22 : decode cX8_surplus 22 = .ok (.aload_n 0, 1) := by decide +kernel
theorem dX8_surplus_23 : decode cX8_surplus 23 = .ok (.getfield 33, 3) := by decide +kernel
theorem dX8_surplus_26 : decode cX8_surplus 26 = .ok (.invokevirtual 276, 3) := by decide +kernel
theorem dX8_surplus_29 : decode cX8_surplus 29 = .ok (.aload_n 0, 1) := by decide +kernel
theorem dX8_surplus_30 : decode cX8_surplus 30 = .ok (.invokevirtual 279, 3) := by decide +kernel
theorem dX8_surplus_33 : decode cX8_surplus 33 = .ok (.iconst 0, 1) := by decide +kernel
theorem dX8_surplus_34 : decode cX8_surplus 34 = .ok (.istore_n 1, 1) := by decide +kernel
theorem dX8_surplus_35 : decode cX8_surplus 35 = .ok (.iconst 0, 1) := by decide +kernel
theorem dX8_surplus_36 : decode cX8_surplus 36 = .ok (.istore_n 2, 1) := by decide +kernel
theorem dX8_surplus_37 : decode cX8_surplus 37 = .ok (.iload_n 2, 1) := by decide +kernel
theorem dX8_surplus_38 : decode cX8_surplus 38 = .ok (.aload_n 0, 1) := by decide +kernel
theorem dX8_surplus_39 : decode cX8_surplus 39 = .ok (.getfield 26, 3) := by decide +kernel
theorem dX8_surplus_42 : decode cX8_surplus 42 = .ok (.getfield 246, 3) := by decide +kernel
theorem dX8_surplus_45 : decode cX8_surplus 45 = .ok (.if_icmp .ge 52, 3) := by decide +kernel
theorem dX8_surplus_48 : decode cX8_surplus 48 = .ok (.aload_n 0, 1) := by decide +kernel
theorem dX8_surplus_49 : decode cX8_surplus 49 = .ok (.getfield 26, 3) := by decide +kernel
theorem dX8_surplus_52 : decode cX8_surplus 52 = .ok (.aload_n 0, 1) := by decide +kernel
theorem dX8_surplus_53 : decode cX8_surplus 53 = .ok (.getfield 33, 3) := by decide +kernel
theorem dX8_surplus_56 : decode cX8_surplus 56 = .ok (.aload_n 0, 1) := by decide +kernel
theorem dX8_surplus_57 : decode cX8_surplus 57 = .ok (.getfield 26, 3) := by decide +kernel
theorem dX8_surplus_60 : decode cX8_surplus 60 = .ok (.getfield 249, 3) := by decide +kernel
theorem dX8_surplus_63 : decode cX8_surplus 63 = .ok (.iload_n 2, 1) := by decide +kernel
theorem dX8_surplus_64 : decode cX8_surplus 64 = .ok (.iaload, 1) := by decide +kernel
theorem dX8_surplus_65 : decode cX8_surplus 65 = .ok (.invokevirtual 273, 3) := by decide +kernel
theorem dX8_surplus_68 : decode cX8_surplus 68 = .ok (.istore_n 3, 1) := by decide +kernel
theorem dX8_surplus_69 : decode cX8_surplus 69 = .ok (.iload_n 3, 1) := by decide +kernel
theorem dX8_surplus_70 : decode cX8_surplus 70 = .ok (.ifCond .le 21, 3) := by decide +kernel
theorem dX8_surplus_73 : decode cX8_surplus 73 = .ok (.aload_n 0, 1) := by decide +kernel
theorem dX8_surplus_74 : decode cX8_surplus 74 = .ok (.aload_n 0, 1) := by decide +kernel
theorem dX8_surplus_75 : decode cX8_surplus 75 = .ok (.getfield 26, 3) := by decide +kernel
theorem dX8_surplus_78 : decode cX8_surplus 78 = .ok (.getfield 249, 3) := by decide +kernel
theorem dX8_surplus_81 : decode cX8_surplus 81 = .ok (.iload_n 2, 1) := by decide +kernel
theorem dX8_surplus_82 : decode cX8_surplus 82 = .ok (.iaload, 1) := by decide +kernel
theorem dX8_surplus_83 : decode cX8_surplus 83 = .ok (.iload_n 3, 1) := by decide +kernel
theorem dX8_surplus_84 : decode cX8_surplus 84 = .ok (.invokevirtual 282, 3) := by decide +kernel
theorem dX8_surplus_87 : decode cX8_surplus 87 = .ok (.iload_n 1, 1) := by decide +kernel
theorem dX8_surplus_88 : decode cX8_surplus 88 = .ok (.iload_n 3, 1) := by decide +kernel
theorem dX8_surplus_89 : decode cX8_surplus 89 = .ok (.iadd, 1) := by decide +kernel
theorem dX8_surplus_90 : decode cX8_surplus 90 = .ok (.istore_n 1, 1) := by decide +kernel
theorem dX8_surplus_91 : decode cX8_surplus 91 = .ok (.iinc 2 1, 3) := by decide +kernel
theorem dX8_surplus_94 : decode cX8_surplus 94 = .ok (.goto (-57), 3) := by decide +kernel
theorem dX8_surplus_97 : decode cX8_surplus 97 = .ok (.aload_n 0, 1) := by decide +kernel
theorem dX8_surplus_98 : decode cX8_surplus 98 = .ok (.getfield 19, 3) := by decide +kernel
theorem dX8_surplus_101 : decode cX8_surplus 101 = .ok (.invokevirtual 264, 3) := by decide +kernel
theorem dX8_surplus_104 : decode cX8_surplus 104 = .ok (.iconst 0, 1) := by decide +kernel
theorem dX8_surplus_105 : decode cX8_surplus 105 = .ok (.istore_n 2, 1) := by decide +kernel
theorem dX8_surplus_106 : decode cX8_surplus 106 = .ok (.iload_n 2, 1) := by decide +kernel
theorem dX8_surplus_107 : decode cX8_surplus 107 = .ok (.aload_n 0, 1) := by decide +kernel
theorem dX8_surplus_108 : decode cX8_surplus 108 = .ok (.getfield 26, 3) := by decide +kernel
theorem dX8_surplus_111 : decode cX8_surplus 111 = .ok (.getfield 265, 3) := by decide +kernel
theorem dX8_surplus_114 : decode cX8_surplus 114 = .ok (.if_icmp .ge 23, 3) := by decide +kernel
theorem dX8_surplus_117 : decode cX8_surplus 117 = .ok (.aload_n 0, 1) := by decide +kernel
theorem dX8_surplus_118 : decode cX8_surplus 118 = .ok (.getfield 19, 3) := by decide +kernel
theorem dX8_surplus_121 : decode cX8_surplus 121 = .ok (.aload_n 0, 1) := by decide +kernel
theorem dX8_surplus_122 : decode cX8_surplus 122 = .ok (.getfield 61, 3) := by decide +kernel
theorem dX8_surplus_125 : decode cX8_surplus 125 = .ok (.iload_n 2, 1) := by decide +kernel
theorem dX8_surplus_126 : decode cX8_surplus 126 = .ok (.iaload, 1) := by decide +kernel
theorem dX8_surplus_127 : decode cX8_surplus 127 = .ok (.i2l, 1) := by decide +kernel
theorem dX8_surplus_128 : decode cX8_surplus 128 = .ok (.invokevirtual 268, 3) := by decide +kernel
theorem dX8_surplus_131 : decode cX8_surplus 131 = .ok (.iinc 2 1, 3) := by decide +kernel
theorem dX8_surplus_134 : decode cX8_surplus 134 = .ok (.goto (-28), 3) := by decide +kernel
theorem dX8_surplus_137 : decode cX8_surplus 137 = .ok (.iload_n 1, 1) := by decide +kernel
theorem dX8_surplus_138 : decode cX8_surplus 138 = .ok (.ireturn, 1) := by decide +kernel
theorem dX8_vital_0 : decode cX8_vital 0 = .ok (.aload_n 0, 1) := by decide +kernel
theorem dX8_vital_1 : decode cX8_vital 1 = .ok (.getfield 26, 3) := by decide +kernel
theorem dX8_vital_4 : decode cX8_vital 4 = .ok (.aload_n 0, 1) := by decide +kernel
theorem dX8_vital_5 : decode cX8_vital 5 = .ok (.getfield 33, 3) := by decide +kernel
theorem dX8_vital_8 : decode cX8_vital 8 = .ok (.aload_n 0, 1) := by decide +kernel
theorem dX8_vital_9 : decode cX8_vital 9 = .ok (.getfield 26, 3) := by decide +kernel
theorem dX8_vital_12 : decode cX8_vital 12 = .ok (.getfield 163, 3) := by decide +kernel
theorem dX8_vital_15 : decode cX8_vital 15 = .ok (.invokevirtual 242, 3) := by decide +kernel
theorem dX8_vital_18 : decode cX8_vital 18 = .ok (.istore_n 1, 1) := by decide +kernel
theorem dX8_vital_19 : decode cX8_vital 19 = .ok (.aload_n 0, 1) := by decide +kernel
theorem dX8_vital_20 : decode cX8_vital 20 = .ok (.getfield 37, 3) := by decide +kernel
theorem dX8_vital_23 : decode cX8_vital 23 = .ok (.aload_n 0, 1) := by decide +kernel
theorem dX8_vital_24 : decode cX8_vital 24 = .ok (.getfield 33, 3) := by decide +kernel
theorem dX8_vital_27 : decode cX8_vital 27 = .ok (.invokevirtual 286, 3) := by decide +kernel
theorem dX8_vital_30 : decode cX8_vital 30 = .ok (.aload_n 0, 1) := by decide +kernel
theorem dX8_vital_31 : decode cX8_vital 31 = .ok (.getfield 19, 3) := by decide +kernel
theorem dX8_vital_34 : decode cX8_vital 34 = .ok (.aload_n 0, 1) := by decide +kernel
theorem dX8_vital_35 : decode cX8_vital 35 = .ok (.getfield 33, 3) := by decide +kernel
theorem dX8_vital_38 : decode cX8_vital 38 = .ok (.invokevirtual 289, 3) := by decide +kernel
theorem dX8_vital_41 : decode cX8_vital 41 = .ok (.i2l, 1) := by decide +kernel
theorem dX8_vital_42 : decode cX8_vital 42 = .ok (.invokevirtual 261, 3) := by decide +kernel
theorem dX8_vital_45 : decode cX8_vital 45 = .ok (.iconst 0, 1) := by decide +kernel
theorem dX8_vital_46 : decode cX8_vital 46 = .ok (.istore_n 2, 1) := by decide +kernel
theorem dX8_vital_47 : decode cX8_vital 47 = .ok (.iconst 0, 1) := by decide +kernel
theorem dX8_vital_48 : decode cX8_vital 48 = .ok (.istore_n 3, 1) := by decide +kernel
theorem dX8_vital_49 : decode cX8_vital 49 = .ok (.iload_n 3, 1) := by decide +kernel
theorem dX8_vital_50 : decode cX8_vital 50 = .ok (.aload_n 0, 1) := by decide +kernel
theorem dX8_vital_51 : decode cX8_vital 51 = .ok (.getfield 26, 3) := by decide +kernel
theorem dX8_vital_54 : decode cX8_vital 54 = .ok (.getfield 265, 3) := by decide +kernel
theorem dX8_vital_57 : decode cX8_vital 57 = .ok (.if_icmp .ge 82, 3) := by decide +kernel
theorem dX8_vital_60 : decode cX8_vital 60 = .ok (.iload_n 3, 1) := by decide +kernel
theorem dX8_vital_61 : decode cX8_vital 61 = .ok (.iconst 1, 1) := by decide +kernel
theorem dX8_vital_62 : decode cX8_vital 62 = .ok (.iadd, 1) := by decide +kernel
theorem dX8_vital_63 : decode cX8_vital 63 = .ok (.istore 4, 2) := by decide +kernel
theorem dX8_vital_65 : decode cX8_vital 65 = .ok (.iload 4, 2) := by decide +kernel
theorem dX8_vital_67 : decode cX8_vital 67 = .ok (.aload_n 0, 1) := by decide +kernel
theorem dX8_vital_68 : decode cX8_vital 68 = .ok (.getfield 26, 3) := by decide +kernel
theorem dX8_vital_71 : decode cX8_vital 71 = .ok (.getfield 265, 3) := by decide +kernel
theorem dX8_vital_74 : decode cX8_vital 74 = .ok (.if_icmp .ge 59, 3) := by decide +kernel
theorem dX8_vital_77 : decode cX8_vital 77 = .ok (.aload_n 0, 1) := by decide +kernel
theorem dX8_vital_78 : decode cX8_vital 78 = .ok (.getfield 33, 3) := by decide +kernel
theorem dX8_vital_81 : decode cX8_vital 81 = .ok (.iload_n 3, 1) := by decide +kernel
theorem dX8_vital_82 : decode cX8_vital 82 = .ok (.iload 4, 2) := by decide +kernel
theorem dX8_vital_84 : decode cX8_vital 84 = .ok (.invokevirtual 292, 3) := by decide +kernel
theorem dX8_vital_87 : decode cX8_vital 87 = .ok (.ifCond .eq 40, 3) := by decide +kernel
theorem dX8_vital_90 : decode cX8_vital 90 = .ok (.aload_n 0, 1) := by decide +kernel
theorem dX8_vital_91 : decode cX8_vital 91 = .ok (.iload_n 3, 1) := by decide +kernel
theorem dX8_vital_92 : decode cX8_vital 92 = .ok (.iload 4, 2) := by decide +kernel
theorem dX8_vital_94 : decode cX8_vital 94 = .ok (.iload_n 1, 1) := by decide +kernel
theorem dX8_vital_95 : decode cX8_vital 95 = .ok (.invokevirtual 296, 3) := by decide +kernel
theorem dX8_vital_98 : decode cX8_vital 98 = .ok (.ifCond .eq 29, 3) := by decide +kernel
theorem dX8_vital_101 : decode cX8_vital 101 = .ok (.iload_n 2, 1) := by decide +kernel
theorem dX8_vital_102 : decode cX8_vital 102 = .ok (.ifCond .ne 22, 3) := by decide +kernel
theorem dX8_vital_105 : decode cX8_vital 105 = .ok (.aload_n 0, 1) := by decide +kernel
theorem dX8_vital_106 : decode cX8_vital 106 = .ok (.getfield 19, 3) := by decide +kernel
theorem dX8_vital_109 : decode cX8_vital 109 = .ok (.iload_n 3, 1) := by decide +kernel
theorem dX8_vital_110 : decode cX8_vital 110 = .ok (.i2l, 1) := by decide +kernel
theorem dX8_vital_111 : decode cX8_vital 111 = .ok (.invokevirtual 268, 3) := by decide +kernel
theorem dX8_vital_114 : decode cX8_vital 114 = .ok (.aload_n 0, 1) := by decide +kernel
theorem dX8_vital_115 : decode cX8_vital 115 = .ok (.getfield 19, 3) := by decide +kernel
theorem dX8_vital_118 : decode cX8_vital 118 = .ok (.iload 4, 2) := by decide +kernel
theorem dX8_vital_120 : decode cX8_vital 120 = .ok (.i2l, 1) := by decide +kernel
theorem dX8_vital_121 : decode cX8_vital 121 = .ok (.invokevirtual 268, 3) := by decide +kernel
theorem dX8_vital_124 : decode cX8_vital 124 = .ok (.iinc 2 1, 3) := by decide +kernel
theorem dX8_vital_127 : decode cX8_vital 127 = .ok (.iinc 4 1, 3) := by decide +kernel
theorem dX8_vital_130 : decode cX8_vital 130 = .ok (.goto (-65), 3) := by decide +kernel
theorem dX8_vital_133 : decode cX8_vital 133 = .ok (.iinc 3 1, 3) := by decide +kernel
theorem dX8_vital_136 : decode cX8_vital 136 = .ok (.goto (-87), 3) := by decide +kernel
theorem dX8_vital_139 : decode cX8_vital 139 = .ok (.iload_n 2, 1) := by decide +kernel
theorem dX8_vital_140 : decode cX8_vital 140 = .ok (.ireturn, 1) := by decide +kernel
theorem dX8_tie_0 : decode cX8_tie 0 = .ok (.aload_n 0, 1) := by decide +kernel
theorem dX8_tie_1 : decode cX8_tie 1 = .ok (.getfield 26, 3) := by decide +kernel
theorem dX8_tie_4 : decode cX8_tie 4 = .ok (.aload_n 0, 1) := by decide +kernel
theorem dX8_tie_5 : decode cX8_tie 5 = .ok (.getfield 33, 3) := by decide +kernel
theorem dX8_tie_8 : decode cX8_tie 8 = .ok (.aload_n 0, 1) := by decide +kernel
theorem dX8_tie_9 : decode cX8_tie 9 = .ok (.getfield 26, 3) := by decide +kernel
theorem dX8_tie_12 : decode cX8_tie 12 = .ok (.getfield 163, 3) := by decide +kernel
theorem dX8_tie_15 : decode cX8_tie 15 = .ok (.invokevirtual 242, 3) := by decide +kernel
theorem dX8_tie_18 : decode cX8_tie 18 = .ok (.invokestatic 189, 3) := by decide +kernel
theorem dX8_tie_21 : decode cX8_tie 21 = .ok (.istore_n 1, 1) := by decide +kernel
theorem dX8_tie_22 : decode cX8_tie 22 = .ok (.aload_n 0, 1) := by decide +kernel
theorem dX8_tie_23 : decode cX8_tie 23 = .ok (.getfield 37, 3) := by decide +kernel
theorem dX8_tie_26 : decode cX8_tie 26 = .ok (.aload_n 0, 1) := by decide +kernel
theorem dX8_tie_27 : decode cX8_tie 27 = .ok (.getfield 33, 3) := by decide +kernel
theorem dX8_tie_30 : decode cX8_tie 30 = .ok (.invokevirtual 286, 3) := by decide +kernel
theorem dX8_tie_33 : decode cX8_tie 33 = .ok (.bipush 9, 2) := by decide +kernel
theorem dX8_tie_35 : decode cX8_tie 35 = .ok (.istore_n 2, 1) := by decide +kernel
theorem dX8_tie_36 : decode cX8_tie 36 = .ok (.iconst 0, 1) := by decide +kernel
theorem dX8_tie_37 : decode cX8_tie 37 = .ok (.istore_n 3, 1) := by decide +kernel
theorem dX8_tie_38 : decode cX8_tie 38 = .ok (.iload_n 3, 1) := by decide +kernel
theorem dX8_tie_39 : decode cX8_tie 39 = .ok (.aload_n 0, 1) := by decide +kernel
theorem dX8_tie_40 : decode cX8_tie 40 = .ok (.getfield 26, 3) := by decide +kernel
theorem dX8_tie_43 : decode cX8_tie 43 = .ok (.getfield 265, 3) := by decide +kernel
theorem dX8_tie_46 : decode cX8_tie 46 = .ok (.if_icmp .ge 110, 3) := by decide +kernel
theorem dX8_tie_49 : decode cX8_tie 49 = .ok (.iload_n 3, 1) := by decide +kernel
theorem dX8_tie_50 : decode cX8_tie 50 = .ok (.iconst 1, 1) := by decide +kernel
theorem dX8_tie_51 : decode cX8_tie 51 = .ok (.iadd, 1) := by decide +kernel
theorem dX8_tie_52 : decode cX8_tie 52 = .ok (.istore 4, 2) := by decide +kernel
theorem dX8_tie_54 : decode cX8_tie 54 = .ok (.iload 4, 2) := by decide +kernel
theorem dX8_tie_56 : decode cX8_tie 56 = .ok (.aload_n 0, 1) := by decide +kernel
theorem dX8_tie_57 : decode cX8_tie 57 = .ok (.getfield 26, 3) := by decide +kernel
theorem dX8_tie_60 : decode cX8_tie 60 = .ok (.getfield 265, 3) := by decide +kernel
theorem dX8_tie_63 : decode cX8_tie 63 = .ok (.if_icmp .ge 87, 3) := by decide +kernel
theorem dX8_tie_66 : decode cX8_tie 66 = .ok (.aload_n 0, 1) := by decide +kernel
theorem dX8_tie_67 : decode cX8_tie 67 = .ok (.getfield 33, 3) := by decide +kernel
theorem dX8_tie_70 : decode cX8_tie 70 = .ok (.iload_n 3, 1) := by decide +kernel
theorem dX8_tie_71 : decode cX8_tie 71 = .ok (.invokevirtual 160, 3) := by decide +kernel
theorem dX8_tie_74 : decode cX8_tie 74 = .ok (.ifCond .ne 70, 3) := by decide +kernel
theorem dX8_tie_77 : decode cX8_tie 77 = .ok (.aload_n 0, 1) := by decide +kernel
theorem dX8_tie_78 : decode cX8_tie 78 = .ok (.getfield 33, 3) := by decide +kernel
theorem dX8_tie_81 : decode cX8_tie 81 = .ok (.iload 4, 2) := by decide +kernel
theorem dX8_tie_83 : decode cX8_tie 83 = .ok (.invokevirtual 160, 3) := by decide +kernel
theorem dX8_tie_86 : decode cX8_tie 86 = .ok (.ifCond .ne 58, 3) := by decide +kernel
theorem dX8_tie_89 : decode cX8_tie 89 = .ok (.aload_n 0, 1) := by decide +kernel
theorem dX8_tie_90 : decode cX8_tie 90 = .ok (.getfield 33, 3) := by decide +kernel
theorem dX8_tie_93 : decode cX8_tie 93 = .ok (.iload_n 3, 1) := by decide +kernel
theorem dX8_tie_94 : decode cX8_tie 94 = .ok (.iload 4, 2) := by decide +kernel
theorem dX8_tie_96 : decode cX8_tie 96 = .ok (.invokevirtual 292, 3) := by decide +kernel
theorem dX8_tie_99 : decode cX8_tie 99 = .ok (.ifCond .eq 6, 3) := by decide +kernel
theorem dX8_tie_102 : decode cX8_tie 102 = .ok (.goto 42, 3) := by decide +kernel
theorem dX8_tie_105 : decode cX8_tie 105 = .ok (.aload_n 0, 1) := by decide +kernel
theorem dX8_tie_106 : decode cX8_tie 106 = .ok (.iload_n 3, 1) := by decide +kernel
theorem dX8_tie_107 : decode cX8_tie 107 = .ok (.iload 4, 2) := by decide +kernel
theorem dX8_tie_109 : decode cX8_tie 109 = .ok (.invokevirtual 300, 3) := by decide +kernel
theorem dX8_tie_112 : decode cX8_tie 112 = .ok (.istore 5, 2) := by decide +kernel
theorem dX8_tie_114 : decode cX8_tie 114 = .ok (.iload 5, 2) := by decide +kernel
theorem dX8_tie_116 : decode cX8_tie 116 = .ok (.iload_n 2, 1) := by decide +kernel
theorem dX8_tie_117 : decode cX8_tie 117 = .ok (.if_icmp .ge 27, 3) := by decide +kernel
theorem dX8_tie_120 : decode cX8_tie 120 = .ok (.iload 5, 2) := by decide +kernel
theorem dX8_tie_122 : decode cX8_tie 122 = .ok (.istore_n 2, 1) := by decide +kernel
theorem dX8_tie_123 : decode cX8_tie 123 = .ok (.aload_n 0, 1) := by decide +kernel
theorem dX8_tie_124 : decode cX8_tie 124 = .ok (.getfield 19, 3) := by decide +kernel
theorem dX8_tie_127 : decode cX8_tie 127 = .ok (.iload_n 3, 1) := by decide +kernel
theorem dX8_tie_128 : decode cX8_tie 128 = .ok (.i2l, 1) := by decide +kernel
theorem dX8_tie_129 : decode cX8_tie 129 = .ok (.iload 4, 2) := by decide +kernel
theorem dX8_tie_131 : decode cX8_tie 131 = .ok (.i2l, 1) := by decide +kernel
theorem dX8_tie_132 : decode cX8_tie 132 = .ok (.invokevirtual 198, 3) := by decide +kernel
theorem dX8_tie_135 : decode cX8_tie 135 = .ok (.aload_n 0, 1) := by decide +kernel
theorem dX8_tie_136 : decode cX8_tie 136 = .ok (.getfield 19, 3) := by decide +kernel
theorem dX8_tie_139 : decode cX8_tie 139 = .ok (.iload_n 1, 1) := by decide +kernel
theorem dX8_tie_140 : decode cX8_tie 140 = .ok (.i2l, 1) := by decide +kernel
theorem dX8_tie_141 : decode cX8_tie 141 = .ok (.invokevirtual 268, 3) := by decide +kernel
theorem dX8_tie_144 : decode cX8_tie 144 = .ok (.iinc 4 1, 3) := by decide +kernel
theorem dX8_tie_147 : decode cX8_tie 147 = .ok (.goto (-93), 3) := by decide +kernel
theorem dX8_tie_150 : decode cX8_tie 150 = .ok (.iinc 3 1, 3) := by decide +kernel
theorem dX8_tie_153 : decode cX8_tie 153 = .ok (.goto (-115), 3) := by decide +kernel
theorem dX8_tie_156 : decode cX8_tie 156 = .ok (.iload_n 2, 1) := by decide +kernel
theorem dX8_tie_157 : decode cX8_tie 157 = .ok (.bipush 8, 2) := by decide +kernel
theorem dX8_tie_159 : decode cX8_tie 159 = .ok (.if_icmp .le 8, 3) := by decide +kernel
theorem dX8_tie_162 : decode cX8_tie 162 = .ok (.bipush (-2), 2) := by decide +kernel
theorem dX8_tie_164 : decode cX8_tie 164 = .ok (.goto 4, 3) := by decide +kernel
theorem dX8_tie_167 : decode cX8_tie 167 = .ok (.iload_n 2, 1) := by decide +kernel
theorem dX8_tie_168 : decode cX8_tie 168 = .ok (.ireturn, 1) := by decide +kernel
theorem dX8_binds_0 : decode cX8_binds 0 = .ok (.aload_n 0, 1) := by decide +kernel
theorem dX8_binds_1 : decode cX8_binds 1 = .ok (.getfield 26, 3) := by decide +kernel
theorem dX8_binds_4 : decode cX8_binds 4 = .ok (.aload_n 0, 1) := by decide +kernel
theorem dX8_binds_5 : decode cX8_binds 5 = .ok (.getfield 33, 3) := by decide +kernel
theorem dX8_binds_8 : decode cX8_binds 8 = .ok (.aload_n 0, 1) := by decide +kernel
theorem dX8_binds_9 : decode cX8_binds 9 = .ok (.getfield 26, 3) := by decide +kernel
theorem dX8_binds_12 : decode cX8_binds 12 = .ok (.getfield 163, 3) := by decide +kernel
theorem dX8_binds_15 : decode cX8_binds 15 = .ok (.invokevirtual 167, 3) := by decide +kernel
theorem dX8_binds_18 : decode cX8_binds 18 = .ok (.aload_n 0, 1) := by decide +kernel
theorem dX8_binds_19 : decode cX8_binds 19 = .ok (.getfield 26, 3) := by decide +kernel
theorem dX8_binds_22 : decode cX8_binds 22 = .ok (.aload_n 0, 1) := by decide +kernel
theorem dX8_binds_23 : decode cX8_binds 23 = .ok (.getfield 33, 3) := by decide +kernel
theorem dX8_binds_26 : decode cX8_binds 26 = .ok (.invokevirtual 276, 3) := by decide +kernel
theorem dX8_binds_29 : decode cX8_binds 29 = .ok (.iconst 1, 1) := by decide +kernel
theorem dX8_binds_30 : decode cX8_binds 30 = .ok (.aload_n 0, 1) := by decide +kernel
theorem dX8_binds_31 : decode cX8_binds 31 = .ok (.getfield 26, 3) := by decide +kernel
theorem dX8_binds_34 : decode cX8_binds 34 = .ok (.getfield 246, 3) := by decide +kernel
theorem dX8_binds_37 : decode cX8_binds 37 = .ok (.ishl, 1) := by decide +kernel
theorem dX8_binds_38 : decode cX8_binds 38 = .ok (.istore_n 1, 1) := by decide +kernel
theorem dX8_binds_39 : decode cX8_binds 39 = .ok (.iconst 0, 1) := by decide +kernel
theorem dX8_binds_40 : decode cX8_binds 40 = .ok (.istore_n 2, 1) := by decide +kernel
theorem dX8_binds_41 : decode cX8_binds 41 = .ok (.iload_n 2, 1) := by decide +kernel
theorem dX8_binds_42 : decode cX8_binds 42 = .ok (.iload_n 1, 1) := by decide +kernel
theorem dX8_binds_43 : decode cX8_binds 43 = .ok (.if_icmp .ge 38, 3) := by decide +kernel
theorem dX8_binds_46 : decode cX8_binds 46 = .ok (.iload_n 2, 1) := by decide +kernel
theorem dX8_binds_47 : decode cX8_binds 47 = .ok (.sipush 256, 3) := by decide +kernel
theorem dX8_binds_50 : decode cX8_binds 50 = .ok (.if_icmp .ge 31, 3) := by decide +kernel
theorem dX8_binds_53 : decode cX8_binds 53 = .ok (.aload_n 0, 1) := by decide +kernel
theorem dX8_binds_54 : decode cX8_binds 54 = .ok (.getfield 65, 3) := by decide +kernel
theorem dX8_binds_57 : decode cX8_binds 57 = .ok (.iload_n 2, 1) := by decide +kernel
theorem dX8_binds_58 : decode cX8_binds 58 = .ok (.aload_n 0, 1) := by decide +kernel
theorem dX8_binds_59 : decode cX8_binds 59 = .ok (.iload_n 2, 1) := by decide +kernel
theorem dX8_binds_60 : decode cX8_binds 60 = .ok (.invokevirtual 304, 3) := by decide +kernel
theorem dX8_binds_63 : decode cX8_binds 63 = .ok (.iastore, 1) := by decide +kernel
theorem dX8_binds_64 : decode cX8_binds 64 = .ok (.aload_n 0, 1) := by decide +kernel
theorem dX8_binds_65 : decode cX8_binds 65 = .ok (.getfield 68, 3) := by decide +kernel
theorem dX8_binds_68 : decode cX8_binds 68 = .ok (.iload_n 2, 1) := by decide +kernel
theorem dX8_binds_69 : decode cX8_binds 69 = .ok (.aload_n 0, 1) := by decide +kernel
theorem dX8_binds_70 : decode cX8_binds 70 = .ok (.iload_n 2, 1) := by decide +kernel
theorem dX8_binds_71 : decode cX8_binds 71 = .ok (.invokevirtual 307, 3) := by decide +kernel
theorem dX8_binds_74 : decode cX8_binds 74 = .ok (.iastore, 1) := by decide +kernel
theorem dX8_binds_75 : decode cX8_binds 75 = .ok (.iinc 2 1, 3) := by decide +kernel
theorem dX8_binds_78 : decode cX8_binds 78 = .ok (.goto (-37), 3) := by decide +kernel
theorem dX8_binds_81 : decode cX8_binds 81 = .ok (.aload_n 0, 1) := by decide +kernel
theorem dX8_binds_82 : decode cX8_binds 82 = .ok (.getfield 68, 3) := by decide +kernel
theorem dX8_binds_85 : decode cX8_binds 85 = .ok (.iload_n 1, 1) := by decide +kernel
theorem dX8_binds_86 : decode cX8_binds 86 = .ok (.sipush 256, 3) := by decide +kernel
theorem dX8_binds_89 : decode cX8_binds 89 = .ok (.invokestatic 310, 3) := by decide +kernel
theorem dX8_binds_92 : decode cX8_binds 92 = .ok (.iconst 1, 1) := by decide +kernel
theorem dX8_binds_93 : decode cX8_binds 93 = .ok (.isub, 1) := by decide +kernel
theorem dX8_binds_94 : decode cX8_binds 94 = .ok (.iaload, 1) := by decide +kernel
theorem dX8_binds_95 : decode cX8_binds 95 = .ok (.istore_n 2, 1) := by decide +kernel
theorem dX8_binds_96 : decode cX8_binds 96 = .ok (.iload_n 2, 1) := by decide +kernel
theorem dX8_binds_97 : decode cX8_binds 97 = .ok (.ifCond .ge 6, 3) := by decide +kernel
theorem dX8_binds_100 : decode cX8_binds 100 = .ok (.bipush (-2), 2) := by decide +kernel
theorem dX8_binds_102 : decode cX8_binds 102 = .ok (.ireturn, 1) := by decide +kernel
theorem dX8_binds_103 : decode cX8_binds 103 = .ok (.aload_n 0, 1) := by decide +kernel
theorem dX8_binds_104 : decode cX8_binds 104 = .ok (.getfield 19, 3) := by decide +kernel
theorem dX8_binds_107 : decode cX8_binds 107 = .ok (.iload_n 2, 1) := by decide +kernel
theorem dX8_binds_108 : decode cX8_binds 108 = .ok (.i2l, 1) := by decide +kernel
theorem dX8_binds_109 : decode cX8_binds 109 = .ok (.invokevirtual 261, 3) := by decide +kernel
theorem dX8_binds_112 : decode cX8_binds 112 = .ok (.aload_n 0, 1) := by decide +kernel
theorem dX8_binds_113 : decode cX8_binds 113 = .ok (.getfield 26, 3) := by decide +kernel
theorem dX8_binds_116 : decode cX8_binds 116 = .ok (.getfield 246, 3) := by decide +kernel
theorem dX8_binds_119 : decode cX8_binds 119 = .ok (.iload_n 2, 1) := by decide +kernel
theorem dX8_binds_120 : decode cX8_binds 120 = .ok (.isub, 1) := by decide +kernel
theorem dX8_binds_121 : decode cX8_binds 121 = .ok (.ireturn, 1) := by decide +kernel
theorem dX8_way_0 : decode cX8_way 0 = .ok (.aload_n 0, 1) := by decide +kernel
theorem dX8_way_1 : decode cX8_way 1 = .ok (.getfield 26, 3) := by decide +kernel
theorem dX8_way_4 : decode cX8_way 4 = .ok (.iload_n 1, 1) := by decide +kernel
theorem dX8_way_5 : decode cX8_way 5 = .ok (.invokevirtual 138, 3) := by decide +kernel
theorem dX8_way_8 : decode cX8_way 8 = .ok (.ifCond .eq 14, 3) := by decide +kernel
theorem dX8_way_11 : decode cX8_way 11 = .ok (.aload_n 0, 1) := by decide +kernel
theorem dX8_way_12 : decode cX8_way 12 = .ok (.getfield 26, 3) := by decide +kernel
theorem dX8_way_15 : decode cX8_way 15 = .ok (.iload_n 2, 1) := by decide +kernel
theorem dX8_way_16 : decode cX8_way 16 = .ok (.invokevirtual 138, 3) := by decide +kernel
theorem dX8_way_19 : decode cX8_way 19 = .ok (.ifCond .ne 5, 3) := by decide +kernel
theorem dX8_way_22 : decode cX8_way 22 = .ok (.iconst (-1), 1) := by decide +kernel
theorem dX8_way_23 : decode cX8_way 23 = .ok (.ireturn, 1) := by decide +kernel
theorem dX8_way_24 : decode cX8_way 24 = .ok (.aload_n 0, 1) := by decide +kernel
theorem dX8_way_25 : decode cX8_way 25 = .ok (.getfield 33, 3) := by decide +kernel
theorem dX8_way_28 : decode cX8_way 28 = .ok (.iload_n 1, 1) := by decide +kernel
theorem dX8_way_29 : decode cX8_way 29 = .ok (.invokevirtual 160, 3) := by decide +kernel
theorem dX8_way_32 : decode cX8_way 32 = .ok (.ifCond .ne 14, 3) := by decide +kernel
theorem dX8_way_35 : decode cX8_way 35 = .ok (.aload_n 0, 1) := by decide +kernel
theorem dX8_way_36 : decode cX8_way 36 = .ok (.getfield 33, 3) := by decide +kernel
theorem dX8_way_39 : decode cX8_way 39 = .ok (.iload_n 2, 1) := by decide +kernel
theorem dX8_way_40 : decode cX8_way 40 = .ok (.invokevirtual 160, 3) := by decide +kernel
theorem dX8_way_43 : decode cX8_way 43 = .ok (.ifCond .eq 6, 3) := by decide +kernel
theorem dX8_way_46 : decode cX8_way 46 = .ok (.bipush (-2), 2) := by decide +kernel
theorem dX8_way_48 : decode cX8_way 48 = .ok (.ireturn, 1) := by decide +kernel
theorem dX8_way_49 : decode cX8_way 49 = .ok (.aload_n 0, 1) := by decide +kernel
theorem dX8_way_50 : decode cX8_way 50 = .ok (.iload_n 2, 1) := by decide +kernel
theorem dX8_way_51 : decode cX8_way 51 = .ok (.invokevirtual 315, 3) := by decide +kernel
theorem dX8_way_54 : decode cX8_way 54 = .ok (.aload_n 0, 1) := by decide +kernel
theorem dX8_way_55 : decode cX8_way 55 = .ok (.getfield 61, 3) := by decide +kernel
theorem dX8_way_58 : decode cX8_way 58 = .ok (.iload_n 1, 1) := by decide +kernel
theorem dX8_way_59 : decode cX8_way 59 = .ok (.iaload, 1) := by decide +kernel
theorem dX8_way_60 : decode cX8_way 60 = .ok (.istore_n 3, 1) := by decide +kernel
theorem dX8_way_61 : decode cX8_way 61 = .ok (.iload_n 3, 1) := by decide +kernel
theorem dX8_way_62 : decode cX8_way 62 = .ok (.ifCond .ge 6, 3) := by decide +kernel
theorem dX8_way_65 : decode cX8_way 65 = .ok (.bipush (-2), 2) := by decide +kernel
theorem dX8_way_67 : decode cX8_way 67 = .ok (.ireturn, 1) := by decide +kernel
theorem dX8_way_68 : decode cX8_way 68 = .ok (.aload_n 0, 1) := by decide +kernel
theorem dX8_way_69 : decode cX8_way 69 = .ok (.getfield 19, 3) := by decide +kernel
theorem dX8_way_72 : decode cX8_way 72 = .ok (.iload_n 1, 1) := by decide +kernel
theorem dX8_way_73 : decode cX8_way 73 = .ok (.i2l, 1) := by decide +kernel
theorem dX8_way_74 : decode cX8_way 74 = .ok (.invokevirtual 261, 3) := by decide +kernel
theorem dX8_way_77 : decode cX8_way 77 = .ok (.iload_n 1, 1) := by decide +kernel
theorem dX8_way_78 : decode cX8_way 78 = .ok (.istore 4, 2) := by decide +kernel
theorem dX8_way_80 : decode cX8_way 80 = .ok (.iload_n 3, 1) := by decide +kernel
theorem dX8_way_81 : decode cX8_way 81 = .ok (.iconst 1, 1) := by decide +kernel
theorem dX8_way_82 : decode cX8_way 82 = .ok (.isub, 1) := by decide +kernel
theorem dX8_way_83 : decode cX8_way 83 = .ok (.istore 5, 2) := by decide +kernel
theorem dX8_way_85 : decode cX8_way 85 = .ok (.iload 5, 2) := by decide +kernel
theorem dX8_way_87 : decode cX8_way 87 = .ok (.ifCond .lt 29, 3) := by decide +kernel
theorem dX8_way_90 : decode cX8_way 90 = .ok (.aload_n 0, 1) := by decide +kernel
theorem dX8_way_91 : decode cX8_way 91 = .ok (.iload 4, 2) := by decide +kernel
theorem dX8_way_93 : decode cX8_way 93 = .ok (.iload 5, 2) := by decide +kernel
theorem dX8_way_95 : decode cX8_way 95 = .ok (.invokevirtual 318, 3) := by decide +kernel
theorem dX8_way_98 : decode cX8_way 98 = .ok (.istore 4, 2) := by decide +kernel
theorem dX8_way_100 : decode cX8_way 100 = .ok (.aload_n 0, 1) := by decide +kernel
theorem dX8_way_101 : decode cX8_way 101 = .ok (.getfield 19, 3) := by decide +kernel
theorem dX8_way_104 : decode cX8_way 104 = .ok (.iload 4, 2) := by decide +kernel
theorem dX8_way_106 : decode cX8_way 106 = .ok (.i2l, 1) := by decide +kernel
theorem dX8_way_107 : decode cX8_way 107 = .ok (.invokevirtual 268, 3) := by decide +kernel
theorem dX8_way_110 : decode cX8_way 110 = .ok (.iinc 5 (-1), 3) := by decide +kernel
theorem dX8_way_113 : decode cX8_way 113 = .ok (.goto (-28), 3) := by decide +kernel
theorem dX8_way_116 : decode cX8_way 116 = .ok (.iload_n 3, 1) := by decide +kernel
theorem dX8_way_117 : decode cX8_way 117 = .ok (.ireturn, 1) := by decide +kernel
theorem dX8_serves_0 : decode cX8_serves 0 = .ok (.aload_n 0, 1) := by decide +kernel
theorem dX8_serves_1 : decode cX8_serves 1 = .ok (.invokevirtual 321, 3) := by decide +kernel
theorem dX8_serves_4 : decode cX8_serves 4 = .ok (.istore_n 1, 1) := by decide +kernel
theorem dX8_serves_5 : decode cX8_serves 5 = .ok (.iload_n 1, 1) := by decide +kernel
theorem dX8_serves_6 : decode cX8_serves 6 = .ok (.iconst (-1), 1) := by decide +kernel
theorem dX8_serves_7 : decode cX8_serves 7 = .ok (.if_icmp .eq 14, 3) := by decide +kernel
theorem dX8_serves_10 : decode cX8_serves 10 = .ok (.aload_n 0, 1) := by decide +kernel
theorem dX8_serves_11 : decode cX8_serves 11 = .ok (.getfield 10, 3) := by decide +kernel
theorem dX8_serves_14 : decode cX8_serves 14 = .ok (.invokevirtual 111, 3) := by decide +kernel
theorem dX8_serves_17 : decode cX8_serves 17 = .ok (.iconst (-1), 1) := by decide +kernel
theorem dX8_serves_18 : decode cX8_serves 18 = .ok (.iload_n 1, 1) := by decide +kernel
theorem dX8_serves_19 : decode cX8_serves 19 = .ok (.isub, 1) := by decide +kernel
theorem dX8_serves_20 : decode cX8_serves 20 = .ok (.ireturn, 1) := by decide +kernel
theorem dX8_serves_21 : decode cX8_serves 21 = .ok (.aload_n 0, 1) := by decide +kernel
theorem dX8_serves_22 : decode cX8_serves 22 = .ok (.getfield 10, 3) := by decide +kernel
theorem dX8_serves_25 : decode cX8_serves 25 = .ok (.getfield 96, 3) := by decide +kernel
theorem dX8_serves_28 : decode cX8_serves 28 = .ok (.iconst 1, 1) := by decide +kernel
theorem dX8_serves_29 : decode cX8_serves 29 = .ok (.iadd, 1) := by decide +kernel
theorem dX8_serves_30 : decode cX8_serves 30 = .ok (.iconst 5, 1) := by decide +kernel
theorem dX8_serves_31 : decode cX8_serves 31 = .ok (.idiv, 1) := by decide +kernel
theorem dX8_serves_32 : decode cX8_serves 32 = .ok (.bipush 8, 2) := by decide +kernel
theorem dX8_serves_34 : decode cX8_serves 34 = .ok (.invokestatic 310, 3) := by decide +kernel
theorem dX8_serves_37 : decode cX8_serves 37 = .ok (.istore_n 2, 1) := by decide +kernel
theorem dX8_serves_38 : decode cX8_serves 38 = .ok (.iconst 0, 1) := by decide +kernel
theorem dX8_serves_39 : decode cX8_serves 39 = .ok (.istore_n 3, 1) := by decide +kernel
theorem dX8_serves_40 : decode cX8_serves 40 = .ok (.iconst 0, 1) := by decide +kernel
theorem dX8_serves_41 : decode cX8_serves 41 = .ok (.istore 4, 2) := by decide +kernel
theorem dX8_serves_43 : decode cX8_serves 43 = .ok (.iconst 1, 1) := by decide +kernel
theorem dX8_serves_44 : decode cX8_serves 44 = .ok (.istore 5, 2) := by decide +kernel
theorem dX8_serves_46 : decode cX8_serves 46 = .ok (.iload 5, 2) := by decide +kernel
theorem dX8_serves_48 : decode cX8_serves 48 = .ok (.iconst 1, 1) := by decide +kernel
theorem dX8_serves_49 : decode cX8_serves 49 = .ok (.iload_n 2, 1) := by decide +kernel
theorem dX8_serves_50 : decode cX8_serves 50 = .ok (.ishl, 1) := by decide +kernel
theorem dX8_serves_51 : decode cX8_serves 51 = .ok (.if_icmp .ge 72, 3) := by decide +kernel
theorem dX8_serves_54 : decode cX8_serves 54 = .ok (.aload_n 0, 1) := by decide +kernel
theorem dX8_serves_55 : decode cX8_serves 55 = .ok (.iload 5, 2) := by decide +kernel
theorem dX8_serves_57 : decode cX8_serves 57 = .ok (.iload_n 2, 1) := by decide +kernel
theorem dX8_serves_58 : decode cX8_serves 58 = .ok (.invokevirtual 324, 3) := by decide +kernel
theorem dX8_serves_61 : decode cX8_serves 61 = .ok (.istore 6, 2) := by decide +kernel
theorem dX8_serves_63 : decode cX8_serves 63 = .ok (.iload 5, 2) := by decide +kernel
theorem dX8_serves_65 : decode cX8_serves 65 = .ok (.invokestatic 189, 3) := by decide +kernel
theorem dX8_serves_68 : decode cX8_serves 68 = .ok (.iload 4, 2) := by decide +kernel
theorem dX8_serves_70 : decode cX8_serves 70 = .ok (.invokestatic 189, 3) := by decide +kernel
theorem dX8_serves_73 : decode cX8_serves 73 = .ok (.if_icmp .ge 7, 3) := by decide +kernel
theorem dX8_serves_76 : decode cX8_serves 76 = .ok (.iconst 1, 1) := by decide +kernel
theorem dX8_serves_77 : decode cX8_serves 77 = .ok (.goto 4, 3) := by decide +kernel
theorem dX8_serves_80 : decode cX8_serves 80 = .ok (.iconst 0, 1) := by decide +kernel
theorem dX8_serves_81 : decode cX8_serves 81 = .ok (.istore 7, 2) := by decide +kernel
theorem dX8_serves_83 : decode cX8_serves 83 = .ok (.iload 6, 2) := by decide +kernel
theorem dX8_serves_85 : decode cX8_serves 85 = .ok (.iload_n 3, 1) := by decide +kernel
theorem dX8_serves_86 : decode cX8_serves 86 = .ok (.if_icmp .gt 14, 3) := by decide +kernel
theorem dX8_serves_89 : decode cX8_serves 89 = .ok (.iload 6, 2) := by decide +kernel
theorem dX8_serves_91 : decode cX8_serves 91 = .ok (.iload_n 3, 1) := by decide +kernel
theorem dX8_serves_92 : decode cX8_serves 92 = .ok (.if_icmp .ne 25, 3) := by decide +kernel
theorem dX8_serves_95 : decode cX8_serves 95 = .ok (.iload 7, 2) := by decide +kernel
theorem dX8_serves_97 : decode cX8_serves 97 = .ok (.ifCond .eq 20, 3) := by decide +kernel
theorem dX8_serves_100 : decode cX8_serves 100 = .ok (.aload_n 0, 1) := by decide +kernel
theorem dX8_serves_101 : decode cX8_serves 101 = .ok (.iload 5, 2) := by decide +kernel
theorem dX8_serves_103 : decode cX8_serves 103 = .ok (.iload_n 2, 1) := by decide +kernel
theorem dX8_serves_104 : decode cX8_serves 104 = .ok (.invokevirtual 327, 3) := by decide +kernel
theorem dX8_serves_107 : decode cX8_serves 107 = .ok (.ifCond .eq 10, 3) := by decide +kernel
theorem dX8_serves_110 : decode cX8_serves 110 = .ok (.iload 6, 2) := by decide +kernel
theorem dX8_serves_112 : decode cX8_serves 112 = .ok (.istore_n 3, 1) := by decide +kernel
theorem dX8_serves_113 : decode cX8_serves 113 = .ok (.iload 5, 2) := by decide +kernel
theorem dX8_serves_115 : decode cX8_serves 115 = .ok (.istore 4, 2) := by decide +kernel
theorem dX8_serves_117 : decode cX8_serves 117 = .ok (.iinc 5 1, 3) := by decide +kernel
theorem dX8_serves_120 : decode cX8_serves 120 = .ok (.goto (-74), 3) := by decide +kernel
theorem dX8_serves_123 : decode cX8_serves 123 = .ok (.aload_n 0, 1) := by decide +kernel
theorem dX8_serves_124 : decode cX8_serves 124 = .ok (.getfield 10, 3) := by decide +kernel
theorem dX8_serves_127 : decode cX8_serves 127 = .ok (.invokevirtual 111, 3) := by decide +kernel
theorem dX8_serves_130 : decode cX8_serves 130 = .ok (.aload_n 0, 1) := by decide +kernel
theorem dX8_serves_131 : decode cX8_serves 131 = .ok (.getfield 19, 3) := by decide +kernel
theorem dX8_serves_134 : decode cX8_serves 134 = .ok (.iload 4, 2) := by decide +kernel
theorem dX8_serves_136 : decode cX8_serves 136 = .ok (.i2l, 1) := by decide +kernel
theorem dX8_serves_137 : decode cX8_serves 137 = .ok (.invokevirtual 261, 3) := by decide +kernel
theorem dX8_serves_140 : decode cX8_serves 140 = .ok (.iload_n 3, 1) := by decide +kernel
theorem dX8_serves_141 : decode cX8_serves 141 = .ok (.ireturn, 1) := by decide +kernel
theorem dX8_owes_0 : decode cX8_owes 0 = .ok (.iload_n 1, 1) := by decide +kernel
theorem dX8_owes_1 : decode cX8_owes 1 = .ok (.ifCond .lt 9, 3) := by decide +kernel
theorem dX8_owes_4 : decode cX8_owes 4 = .ok (.iload_n 1, 1) := by decide +kernel
theorem dX8_owes_5 : decode cX8_owes 5 = .ok (.bipush 99, 2) := by decide +kernel
theorem dX8_owes_7 : decode cX8_owes 7 = .ok (.if_icmp .le 5, 3) := by decide +kernel
theorem dX8_owes_10 : decode cX8_owes 10 = .ok (.iconst (-1), 1) := by decide +kernel
theorem dX8_owes_11 : decode cX8_owes 11 = .ok (.ireturn, 1) := by decide +kernel
theorem dX8_owes_12 : decode cX8_owes 12 = .ok (.aload_n 0, 1) := by decide +kernel
theorem dX8_owes_13 : decode cX8_owes 13 = .ok (.getfield 26, 3) := by decide +kernel
theorem dX8_owes_16 : decode cX8_owes 16 = .ok (.getfield 265, 3) := by decide +kernel
theorem dX8_owes_19 : decode cX8_owes 19 = .ok (.ifCond .ne 6, 3) := by decide +kernel
theorem dX8_owes_22 : decode cX8_owes 22 = .ok (.bipush (-2), 2) := by decide +kernel
theorem dX8_owes_24 : decode cX8_owes 24 = .ok (.ireturn, 1) := by decide +kernel
theorem dX8_owes_25 : decode cX8_owes 25 = .ok (.aload_n 0, 1) := by decide +kernel
theorem dX8_owes_26 : decode cX8_owes 26 = .ok (.iload_n 1, 1) := by decide +kernel
theorem dX8_owes_27 : decode cX8_owes 27 = .ok (.invokevirtual 258, 3) := by decide +kernel
theorem dX8_owes_30 : decode cX8_owes 30 = .ok (.iconst 0, 1) := by decide +kernel
theorem dX8_owes_31 : decode cX8_owes 31 = .ok (.istore_n 2, 1) := by decide +kernel
theorem dX8_owes_32 : decode cX8_owes 32 = .ok (.iconst 0, 1) := by decide +kernel
theorem dX8_owes_33 : decode cX8_owes 33 = .ok (.istore_n 3, 1) := by decide +kernel
theorem dX8_owes_34 : decode cX8_owes 34 = .ok (.iconst 0, 1) := by decide +kernel
theorem dX8_owes_35 : decode cX8_owes 35 = .ok (.istore 4, 2) := by decide +kernel
theorem dX8_owes_37 : decode cX8_owes 37 = .ok (.iload 4, 2) := by decide +kernel
theorem dX8_owes_39 : decode cX8_owes 39 = .ok (.aload_n 0, 1) := by decide +kernel
theorem dX8_owes_40 : decode cX8_owes 40 = .ok (.getfield 26, 3) := by decide +kernel
theorem dX8_owes_43 : decode cX8_owes 43 = .ok (.getfield 265, 3) := by decide +kernel
theorem dX8_owes_46 : decode cX8_owes 46 = .ok (.if_icmp .ge 47, 3) := by decide +kernel
theorem dX8_owes_49 : decode cX8_owes 49 = .ok (.iload_n 3, 1) := by decide +kernel
theorem dX8_owes_50 : decode cX8_owes 50 = .ok (.aload_n 0, 1) := by decide +kernel
theorem dX8_owes_51 : decode cX8_owes 51 = .ok (.getfield 37, 3) := by decide +kernel
theorem dX8_owes_54 : decode cX8_owes 54 = .ok (.getfield 157, 3) := by decide +kernel
theorem dX8_owes_57 : decode cX8_owes 57 = .ok (.iload 4, 2) := by decide +kernel
theorem dX8_owes_59 : decode cX8_owes 59 = .ok (.iaload, 1) := by decide +kernel
theorem dX8_owes_60 : decode cX8_owes 60 = .ok (.iadd, 1) := by decide +kernel
theorem dX8_owes_61 : decode cX8_owes 61 = .ok (.istore_n 3, 1) := by decide +kernel
theorem dX8_owes_62 : decode cX8_owes 62 = .ok (.aload_n 0, 1) := by decide +kernel
theorem dX8_owes_63 : decode cX8_owes 63 = .ok (.getfield 37, 3) := by decide +kernel
theorem dX8_owes_66 : decode cX8_owes 66 = .ok (.getfield 157, 3) := by decide +kernel
theorem dX8_owes_69 : decode cX8_owes 69 = .ok (.iload 4, 2) := by decide +kernel
theorem dX8_owes_71 : decode cX8_owes 71 = .ok (.iaload, 1) := by decide +kernel
theorem dX8_owes_72 : decode cX8_owes 72 = .ok (.aload_n 0, 1) := by decide +kernel
theorem dX8_owes_73 : decode cX8_owes 73 = .ok (.getfield 37, 3) := by decide +kernel
theorem dX8_owes_76 : decode cX8_owes 76 = .ok (.getfield 157, 3) := by decide +kernel
theorem dX8_owes_79 : decode cX8_owes 79 = .ok (.iload_n 2, 1) := by decide +kernel
theorem dX8_owes_80 : decode cX8_owes 80 = .ok (.iaload, 1) := by decide +kernel
theorem dX8_owes_81 : decode cX8_owes 81 = .ok (.if_icmp .le 6, 3) := by decide +kernel
theorem dX8_owes_84 : decode cX8_owes 84 = .ok (.iload 4, 2) := by decide +kernel
theorem dX8_owes_86 : decode cX8_owes 86 = .ok (.istore_n 2, 1) := by decide +kernel
theorem dX8_owes_87 : decode cX8_owes 87 = .ok (.iinc 4 1, 3) := by decide +kernel
theorem dX8_owes_90 : decode cX8_owes 90 = .ok (.goto (-53), 3) := by decide +kernel
theorem dX8_owes_93 : decode cX8_owes 93 = .ok (.aload_n 0, 1) := by decide +kernel
theorem dX8_owes_94 : decode cX8_owes 94 = .ok (.getfield 19, 3) := by decide +kernel
theorem dX8_owes_97 : decode cX8_owes 97 = .ok (.aload_n 0, 1) := by decide +kernel
theorem dX8_owes_98 : decode cX8_owes 98 = .ok (.getfield 37, 3) := by decide +kernel
theorem dX8_owes_101 : decode cX8_owes 101 = .ok (.getfield 157, 3) := by decide +kernel
theorem dX8_owes_104 : decode cX8_owes 104 = .ok (.iload_n 2, 1) := by decide +kernel
theorem dX8_owes_105 : decode cX8_owes 105 = .ok (.iaload, 1) := by decide +kernel
theorem dX8_owes_106 : decode cX8_owes 106 = .ok (.i2l, 1) := by decide +kernel
theorem dX8_owes_107 : decode cX8_owes 107 = .ok (.iload_n 3, 1) := by decide +kernel
theorem dX8_owes_108 : decode cX8_owes 108 = .ok (.i2l, 1) := by decide +kernel
theorem dX8_owes_109 : decode cX8_owes 109 = .ok (.invokevirtual 198, 3) := by decide +kernel
theorem dX8_owes_112 : decode cX8_owes 112 = .ok (.iload_n 2, 1) := by decide +kernel
theorem dX8_owes_113 : decode cX8_owes 113 = .ok (.ireturn, 1) := by decide +kernel
theorem dX8_seen_0 : decode cX8_seen 0 = .ok (.aload_n 0, 1) := by decide +kernel
theorem dX8_seen_1 : decode cX8_seen 1 = .ok (.getfield 26, 3) := by decide +kernel
theorem dX8_seen_4 : decode cX8_seen 4 = .ok (.iload_n 1, 1) := by decide +kernel
theorem dX8_seen_5 : decode cX8_seen 5 = .ok (.invokevirtual 138, 3) := by decide +kernel
theorem dX8_seen_8 : decode cX8_seen 8 = .ok (.ifCond .eq 22, 3) := by decide +kernel
theorem dX8_seen_11 : decode cX8_seen 11 = .ok (.iload_n 2, 1) := by decide +kernel
theorem dX8_seen_12 : decode cX8_seen 12 = .ok (.ifCond .lt 18, 3) := by decide +kernel
theorem dX8_seen_15 : decode cX8_seen 15 = .ok (.iload_n 2, 1) := by decide +kernel
theorem dX8_seen_16 : decode cX8_seen 16 = .ok (.bipush 20, 2) := by decide +kernel
theorem dX8_seen_18 : decode cX8_seen 18 = .ok (.if_icmp .gt 12, 3) := by decide +kernel
theorem dX8_seen_21 : decode cX8_seen 21 = .ok (.iload_n 3, 1) := by decide +kernel
theorem dX8_seen_22 : decode cX8_seen 22 = .ok (.ifCond .lt 8, 3) := by decide +kernel
theorem dX8_seen_25 : decode cX8_seen 25 = .ok (.iload_n 3, 1) := by decide +kernel
theorem dX8_seen_26 : decode cX8_seen 26 = .ok (.iconst 1, 1) := by decide +kernel
theorem dX8_seen_27 : decode cX8_seen 27 = .ok (.if_icmp .le 5, 3) := by decide +kernel
theorem dX8_seen_30 : decode cX8_seen 30 = .ok (.iconst (-1), 1) := by decide +kernel
theorem dX8_seen_31 : decode cX8_seen 31 = .ok (.ireturn, 1) := by decide +kernel
theorem dX8_seen_32 : decode cX8_seen 32 = .ok (.aload_n 0, 1) := by decide +kernel
theorem dX8_seen_33 : decode cX8_seen 33 = .ok (.getfield 57, 3) := by decide +kernel
theorem dX8_seen_36 : decode cX8_seen 36 = .ok (.iload_n 1, 1) := by decide +kernel
theorem dX8_seen_37 : decode cX8_seen 37 = .ok (.iload_n 2, 1) := by decide +kernel
theorem dX8_seen_38 : decode cX8_seen 38 = .ok (.iload_n 3, 1) := by decide +kernel
theorem dX8_seen_39 : decode cX8_seen 39 = .ok (.invokevirtual 330, 3) := by decide +kernel
theorem dX8_seen_42 : decode cX8_seen 42 = .ok (.ireturn, 1) := by decide +kernel
theorem dX8_forget_0 : decode cX8_forget 0 = .ok (.aload_n 0, 1) := by decide +kernel
theorem dX8_forget_1 : decode cX8_forget 1 = .ok (.getfield 57, 3) := by decide +kernel
theorem dX8_forget_4 : decode cX8_forget 4 = .ok (.getfield 334, 3) := by decide +kernel
theorem dX8_forget_7 : decode cX8_forget 7 = .ok (.istore_n 1, 1) := by decide +kernel
theorem dX8_forget_8 : decode cX8_forget 8 = .ok (.aload_n 0, 1) := by decide +kernel
theorem dX8_forget_9 : decode cX8_forget 9 = .ok (.getfield 57, 3) := by decide +kernel
theorem dX8_forget_12 : decode cX8_forget 12 = .ok (.iconst 0, 1) := by decide +kernel
theorem dX8_forget_13 : decode cX8_forget 13 = .ok (.putfield 334, 3) := by decide +kernel
theorem dX8_forget_16 : decode cX8_forget 16 = .ok (.iload_n 1, 1) := by decide +kernel
theorem dX8_forget_17 : decode cX8_forget 17 = .ok (.ireturn, 1) := by decide +kernel
theorem dX8_fits_0 : decode cX8_fits 0 = .ok (.aload_n 0, 1) := by decide +kernel
theorem dX8_fits_1 : decode cX8_fits 1 = .ok (.invokevirtual 337, 3) := by decide +kernel
theorem dX8_fits_4 : decode cX8_fits 4 = .ok (.istore_n 1, 1) := by decide +kernel
theorem dX8_fits_5 : decode cX8_fits 5 = .ok (.aload_n 0, 1) := by decide +kernel
theorem dX8_fits_6 : decode cX8_fits 6 = .ok (.getfield 57, 3) := by decide +kernel
theorem dX8_fits_9 : decode cX8_fits 9 = .ok (.aload_n 0, 1) := by decide +kernel
theorem dX8_fits_10 : decode cX8_fits 10 = .ok (.getfield 26, 3) := by decide +kernel
theorem dX8_fits_13 : decode cX8_fits 13 = .ok (.aload_n 0, 1) := by decide +kernel
theorem dX8_fits_14 : decode cX8_fits 14 = .ok (.getfield 33, 3) := by decide +kernel
theorem dX8_fits_17 : decode cX8_fits 17 = .ok (.aload_n 0, 1) := by decide +kernel
theorem dX8_fits_18 : decode cX8_fits 18 = .ok (.getfield 37, 3) := by decide +kernel
theorem dX8_fits_21 : decode cX8_fits 21 = .ok (.bipush 8, 2) := by decide +kernel
theorem dX8_fits_23 : decode cX8_fits 23 = .ok (.invokevirtual 340, 3) := by decide +kernel
theorem dX8_fits_26 : decode cX8_fits 26 = .ok (.aload_n 0, 1) := by decide +kernel
theorem dX8_fits_27 : decode cX8_fits 27 = .ok (.getfield 19, 3) := by decide +kernel
theorem dX8_fits_30 : decode cX8_fits 30 = .ok (.iload_n 1, 1) := by decide +kernel
theorem dX8_fits_31 : decode cX8_fits 31 = .ok (.invokestatic 189, 3) := by decide +kernel
theorem dX8_fits_34 : decode cX8_fits 34 = .ok (.i2l, 1) := by decide +kernel
theorem dX8_fits_35 : decode cX8_fits 35 = .ok (.aload_n 0, 1) := by decide +kernel
theorem dX8_fits_36 : decode cX8_fits 36 = .ok (.getfield 57, 3) := by decide +kernel
theorem dX8_fits_39 : decode cX8_fits 39 = .ok (.invokevirtual 344, 3) := by decide +kernel
theorem dX8_fits_42 : decode cX8_fits 42 = .ok (.ifCond .eq 7, 3) := by decide +kernel
theorem dX8_fits_45 : decode cX8_fits 45 = .ok (.lconst 1, 1) := by decide +kernel
theorem dX8_fits_46 : decode cX8_fits 46 = .ok (.goto 4, 3) := by decide +kernel
theorem dX8_fits_49 : decode cX8_fits 49 = .ok (.lconst 0, 1) := by decide +kernel
theorem dX8_fits_50 : decode cX8_fits 50 = .ok (.invokevirtual 198, 3) := by decide +kernel
theorem dX8_fits_53 : decode cX8_fits 53 = .ok (.iload_n 1, 1) := by decide +kernel
theorem dX8_fits_54 : decode cX8_fits 54 = .ok (.ireturn, 1) := by decide +kernel
theorem dX8_looks_0 : decode cX8_looks 0 = .ok (.aload_n 0, 1) := by decide +kernel
theorem dX8_looks_1 : decode cX8_looks 1 = .ok (.invokevirtual 337, 3) := by decide +kernel
theorem dX8_looks_4 : decode cX8_looks 4 = .ok (.istore_n 1, 1) := by decide +kernel
theorem dX8_looks_5 : decode cX8_looks 5 = .ok (.iload_n 1, 1) := by decide +kernel
theorem dX8_looks_6 : decode cX8_looks 6 = .ok (.invokestatic 189, 3) := by decide +kernel
theorem dX8_looks_9 : decode cX8_looks 9 = .ok (.istore_n 2, 1) := by decide +kernel
theorem dX8_looks_10 : decode cX8_looks 10 = .ok (.iload_n 2, 1) := by decide +kernel
theorem dX8_looks_11 : decode cX8_looks 11 = .ok (.ifCond .ne 6, 3) := by decide +kernel
theorem dX8_looks_14 : decode cX8_looks 14 = .ok (.bipush (-2), 2) := by decide +kernel
theorem dX8_looks_16 : decode cX8_looks 16 = .ok (.ireturn, 1) := by decide +kernel
theorem dX8_looks_17 : decode cX8_looks 17 = .ok (.bipush 9, 2) := by decide +kernel
theorem dX8_looks_19 : decode cX8_looks 19 = .ok (.istore_n 3, 1) := by decide +kernel
theorem dX8_looks_20 : decode cX8_looks 20 = .ok (.iconst 0, 1) := by decide +kernel
theorem dX8_looks_21 : decode cX8_looks 21 = .ok (.istore 4, 2) := by decide +kernel
theorem dX8_looks_23 : decode cX8_looks 23 = .ok (.iconst 0, 1) := by decide +kernel
theorem dX8_looks_24 : decode cX8_looks 24 = .ok (.istore 5, 2) := by decide +kernel
theorem dX8_looks_26 : decode cX8_looks 26 = .ok (.iload 5, 2) := by decide +kernel
theorem dX8_looks_28 : decode cX8_looks 28 = .ok (.aload_n 0, 1) := by decide +kernel
theorem dX8_looks_29 : decode cX8_looks 29 = .ok (.getfield 26, 3) := by decide +kernel
theorem dX8_looks_32 : decode cX8_looks 32 = .ok (.getfield 265, 3) := by decide +kernel
theorem dX8_looks_35 : decode cX8_looks 35 = .ok (.if_icmp .ge 69, 3) := by decide +kernel
theorem dX8_looks_38 : decode cX8_looks 38 = .ok (.iconst 0, 1) := by decide +kernel
theorem dX8_looks_39 : decode cX8_looks 39 = .ok (.istore 6, 2) := by decide +kernel
theorem dX8_looks_41 : decode cX8_looks 41 = .ok (.iload 6, 2) := by decide +kernel
theorem dX8_looks_43 : decode cX8_looks 43 = .ok (.bipush 20, 2) := by decide +kernel
theorem dX8_looks_45 : decode cX8_looks 45 = .ok (.if_icmp .gt 53, 3) := by decide +kernel
theorem dX8_looks_48 : decode cX8_looks 48 = .ok (.aload_n 0, 1) := by decide +kernel
theorem dX8_looks_49 : decode cX8_looks 49 = .ok (.getfield 57, 3) := by decide +kernel
theorem dX8_looks_52 : decode cX8_looks 52 = .ok (.iload_n 1, 1) := by decide +kernel
theorem dX8_looks_53 : decode cX8_looks 53 = .ok (.iload 5, 2) := by decide +kernel
theorem dX8_looks_55 : decode cX8_looks 55 = .ok (.iload 6, 2) := by decide +kernel
theorem dX8_looks_57 : decode cX8_looks 57 = .ok (.invokevirtual 348, 3) := by decide +kernel
theorem dX8_looks_60 : decode cX8_looks 60 = .ok (.istore 7, 2) := by decide +kernel
theorem dX8_looks_62 : decode cX8_looks 62 = .ok (.iload 7, 2) := by decide +kernel
theorem dX8_looks_64 : decode cX8_looks 64 = .ok (.iload_n 2, 1) := by decide +kernel
theorem dX8_looks_65 : decode cX8_looks 65 = .ok (.iload 7, 2) := by decide +kernel
theorem dX8_looks_67 : decode cX8_looks 67 = .ok (.isub, 1) := by decide +kernel
theorem dX8_looks_68 : decode cX8_looks 68 = .ok (.invokestatic 351, 3) := by decide +kernel
theorem dX8_looks_71 : decode cX8_looks 71 = .ok (.istore 8, 2) := by decide +kernel
theorem dX8_looks_73 : decode cX8_looks 73 = .ok (.iload 8, 2) := by decide +kernel
theorem dX8_looks_75 : decode cX8_looks 75 = .ok (.iload_n 3, 1) := by decide +kernel
theorem dX8_looks_76 : decode cX8_looks 76 = .ok (.if_icmp .ge 16, 3) := by decide +kernel
theorem dX8_looks_79 : decode cX8_looks 79 = .ok (.iload 8, 2) := by decide +kernel
theorem dX8_looks_81 : decode cX8_looks 81 = .ok (.istore_n 3, 1) := by decide +kernel
theorem dX8_looks_82 : decode cX8_looks 82 = .ok (.iload 5, 2) := by decide +kernel
theorem dX8_looks_84 : decode cX8_looks 84 = .ok (.bipush 21, 2) := by decide +kernel
theorem dX8_looks_86 : decode cX8_looks 86 = .ok (.imul, 1) := by decide +kernel
theorem dX8_looks_87 : decode cX8_looks 87 = .ok (.iload 6, 2) := by decide +kernel
theorem dX8_looks_89 : decode cX8_looks 89 = .ok (.iadd, 1) := by decide +kernel
theorem dX8_looks_90 : decode cX8_looks 90 = .ok (.istore 4, 2) := by decide +kernel
theorem dX8_looks_92 : decode cX8_looks 92 = .ok (.iinc 6 1, 3) := by decide +kernel
theorem dX8_looks_95 : decode cX8_looks 95 = .ok (.goto (-54), 3) := by decide +kernel
theorem dX8_looks_98 : decode cX8_looks 98 = .ok (.iinc 5 1, 3) := by decide +kernel
theorem dX8_looks_101 : decode cX8_looks 101 = .ok (.goto (-75), 3) := by decide +kernel
theorem dX8_looks_104 : decode cX8_looks 104 = .ok (.aload_n 0, 1) := by decide +kernel
theorem dX8_looks_105 : decode cX8_looks 105 = .ok (.getfield 19, 3) := by decide +kernel
theorem dX8_looks_108 : decode cX8_looks 108 = .ok (.iload_n 3, 1) := by decide +kernel
theorem dX8_looks_109 : decode cX8_looks 109 = .ok (.i2l, 1) := by decide +kernel
theorem dX8_looks_110 : decode cX8_looks 110 = .ok (.invokevirtual 261, 3) := by decide +kernel
theorem dX8_looks_113 : decode cX8_looks 113 = .ok (.iload 4, 2) := by decide +kernel
theorem dX8_looks_115 : decode cX8_looks 115 = .ok (.ireturn, 1) := by decide +kernel
theorem dX8_lifts_0 : decode cX8_lifts 0 = .ok (.iload_n 1, 1) := by decide +kernel
theorem dX8_lifts_1 : decode cX8_lifts 1 = .ok (.iconst 1, 1) := by decide +kernel
theorem dX8_lifts_2 : decode cX8_lifts 2 = .ok (.if_icmp .lt 9, 3) := by decide +kernel
theorem dX8_lifts_5 : decode cX8_lifts 5 = .ok (.iload_n 1, 1) := by decide +kernel
theorem dX8_lifts_6 : decode cX8_lifts 6 = .ok (.bipush 72, 2) := by decide +kernel
theorem dX8_lifts_8 : decode cX8_lifts 8 = .ok (.if_icmp .le 5, 3) := by decide +kernel
theorem dX8_lifts_11 : decode cX8_lifts 11 = .ok (.iconst (-1), 1) := by decide +kernel
theorem dX8_lifts_12 : decode cX8_lifts 12 = .ok (.ireturn, 1) := by decide +kernel
theorem dX8_lifts_13 : decode cX8_lifts 13 = .ok (.iconst (-1), 1) := by decide +kernel
theorem dX8_lifts_14 : decode cX8_lifts 14 = .ok (.istore_n 2, 1) := by decide +kernel
theorem dX8_lifts_15 : decode cX8_lifts 15 = .ok (.iconst 0, 1) := by decide +kernel
theorem dX8_lifts_16 : decode cX8_lifts 16 = .ok (.istore_n 3, 1) := by decide +kernel
theorem dX8_lifts_17 : decode cX8_lifts 17 = .ok (.iload_n 3, 1) := by decide +kernel
theorem dX8_lifts_18 : decode cX8_lifts 18 = .ok (.aload_n 0, 1) := by decide +kernel
theorem dX8_lifts_19 : decode cX8_lifts 19 = .ok (.getfield 26, 3) := by decide +kernel
theorem dX8_lifts_22 : decode cX8_lifts 22 = .ok (.invokevirtual 270, 3) := by decide +kernel
theorem dX8_lifts_25 : decode cX8_lifts 25 = .ok (.if_icmp .gt 31, 3) := by decide +kernel
theorem dX8_lifts_28 : decode cX8_lifts 28 = .ok (.aload_n 0, 1) := by decide +kernel
theorem dX8_lifts_29 : decode cX8_lifts 29 = .ok (.getfield 33, 3) := by decide +kernel
theorem dX8_lifts_32 : decode cX8_lifts 32 = .ok (.iload_n 3, 1) := by decide +kernel
theorem dX8_lifts_33 : decode cX8_lifts 33 = .ok (.invokevirtual 252, 3) := by decide +kernel
theorem dX8_lifts_36 : decode cX8_lifts 36 = .ok (.iload_n 1, 1) := by decide +kernel
theorem dX8_lifts_37 : decode cX8_lifts 37 = .ok (.if_icmp .lt 13, 3) := by decide +kernel
theorem dX8_lifts_40 : decode cX8_lifts 40 = .ok (.iload_n 3, 1) := by decide +kernel
theorem dX8_lifts_41 : decode cX8_lifts 41 = .ok (.iload_n 2, 1) := by decide +kernel
theorem dX8_lifts_42 : decode cX8_lifts 42 = .ok (.invokestatic 354, 3) := by decide +kernel
theorem dX8_lifts_45 : decode cX8_lifts 45 = .ok (.ifCond .eq 5, 3) := by decide +kernel
theorem dX8_lifts_48 : decode cX8_lifts 48 = .ok (.iload_n 3, 1) := by decide +kernel
theorem dX8_lifts_49 : decode cX8_lifts 49 = .ok (.istore_n 2, 1) := by decide +kernel
theorem dX8_lifts_50 : decode cX8_lifts 50 = .ok (.iinc 3 1, 3) := by decide +kernel
theorem dX8_lifts_53 : decode cX8_lifts 53 = .ok (.goto (-36), 3) := by decide +kernel
theorem dX8_lifts_56 : decode cX8_lifts 56 = .ok (.iload_n 2, 1) := by decide +kernel
theorem dX8_lifts_57 : decode cX8_lifts 57 = .ok (.ifCond .ge 6, 3) := by decide +kernel
theorem dX8_lifts_60 : decode cX8_lifts 60 = .ok (.bipush (-2), 2) := by decide +kernel
theorem dX8_lifts_62 : decode cX8_lifts 62 = .ok (.ireturn, 1) := by decide +kernel
theorem dX8_lifts_63 : decode cX8_lifts 63 = .ok (.aload_n 0, 1) := by decide +kernel
theorem dX8_lifts_64 : decode cX8_lifts 64 = .ok (.getfield 19, 3) := by decide +kernel
theorem dX8_lifts_67 : decode cX8_lifts 67 = .ok (.iload_n 2, 1) := by decide +kernel
theorem dX8_lifts_68 : decode cX8_lifts 68 = .ok (.i2l, 1) := by decide +kernel
theorem dX8_lifts_69 : decode cX8_lifts 69 = .ok (.invokevirtual 261, 3) := by decide +kernel
theorem dX8_lifts_72 : decode cX8_lifts 72 = .ok (.iload_n 2, 1) := by decide +kernel
theorem dX8_lifts_73 : decode cX8_lifts 73 = .ok (.invokestatic 189, 3) := by decide +kernel
theorem dX8_lifts_76 : decode cX8_lifts 76 = .ok (.ireturn, 1) := by decide +kernel
theorem dX8_just_0 : decode cX8_just 0 = .ok (.iload_n 1, 1) := by decide +kernel
theorem dX8_just_1 : decode cX8_just 1 = .ok (.ifCond .lt 9, 3) := by decide +kernel
theorem dX8_just_4 : decode cX8_just 4 = .ok (.iload_n 1, 1) := by decide +kernel
theorem dX8_just_5 : decode cX8_just 5 = .ok (.bipush 72, 2) := by decide +kernel
theorem dX8_just_7 : decode cX8_just 7 = .ok (.if_icmp .le 5, 3) := by decide +kernel
theorem dX8_just_10 : decode cX8_just 10 = .ok (.iconst (-1), 1) := by decide +kernel
theorem dX8_just_11 : decode cX8_just 11 = .ok (.ireturn, 1) := by decide +kernel
theorem dX8_just_12 : decode cX8_just 12 = .ok (.iconst (-1), 1) := by decide +kernel
theorem dX8_just_13 : decode cX8_just 13 = .ok (.istore_n 2, 1) := by decide +kernel
theorem dX8_just_14 : decode cX8_just 14 = .ok (.iconst 0, 1) := by decide +kernel
theorem dX8_just_15 : decode cX8_just 15 = .ok (.istore_n 3, 1) := by decide +kernel
theorem dX8_just_16 : decode cX8_just 16 = .ok (.iconst 0, 1) := by decide +kernel
theorem dX8_just_17 : decode cX8_just 17 = .ok (.istore 4, 2) := by decide +kernel
theorem dX8_just_19 : decode cX8_just 19 = .ok (.iload 4, 2) := by decide +kernel
theorem dX8_just_21 : decode cX8_just 21 = .ok (.aload_n 0, 1) := by decide +kernel
theorem dX8_just_22 : decode cX8_just 22 = .ok (.getfield 26, 3) := by decide +kernel
theorem dX8_just_25 : decode cX8_just 25 = .ok (.invokevirtual 270, 3) := by decide +kernel
theorem dX8_just_28 : decode cX8_just 28 = .ok (.if_icmp .gt 37, 3) := by decide +kernel
theorem dX8_just_31 : decode cX8_just 31 = .ok (.aload_n 0, 1) := by decide +kernel
theorem dX8_just_32 : decode cX8_just 32 = .ok (.getfield 33, 3) := by decide +kernel
theorem dX8_just_35 : decode cX8_just 35 = .ok (.iload 4, 2) := by decide +kernel
theorem dX8_just_37 : decode cX8_just 37 = .ok (.invokevirtual 252, 3) := by decide +kernel
theorem dX8_just_40 : decode cX8_just 40 = .ok (.iload_n 1, 1) := by decide +kernel
theorem dX8_just_41 : decode cX8_just 41 = .ok (.if_icmp .ne 18, 3) := by decide +kernel
theorem dX8_just_44 : decode cX8_just 44 = .ok (.iinc 3 1, 3) := by decide +kernel
theorem dX8_just_47 : decode cX8_just 47 = .ok (.iload 4, 2) := by decide +kernel
theorem dX8_just_49 : decode cX8_just 49 = .ok (.iload_n 2, 1) := by decide +kernel
theorem dX8_just_50 : decode cX8_just 50 = .ok (.invokestatic 354, 3) := by decide +kernel
theorem dX8_just_53 : decode cX8_just 53 = .ok (.ifCond .eq 6, 3) := by decide +kernel
theorem dX8_just_56 : decode cX8_just 56 = .ok (.iload 4, 2) := by decide +kernel
theorem dX8_just_58 : decode cX8_just 58 = .ok (.istore_n 2, 1) := by decide +kernel
theorem dX8_just_59 : decode cX8_just 59 = .ok (.iinc 4 1, 3) := by decide +kernel
theorem dX8_just_62 : decode cX8_just 62 = .ok (.goto (-43), 3) := by decide +kernel
theorem dX8_just_65 : decode cX8_just 65 = .ok (.iload_n 2, 1) := by decide +kernel
theorem dX8_just_66 : decode cX8_just 66 = .ok (.ifCond .ge 6, 3) := by decide +kernel
theorem dX8_just_69 : decode cX8_just 69 = .ok (.bipush (-2), 2) := by decide +kernel
theorem dX8_just_71 : decode cX8_just 71 = .ok (.ireturn, 1) := by decide +kernel
theorem dX8_just_72 : decode cX8_just 72 = .ok (.aload_n 0, 1) := by decide +kernel
theorem dX8_just_73 : decode cX8_just 73 = .ok (.getfield 19, 3) := by decide +kernel
theorem dX8_just_76 : decode cX8_just 76 = .ok (.iload_n 2, 1) := by decide +kernel
theorem dX8_just_77 : decode cX8_just 77 = .ok (.i2l, 1) := by decide +kernel
theorem dX8_just_78 : decode cX8_just 78 = .ok (.iload_n 3, 1) := by decide +kernel
theorem dX8_just_79 : decode cX8_just 79 = .ok (.i2l, 1) := by decide +kernel
theorem dX8_just_80 : decode cX8_just 80 = .ok (.invokevirtual 198, 3) := by decide +kernel
theorem dX8_just_83 : decode cX8_just 83 = .ok (.iload_n 2, 1) := by decide +kernel
theorem dX8_just_84 : decode cX8_just 84 = .ok (.invokestatic 189, 3) := by decide +kernel
theorem dX8_just_87 : decode cX8_just 87 = .ok (.ireturn, 1) := by decide +kernel
theorem dX8_evens_0 : decode cX8_evens 0 = .ok (.aload_n 0, 1) := by decide +kernel
theorem dX8_evens_1 : decode cX8_evens 1 = .ok (.getfield 33, 3) := by decide +kernel
theorem dX8_evens_4 : decode cX8_evens 4 = .ok (.aload_n 0, 1) := by decide +kernel
theorem dX8_evens_5 : decode cX8_evens 5 = .ok (.getfield 26, 3) := by decide +kernel
theorem dX8_evens_8 : decode cX8_evens 8 = .ok (.invokevirtual 270, 3) := by decide +kernel
theorem dX8_evens_11 : decode cX8_evens 11 = .ok (.invokevirtual 252, 3) := by decide +kernel
theorem dX8_evens_14 : decode cX8_evens 14 = .ok (.istore_n 1, 1) := by decide +kernel
theorem dX8_evens_15 : decode cX8_evens 15 = .ok (.iconst 0, 1) := by decide +kernel
theorem dX8_evens_16 : decode cX8_evens 16 = .ok (.istore_n 2, 1) := by decide +kernel
theorem dX8_evens_17 : decode cX8_evens 17 = .ok (.iload_n 1, 1) := by decide +kernel
theorem dX8_evens_18 : decode cX8_evens 18 = .ok (.istore_n 3, 1) := by decide +kernel
theorem dX8_evens_19 : decode cX8_evens 19 = .ok (.iconst 1, 1) := by decide +kernel
theorem dX8_evens_20 : decode cX8_evens 20 = .ok (.istore 4, 2) := by decide +kernel
theorem dX8_evens_22 : decode cX8_evens 22 = .ok (.iload 4, 2) := by decide +kernel
theorem dX8_evens_24 : decode cX8_evens 24 = .ok (.aload_n 0, 1) := by decide +kernel
theorem dX8_evens_25 : decode cX8_evens 25 = .ok (.getfield 26, 3) := by decide +kernel
theorem dX8_evens_28 : decode cX8_evens 28 = .ok (.invokevirtual 270, 3) := by decide +kernel
theorem dX8_evens_31 : decode cX8_evens 31 = .ok (.if_icmp .gt 39, 3) := by decide +kernel
theorem dX8_evens_34 : decode cX8_evens 34 = .ok (.iload_n 1, 1) := by decide +kernel
theorem dX8_evens_35 : decode cX8_evens 35 = .ok (.iconst 2, 1) := by decide +kernel
theorem dX8_evens_36 : decode cX8_evens 36 = .ok (.aload_n 0, 1) := by decide +kernel
theorem dX8_evens_37 : decode cX8_evens 37 = .ok (.getfield 33, 3) := by decide +kernel
theorem dX8_evens_40 : decode cX8_evens 40 = .ok (.iload 4, 2) := by decide +kernel
theorem dX8_evens_42 : decode cX8_evens 42 = .ok (.invokevirtual 252, 3) := by decide +kernel
theorem dX8_evens_45 : decode cX8_evens 45 = .ok (.imul, 1) := by decide +kernel
theorem dX8_evens_46 : decode cX8_evens 46 = .ok (.isub, 1) := by decide +kernel
theorem dX8_evens_47 : decode cX8_evens 47 = .ok (.invokestatic 357, 3) := by decide +kernel
theorem dX8_evens_50 : decode cX8_evens 50 = .ok (.istore 5, 2) := by decide +kernel
theorem dX8_evens_52 : decode cX8_evens 52 = .ok (.iload 5, 2) := by decide +kernel
theorem dX8_evens_54 : decode cX8_evens 54 = .ok (.iload_n 3, 1) := by decide +kernel
theorem dX8_evens_55 : decode cX8_evens 55 = .ok (.if_icmp .ge 9, 3) := by decide +kernel
theorem dX8_evens_58 : decode cX8_evens 58 = .ok (.iload 5, 2) := by decide +kernel
theorem dX8_evens_60 : decode cX8_evens 60 = .ok (.istore_n 3, 1) := by decide +kernel
theorem dX8_evens_61 : decode cX8_evens 61 = .ok (.iload 4, 2) := by decide +kernel
theorem dX8_evens_63 : decode cX8_evens 63 = .ok (.istore_n 2, 1) := by decide +kernel
theorem dX8_evens_64 : decode cX8_evens 64 = .ok (.iinc 4 1, 3) := by decide +kernel
theorem dX8_evens_67 : decode cX8_evens 67 = .ok (.goto (-45), 3) := by decide +kernel
theorem dX8_evens_70 : decode cX8_evens 70 = .ok (.aload_n 0, 1) := by decide +kernel
theorem dX8_evens_71 : decode cX8_evens 71 = .ok (.getfield 19, 3) := by decide +kernel
theorem dX8_evens_74 : decode cX8_evens 74 = .ok (.iload_n 2, 1) := by decide +kernel
theorem dX8_evens_75 : decode cX8_evens 75 = .ok (.i2l, 1) := by decide +kernel
theorem dX8_evens_76 : decode cX8_evens 76 = .ok (.aload_n 0, 1) := by decide +kernel
theorem dX8_evens_77 : decode cX8_evens 77 = .ok (.getfield 33, 3) := by decide +kernel
theorem dX8_evens_80 : decode cX8_evens 80 = .ok (.iload_n 2, 1) := by decide +kernel
theorem dX8_evens_81 : decode cX8_evens 81 = .ok (.invokevirtual 252, 3) := by decide +kernel
theorem dX8_evens_84 : decode cX8_evens 84 = .ok (.i2l, 1) := by decide +kernel
theorem dX8_evens_85 : decode cX8_evens 85 = .ok (.invokevirtual 198, 3) := by decide +kernel
theorem dX8_evens_88 : decode cX8_evens 88 = .ok (.iload_n 3, 1) := by decide +kernel
theorem dX8_evens_89 : decode cX8_evens 89 = .ok (.ireturn, 1) := by decide +kernel
theorem dX8_order_0 : decode cX8_order 0 = .ok (.aload_n 0, 1) := by decide +kernel
theorem dX8_order_1 : decode cX8_order 1 = .ok (.getfield 26, 3) := by decide +kernel
theorem dX8_order_4 : decode cX8_order 4 = .ok (.aload_n 0, 1) := by decide +kernel
theorem dX8_order_5 : decode cX8_order 5 = .ok (.getfield 33, 3) := by decide +kernel
theorem dX8_order_8 : decode cX8_order 8 = .ok (.aload_n 0, 1) := by decide +kernel
theorem dX8_order_9 : decode cX8_order 9 = .ok (.getfield 26, 3) := by decide +kernel
theorem dX8_order_12 : decode cX8_order 12 = .ok (.getfield 163, 3) := by decide +kernel
theorem dX8_order_15 : decode cX8_order 15 = .ok (.invokevirtual 167, 3) := by decide +kernel
theorem dX8_order_18 : decode cX8_order 18 = .ok (.aload_n 0, 1) := by decide +kernel
theorem dX8_order_19 : decode cX8_order 19 = .ok (.getfield 19, 3) := by decide +kernel
theorem dX8_order_22 : decode cX8_order 22 = .ok (.invokevirtual 264, 3) := by decide +kernel
theorem dX8_order_25 : decode cX8_order 25 = .ok (.aload_n 0, 1) := by decide +kernel
theorem dX8_order_26 : decode cX8_order 26 = .ok (.getfield 26, 3) := by decide +kernel
theorem dX8_order_29 : decode cX8_order 29 = .ok (.aload_n 0, 1) := by decide +kernel
theorem dX8_order_30 : decode cX8_order 30 = .ok (.getfield 33, 3) := by decide +kernel
theorem dX8_order_33 : decode cX8_order 33 = .ok (.invokevirtual 202, 3) := by decide +kernel
theorem dX8_order_36 : decode cX8_order 36 = .ok (.istore_n 1, 1) := by decide +kernel
theorem dX8_order_37 : decode cX8_order 37 = .ok (.iconst 0, 1) := by decide +kernel
theorem dX8_order_38 : decode cX8_order 38 = .ok (.istore_n 2, 1) := by decide +kernel
theorem dX8_order_39 : decode cX8_order 39 = .ok (.iconst 0, 1) := by decide +kernel
theorem dX8_order_40 : decode cX8_order 40 = .ok (.istore_n 3, 1) := by decide +kernel
theorem dX8_order_41 : decode cX8_order 41 = .ok (.iload_n 3, 1) := by decide +kernel
theorem dX8_order_42 : decode cX8_order 42 = .ok (.bipush 8, 2) := by decide +kernel
theorem dX8_order_44 : decode cX8_order 44 = .ok (.if_icmp .ge 42, 3) := by decide +kernel
theorem dX8_order_47 : decode cX8_order 47 = .ok (.iload_n 1, 1) := by decide +kernel
theorem dX8_order_48 : decode cX8_order 48 = .ok (.ifCond .eq 38, 3) := by decide +kernel
theorem dX8_order_51 : decode cX8_order 51 = .ok (.aload_n 0, 1) := by decide +kernel
theorem dX8_order_52 : decode cX8_order 52 = .ok (.iload_n 1, 1) := by decide +kernel
theorem dX8_order_53 : decode cX8_order 53 = .ok (.invokevirtual 360, 3) := by decide +kernel
theorem dX8_order_56 : decode cX8_order 56 = .ok (.istore 4, 2) := by decide +kernel
theorem dX8_order_58 : decode cX8_order 58 = .ok (.iload_n 1, 1) := by decide +kernel
theorem dX8_order_59 : decode cX8_order 59 = .ok (.iconst 1, 1) := by decide +kernel
theorem dX8_order_60 : decode cX8_order 60 = .ok (.iload 4, 2) := by decide +kernel
theorem dX8_order_62 : decode cX8_order 62 = .ok (.ishl, 1) := by decide +kernel
theorem dX8_order_63 : decode cX8_order 63 = .ok (.iconst (-1), 1) := by decide +kernel
theorem dX8_order_64 : decode cX8_order 64 = .ok (.ixor, 1) := by decide +kernel
theorem dX8_order_65 : decode cX8_order 65 = .ok (.iand, 1) := by decide +kernel
theorem dX8_order_66 : decode cX8_order 66 = .ok (.istore_n 1, 1) := by decide +kernel
theorem dX8_order_67 : decode cX8_order 67 = .ok (.aload_n 0, 1) := by decide +kernel
theorem dX8_order_68 : decode cX8_order 68 = .ok (.getfield 19, 3) := by decide +kernel
theorem dX8_order_71 : decode cX8_order 71 = .ok (.iload 4, 2) := by decide +kernel
theorem dX8_order_73 : decode cX8_order 73 = .ok (.i2l, 1) := by decide +kernel
theorem dX8_order_74 : decode cX8_order 74 = .ok (.invokevirtual 268, 3) := by decide +kernel
theorem dX8_order_77 : decode cX8_order 77 = .ok (.iinc 2 1, 3) := by decide +kernel
theorem dX8_order_80 : decode cX8_order 80 = .ok (.iinc 3 1, 3) := by decide +kernel
theorem dX8_order_83 : decode cX8_order 83 = .ok (.goto (-42), 3) := by decide +kernel
theorem dX8_order_86 : decode cX8_order 86 = .ok (.iload_n 2, 1) := by decide +kernel
theorem dX8_order_87 : decode cX8_order 87 = .ok (.ireturn, 1) := by decide +kernel
theorem dX8_storm_0 : decode cX8_storm 0 = .ok (.aload_n 0, 1) := by decide +kernel
theorem dX8_storm_1 : decode cX8_storm 1 = .ok (.getfield 26, 3) := by decide +kernel
theorem dX8_storm_4 : decode cX8_storm 4 = .ok (.iload_n 1, 1) := by decide +kernel
theorem dX8_storm_5 : decode cX8_storm 5 = .ok (.invokevirtual 138, 3) := by decide +kernel
theorem dX8_storm_8 : decode cX8_storm 8 = .ok (.ifCond .eq 13, 3) := by decide +kernel
theorem dX8_storm_11 : decode cX8_storm 11 = .ok (.iload_n 2, 1) := by decide +kernel
theorem dX8_storm_12 : decode cX8_storm 12 = .ok (.ifCond .lt 9, 3) := by decide +kernel
theorem dX8_storm_15 : decode cX8_storm 15 = .ok (.iload_n 2, 1) := by decide +kernel
theorem dX8_storm_16 : decode cX8_storm 16 = .ok (.bipush 10, 2) := by decide +kernel
theorem dX8_storm_18 : decode cX8_storm 18 = .ok (.if_icmp .le 5, 3) := by decide +kernel
theorem dX8_storm_21 : decode cX8_storm 21 = .ok (.iconst (-1), 1) := by decide +kernel
theorem dX8_storm_22 : decode cX8_storm 22 = .ok (.ireturn, 1) := by decide +kernel
theorem dX8_storm_23 : decode cX8_storm 23 = .ok (.aload_n 0, 1) := by decide +kernel
theorem dX8_storm_24 : decode cX8_storm 24 = .ok (.getfield 33, 3) := by decide +kernel
theorem dX8_storm_27 : decode cX8_storm 27 = .ok (.iload_n 1, 1) := by decide +kernel
theorem dX8_storm_28 : decode cX8_storm 28 = .ok (.invokevirtual 160, 3) := by decide +kernel
theorem dX8_storm_31 : decode cX8_storm 31 = .ok (.ifCond .ne 15, 3) := by decide +kernel
theorem dX8_storm_34 : decode cX8_storm 34 = .ok (.aload_n 0, 1) := by decide +kernel
theorem dX8_storm_35 : decode cX8_storm 35 = .ok (.getfield 33, 3) := by decide +kernel
theorem dX8_storm_38 : decode cX8_storm 38 = .ok (.invokevirtual 289, 3) := by decide +kernel
theorem dX8_storm_41 : decode cX8_storm 41 = .ok (.bipush 12, 2) := by decide +kernel
theorem dX8_storm_43 : decode cX8_storm 43 = .ok (.if_icmp .le 6, 3) := by decide +kernel
theorem dX8_storm_46 : decode cX8_storm 46 = .ok (.bipush (-2), 2) := by decide +kernel
theorem dX8_storm_48 : decode cX8_storm 48 = .ok (.ireturn, 1) := by decide +kernel
theorem dX8_storm_49 : decode cX8_storm 49 = .ok (.aload_n 0, 1) := by decide +kernel
theorem dX8_storm_50 : decode cX8_storm 50 = .ok (.getfield 26, 3) := by decide +kernel
theorem dX8_storm_53 : decode cX8_storm 53 = .ok (.aload_n 0, 1) := by decide +kernel
theorem dX8_storm_54 : decode cX8_storm 54 = .ok (.getfield 33, 3) := by decide +kernel
theorem dX8_storm_57 : decode cX8_storm 57 = .ok (.aload_n 0, 1) := by decide +kernel
theorem dX8_storm_58 : decode cX8_storm 58 = .ok (.getfield 26, 3) := by decide +kernel
theorem dX8_storm_61 : decode cX8_storm 61 = .ok (.getfield 163, 3) := by decide +kernel
theorem dX8_storm_64 : decode cX8_storm 64 = .ok (.invokevirtual 167, 3) := by decide +kernel
theorem dX8_storm_67 : decode cX8_storm 67 = .ok (.aload_n 0, 1) := by decide +kernel
theorem dX8_storm_68 : decode cX8_storm 68 = .ok (.iload_n 1, 1) := by decide +kernel
theorem dX8_storm_69 : decode cX8_storm 69 = .ok (.invokevirtual 363, 3) := by decide +kernel
theorem dX8_storm_72 : decode cX8_storm 72 = .ok (.istore_n 3, 1) := by decide +kernel
theorem dX8_storm_73 : decode cX8_storm 73 = .ok (.lconst 0, 1) := by decide +kernel
theorem dX8_storm_74 : decode cX8_storm 74 = .ok (.lstore 4, 2) := by decide +kernel
theorem dX8_storm_76 : decode cX8_storm 76 = .ok (.iconst 0, 1) := by decide +kernel
theorem dX8_storm_77 : decode cX8_storm 77 = .ok (.istore 6, 2) := by decide +kernel
theorem dX8_storm_79 : decode cX8_storm 79 = .ok (.iload 6, 2) := by decide +kernel
theorem dX8_storm_81 : decode cX8_storm 81 = .ok (.iload_n 3, 1) := by decide +kernel
theorem dX8_storm_82 : decode cX8_storm 82 = .ok (.if_icmp .gt 41, 3) := by decide +kernel
theorem dX8_storm_85 : decode cX8_storm 85 = .ok (.lload 4, 2) := by decide +kernel
theorem dX8_storm_87 : decode cX8_storm 87 = .ok (.aload_n 0, 1) := by decide +kernel
theorem dX8_storm_88 : decode cX8_storm 88 = .ok (.getfield 71, 3) := by decide +kernel
theorem dX8_storm_91 : decode cX8_storm 91 = .ok (.iload 6, 2) := by decide +kernel
theorem dX8_storm_93 : decode cX8_storm 93 = .ok (.iaload, 1) := by decide +kernel
theorem dX8_storm_94 : decode cX8_storm 94 = .ok (.i2l, 1) := by decide +kernel
theorem dX8_storm_95 : decode cX8_storm 95 = .ok (.iload_n 2, 1) := by decide +kernel
theorem dX8_storm_96 : decode cX8_storm 96 = .ok (.iload 6, 2) := by decide +kernel
theorem dX8_storm_98 : decode cX8_storm 98 = .ok (.invokestatic 366, 3) := by decide +kernel
theorem dX8_storm_101 : decode cX8_storm 101 = .ok (.lmul, 1) := by decide +kernel
theorem dX8_storm_102 : decode cX8_storm 102 = .ok (.bipush 10, 2) := by decide +kernel
theorem dX8_storm_104 : decode cX8_storm 104 = .ok (.iload_n 2, 1) := by decide +kernel
theorem dX8_storm_105 : decode cX8_storm 105 = .ok (.isub, 1) := by decide +kernel
theorem dX8_storm_106 : decode cX8_storm 106 = .ok (.iload_n 3, 1) := by decide +kernel
theorem dX8_storm_107 : decode cX8_storm 107 = .ok (.iload 6, 2) := by decide +kernel
theorem dX8_storm_109 : decode cX8_storm 109 = .ok (.isub, 1) := by decide +kernel
theorem dX8_storm_110 : decode cX8_storm 110 = .ok (.invokestatic 366, 3) := by decide +kernel
theorem dX8_storm_113 : decode cX8_storm 113 = .ok (.lmul, 1) := by decide +kernel
theorem dX8_storm_114 : decode cX8_storm 114 = .ok (.ladd, 1) := by decide +kernel
theorem dX8_storm_115 : decode cX8_storm 115 = .ok (.lstore 4, 2) := by decide +kernel
theorem dX8_storm_117 : decode cX8_storm 117 = .ok (.iinc 6 1, 3) := by decide +kernel
theorem dX8_storm_120 : decode cX8_storm 120 = .ok (.goto (-41), 3) := by decide +kernel
theorem dX8_storm_123 : decode cX8_storm 123 = .ok (.bipush 10, 2) := by decide +kernel
theorem dX8_storm_125 : decode cX8_storm 125 = .ok (.iload_n 3, 1) := by decide +kernel
theorem dX8_storm_126 : decode cX8_storm 126 = .ok (.invokestatic 366, 3) := by decide +kernel
theorem dX8_storm_129 : decode cX8_storm 129 = .ok (.lstore 6, 2) := by decide +kernel
theorem dX8_storm_131 : decode cX8_storm 131 = .ok (.lload 4, 2) := by decide +kernel
theorem dX8_storm_133 : decode cX8_storm 133 = .ok (.lload 6, 2) := by decide +kernel
theorem dX8_storm_135 : decode cX8_storm 135 = .ok (.invokestatic 370, 3) := by decide +kernel
theorem dX8_storm_138 : decode cX8_storm 138 = .ok (.lstore 8, 2) := by decide +kernel
theorem dX8_storm_140 : decode cX8_storm 140 = .ok (.lload 8, 2) := by decide +kernel
theorem dX8_storm_142 : decode cX8_storm 142 = .ok (.lconst 1, 1) := by decide +kernel
theorem dX8_storm_143 : decode cX8_storm 143 = .ok (.lcmp, 1) := by decide +kernel
theorem dX8_storm_144 : decode cX8_storm 144 = .ok (.ifCond .ge 6, 3) := by decide +kernel
theorem dX8_storm_147 : decode cX8_storm 147 = .ok (.lconst 1, 1) := by decide +kernel
theorem dX8_storm_148 : decode cX8_storm 148 = .ok (.lstore 8, 2) := by decide +kernel
theorem dX8_storm_150 : decode cX8_storm 150 = .ok (.aload_n 0, 1) := by decide +kernel
theorem dX8_storm_151 : decode cX8_storm 151 = .ok (.getfield 19, 3) := by decide +kernel
theorem dX8_storm_154 : decode cX8_storm 154 = .ok (.lload 4, 2) := by decide +kernel
theorem dX8_storm_156 : decode cX8_storm 156 = .ok (.lload 8, 2) := by decide +kernel
theorem dX8_storm_158 : decode cX8_storm 158 = .ok (.ldiv, 1) := by decide +kernel
theorem dX8_storm_159 : decode cX8_storm 159 = .ok (.lload 6, 2) := by decide +kernel
theorem dX8_storm_161 : decode cX8_storm 161 = .ok (.lload 8, 2) := by decide +kernel
theorem dX8_storm_163 : decode cX8_storm 163 = .ok (.ldiv, 1) := by decide +kernel
theorem dX8_storm_164 : decode cX8_storm 164 = .ok (.invokevirtual 198, 3) := by decide +kernel
theorem dX8_storm_167 : decode cX8_storm 167 = .ok (.iconst 0, 1) := by decide +kernel
theorem dX8_storm_168 : decode cX8_storm 168 = .ok (.ireturn, 1) := by decide +kernel
theorem dX8_run_0 : decode cX8_run 0 = .ok (.iload_n 1, 1) := by decide +kernel
theorem dX8_run_1 : decode cX8_run 1 = .ok (.ifCond .lt 19, 3) := by decide +kernel
theorem dX8_run_4 : decode cX8_run 4 = .ok (.iload_n 1, 1) := by decide +kernel
theorem dX8_run_5 : decode cX8_run 5 = .ok (.bipush 20, 2) := by decide +kernel
theorem dX8_run_7 : decode cX8_run 7 = .ok (.if_icmp .gt 13, 3) := by decide +kernel
theorem dX8_run_10 : decode cX8_run 10 = .ok (.iload_n 2, 1) := by decide +kernel
theorem dX8_run_11 : decode cX8_run 11 = .ok (.ifCond .lt 9, 3) := by decide +kernel
theorem dX8_run_14 : decode cX8_run 14 = .ok (.iload_n 2, 1) := by decide +kernel
theorem dX8_run_15 : decode cX8_run 15 = .ok (.bipush 20, 2) := by decide +kernel
theorem dX8_run_17 : decode cX8_run 17 = .ok (.if_icmp .le 5, 3) := by decide +kernel
theorem dX8_run_20 : decode cX8_run 20 = .ok (.iconst (-1), 1) := by decide +kernel
theorem dX8_run_21 : decode cX8_run 21 = .ok (.ireturn, 1) := by decide +kernel
theorem dX8_run_22 : decode cX8_run 22 = .ok (.iconst (-1), 1) := by decide +kernel
theorem dX8_run_23 : decode cX8_run 23 = .ok (.istore_n 3, 1) := by decide +kernel
theorem dX8_run_24 : decode cX8_run 24 = .ok (.iconst 0, 1) := by decide +kernel
theorem dX8_run_25 : decode cX8_run 25 = .ok (.istore 4, 2) := by decide +kernel
theorem dX8_run_27 : decode cX8_run 27 = .ok (.iload 4, 2) := by decide +kernel
theorem dX8_run_29 : decode cX8_run 29 = .ok (.iload_n 1, 1) := by decide +kernel
theorem dX8_run_30 : decode cX8_run 30 = .ok (.if_icmp .gt 55, 3) := by decide +kernel
theorem dX8_run_33 : decode cX8_run 33 = .ok (.iconst 0, 1) := by decide +kernel
theorem dX8_run_34 : decode cX8_run 34 = .ok (.istore 5, 2) := by decide +kernel
theorem dX8_run_36 : decode cX8_run 36 = .ok (.iload 5, 2) := by decide +kernel
theorem dX8_run_38 : decode cX8_run 38 = .ok (.iload_n 2, 1) := by decide +kernel
theorem dX8_run_39 : decode cX8_run 39 = .ok (.if_icmp .gt 40, 3) := by decide +kernel
theorem dX8_run_42 : decode cX8_run 42 = .ok (.aload_n 0, 1) := by decide +kernel
theorem dX8_run_43 : decode cX8_run 43 = .ok (.iload 4, 2) := by decide +kernel
theorem dX8_run_45 : decode cX8_run 45 = .ok (.iload 5, 2) := by decide +kernel
theorem dX8_run_47 : decode cX8_run 47 = .ok (.invokevirtual 374, 3) := by decide +kernel
theorem dX8_run_50 : decode cX8_run 50 = .ok (.istore_n 3, 1) := by decide +kernel
theorem dX8_run_51 : decode cX8_run 51 = .ok (.aload_n 0, 1) := by decide +kernel
theorem dX8_run_52 : decode cX8_run 52 = .ok (.getfield 80, 3) := by decide +kernel
theorem dX8_run_55 : decode cX8_run 55 = .ok (.iload 4, 2) := by decide +kernel
theorem dX8_run_57 : decode cX8_run 57 = .ok (.bipush 21, 2) := by decide +kernel
theorem dX8_run_59 : decode cX8_run 59 = .ok (.imul, 1) := by decide +kernel
theorem dX8_run_60 : decode cX8_run 60 = .ok (.iload 5, 2) := by decide +kernel
theorem dX8_run_62 : decode cX8_run 62 = .ok (.iadd, 1) := by decide +kernel
theorem dX8_run_63 : decode cX8_run 63 = .ok (.iload_n 3, 1) := by decide +kernel
theorem dX8_run_64 : decode cX8_run 64 = .ok (.ifCond .ge 7, 3) := by decide +kernel
theorem dX8_run_67 : decode cX8_run 67 = .ok (.iconst 1, 1) := by decide +kernel
theorem dX8_run_68 : decode cX8_run 68 = .ok (.goto 4, 3) := by decide +kernel
theorem dX8_run_71 : decode cX8_run 71 = .ok (.iconst 0, 1) := by decide +kernel
theorem dX8_run_72 : decode cX8_run 72 = .ok (.bastore, 1) := by decide +kernel
theorem dX8_run_73 : decode cX8_run 73 = .ok (.iinc 5 1, 3) := by decide +kernel
theorem dX8_run_76 : decode cX8_run 76 = .ok (.goto (-40), 3) := by decide +kernel
theorem dX8_run_79 : decode cX8_run 79 = .ok (.iinc 4 1, 3) := by decide +kernel
theorem dX8_run_82 : decode cX8_run 82 = .ok (.goto (-55), 3) := by decide +kernel
theorem dX8_run_85 : decode cX8_run 85 = .ok (.aload_n 0, 1) := by decide +kernel
theorem dX8_run_86 : decode cX8_run 86 = .ok (.getfield 19, 3) := by decide +kernel
theorem dX8_run_89 : decode cX8_run 89 = .ok (.invokevirtual 264, 3) := by decide +kernel
theorem dX8_run_92 : decode cX8_run 92 = .ok (.iload_n 3, 1) := by decide +kernel
theorem dX8_run_93 : decode cX8_run 93 = .ok (.ifCond .ge 5, 3) := by decide +kernel
theorem dX8_run_96 : decode cX8_run 96 = .ok (.iconst 0, 1) := by decide +kernel
theorem dX8_run_97 : decode cX8_run 97 = .ok (.ireturn, 1) := by decide +kernel
theorem dX8_run_98 : decode cX8_run 98 = .ok (.aload_n 0, 1) := by decide +kernel
theorem dX8_run_99 : decode cX8_run 99 = .ok (.getfield 19, 3) := by decide +kernel
theorem dX8_run_102 : decode cX8_run 102 = .ok (.getstatic 377, 3) := by decide +kernel
theorem dX8_run_105 : decode cX8_run 105 = .ok (.iload_n 3, 1) := by decide +kernel
theorem dX8_run_106 : decode cX8_run 106 = .ok (.iaload, 1) := by decide +kernel
theorem dX8_run_107 : decode cX8_run 107 = .ok (.i2l, 1) := by decide +kernel
theorem dX8_run_108 : decode cX8_run 108 = .ok (.getstatic 380, 3) := by decide +kernel
theorem dX8_run_111 : decode cX8_run 111 = .ok (.iload_n 3, 1) := by decide +kernel
theorem dX8_run_112 : decode cX8_run 112 = .ok (.iaload, 1) := by decide +kernel
theorem dX8_run_113 : decode cX8_run 113 = .ok (.i2l, 1) := by decide +kernel
theorem dX8_run_114 : decode cX8_run 114 = .ok (.invokevirtual 198, 3) := by decide +kernel
theorem dX8_run_117 : decode cX8_run 117 = .ok (.iconst 1, 1) := by decide +kernel
theorem dX8_run_118 : decode cX8_run 118 = .ok (.ireturn, 1) := by decide +kernel
theorem dX8_law_0 : decode cX8_law 0 = .ok (.aload_n 0, 1) := by decide +kernel
theorem dX8_law_1 : decode cX8_law 1 = .ok (.invokevirtual 132, 3) := by decide +kernel
theorem dX8_law_4 : decode cX8_law 4 = .ok (.istore_n 1, 1) := by decide +kernel
theorem dX8_law_5 : decode cX8_law 5 = .ok (.iload_n 1, 1) := by decide +kernel
theorem dX8_law_6 : decode cX8_law 6 = .ok (.iconst (-1), 1) := by decide +kernel
theorem dX8_law_7 : decode cX8_law 7 = .ok (.if_icmp .eq 9, 3) := by decide +kernel
theorem dX8_law_10 : decode cX8_law 10 = .ok (.sipush (-10000), 3) := by decide +kernel
theorem dX8_law_13 : decode cX8_law 13 = .ok (.iload_n 1, 1) := by decide +kernel
theorem dX8_law_14 : decode cX8_law 14 = .ok (.isub, 1) := by decide +kernel
theorem dX8_law_15 : decode cX8_law 15 = .ok (.ireturn, 1) := by decide +kernel
theorem dX8_law_16 : decode cX8_law 16 = .ok (.aload_n 0, 1) := by decide +kernel
theorem dX8_law_17 : decode cX8_law 17 = .ok (.getfield 26, 3) := by decide +kernel
theorem dX8_law_20 : decode cX8_law 20 = .ok (.aload_n 0, 1) := by decide +kernel
theorem dX8_law_21 : decode cX8_law 21 = .ok (.getfield 33, 3) := by decide +kernel
theorem dX8_law_24 : decode cX8_law 24 = .ok (.aload_n 0, 1) := by decide +kernel
theorem dX8_law_25 : decode cX8_law 25 = .ok (.getfield 26, 3) := by decide +kernel
theorem dX8_law_28 : decode cX8_law 28 = .ok (.getfield 163, 3) := by decide +kernel
theorem dX8_law_31 : decode cX8_law 31 = .ok (.invokevirtual 242, 3) := by decide +kernel
theorem dX8_law_34 : decode cX8_law 34 = .ok (.invokestatic 189, 3) := by decide +kernel
theorem dX8_law_37 : decode cX8_law 37 = .ok (.istore_n 2, 1) := by decide +kernel
theorem dX8_law_38 : decode cX8_law 38 = .ok (.aload_n 0, 1) := by decide +kernel
theorem dX8_law_39 : decode cX8_law 39 = .ok (.getfield 26, 3) := by decide +kernel
theorem dX8_law_42 : decode cX8_law 42 = .ok (.aload_n 0, 1) := by decide +kernel
theorem dX8_law_43 : decode cX8_law 43 = .ok (.getfield 33, 3) := by decide +kernel
theorem dX8_law_46 : decode cX8_law 46 = .ok (.aload_n 0, 1) := by decide +kernel
theorem dX8_law_47 : decode cX8_law 47 = .ok (.getfield 26, 3) := by decide +kernel
theorem dX8_law_50 : decode cX8_law 50 = .ok (.getfield 383, 3) := by decide +kernel
theorem dX8_law_53 : decode cX8_law 53 = .ok (.invokevirtual 242, 3) := by decide +kernel
theorem dX8_law_56 : decode cX8_law 56 = .ok (.invokestatic 189, 3) := by decide +kernel
theorem dX8_law_59 : decode cX8_law 59 = .ok (.istore_n 3, 1) := by decide +kernel
theorem dX8_law_60 : decode cX8_law 60 = .ok (.aload_n 0, 1) := by decide +kernel
theorem dX8_law_61 : decode cX8_law 61 = .ok (.getfield 19, 3) := by decide +kernel
theorem dX8_law_64 : decode cX8_law 64 = .ok (.iload_n 3, 1) := by decide +kernel
theorem dX8_law_65 : decode cX8_law 65 = .ok (.i2l, 1) := by decide +kernel
theorem dX8_law_66 : decode cX8_law 66 = .ok (.iload_n 2, 1) := by decide +kernel
theorem dX8_law_67 : decode cX8_law 67 = .ok (.i2l, 1) := by decide +kernel
theorem dX8_law_68 : decode cX8_law 68 = .ok (.invokevirtual 198, 3) := by decide +kernel
theorem dX8_law_71 : decode cX8_law 71 = .ok (.iconst 0, 1) := by decide +kernel
theorem dX8_law_72 : decode cX8_law 72 = .ok (.istore 4, 2) := by decide +kernel
theorem dX8_law_74 : decode cX8_law 74 = .ok (.iload 4, 2) := by decide +kernel
theorem dX8_law_76 : decode cX8_law 76 = .ok (.aload_n 0, 1) := by decide +kernel
theorem dX8_law_77 : decode cX8_law 77 = .ok (.getfield 26, 3) := by decide +kernel
theorem dX8_law_80 : decode cX8_law 80 = .ok (.getfield 265, 3) := by decide +kernel
theorem dX8_law_83 : decode cX8_law 83 = .ok (.if_icmp .ge 27, 3) := by decide +kernel
theorem dX8_law_86 : decode cX8_law 86 = .ok (.aload_n 0, 1) := by decide +kernel
theorem dX8_law_87 : decode cX8_law 87 = .ok (.getfield 19, 3) := by decide +kernel
theorem dX8_law_90 : decode cX8_law 90 = .ok (.aload_n 0, 1) := by decide +kernel
theorem dX8_law_91 : decode cX8_law 91 = .ok (.getfield 26, 3) := by decide +kernel
theorem dX8_law_94 : decode cX8_law 94 = .ok (.getfield 171, 3) := by decide +kernel
theorem dX8_law_97 : decode cX8_law 97 = .ok (.iload 4, 2) := by decide +kernel
theorem dX8_law_99 : decode cX8_law 99 = .ok (.iaload, 1) := by decide +kernel
theorem dX8_law_100 : decode cX8_law 100 = .ok (.i2l, 1) := by decide +kernel
theorem dX8_law_101 : decode cX8_law 101 = .ok (.invokevirtual 268, 3) := by decide +kernel
theorem dX8_law_104 : decode cX8_law 104 = .ok (.iinc 4 1, 3) := by decide +kernel
theorem dX8_law_107 : decode cX8_law 107 = .ok (.goto (-33), 3) := by decide +kernel
theorem dX8_law_110 : decode cX8_law 110 = .ok (.iload_n 3, 1) := by decide +kernel
theorem dX8_law_111 : decode cX8_law 111 = .ok (.iload_n 2, 1) := by decide +kernel
theorem dX8_law_112 : decode cX8_law 112 = .ok (.isub, 1) := by decide +kernel
theorem dX8_law_113 : decode cX8_law 113 = .ok (.ireturn, 1) := by decide +kernel
theorem dX8_rests_0 : decode cX8_rests 0 = .ok (.iload_n 1, 1) := by decide +kernel
theorem dX8_rests_1 : decode cX8_rests 1 = .ok (.ifCond .lt 9, 3) := by decide +kernel
theorem dX8_rests_4 : decode cX8_rests 4 = .ok (.iload_n 1, 1) := by decide +kernel
theorem dX8_rests_5 : decode cX8_rests 5 = .ok (.bipush 20, 2) := by decide +kernel
theorem dX8_rests_7 : decode cX8_rests 7 = .ok (.if_icmp .le 5, 3) := by decide +kernel
theorem dX8_rests_10 : decode cX8_rests 10 = .ok (.iconst (-1), 1) := by decide +kernel
theorem dX8_rests_11 : decode cX8_rests 11 = .ok (.ireturn, 1) := by decide +kernel
theorem dX8_rests_12 : decode cX8_rests 12 = .ok (.aload_n 0, 1) := by decide +kernel
theorem dX8_rests_13 : decode cX8_rests 13 = .ok (.getfield 19, 3) := by decide +kernel
theorem dX8_rests_16 : decode cX8_rests 16 = .ok (.invokevirtual 264, 3) := by decide +kernel
theorem dX8_rests_19 : decode cX8_rests 19 = .ok (.iconst 0, 1) := by decide +kernel
theorem dX8_rests_20 : decode cX8_rests 20 = .ok (.istore_n 2, 1) := by decide +kernel
theorem dX8_rests_21 : decode cX8_rests 21 = .ok (.iconst 0, 1) := by decide +kernel
theorem dX8_rests_22 : decode cX8_rests 22 = .ok (.istore_n 3, 1) := by decide +kernel
theorem dX8_rests_23 : decode cX8_rests 23 = .ok (.iload_n 3, 1) := by decide +kernel
theorem dX8_rests_24 : decode cX8_rests 24 = .ok (.bipush 9, 2) := by decide +kernel
theorem dX8_rests_26 : decode cX8_rests 26 = .ok (.if_icmp .gt 64, 3) := by decide +kernel
theorem dX8_rests_29 : decode cX8_rests 29 = .ok (.iconst 0, 1) := by decide +kernel
theorem dX8_rests_30 : decode cX8_rests 30 = .ok (.istore 4, 2) := by decide +kernel
theorem dX8_rests_32 : decode cX8_rests 32 = .ok (.iload 4, 2) := by decide +kernel
theorem dX8_rests_34 : decode cX8_rests 34 = .ok (.bipush 9, 2) := by decide +kernel
theorem dX8_rests_36 : decode cX8_rests 36 = .ok (.if_icmp .gt 48, 3) := by decide +kernel
theorem dX8_rests_39 : decode cX8_rests 39 = .ok (.iload_n 1, 1) := by decide +kernel
theorem dX8_rests_40 : decode cX8_rests 40 = .ok (.iload_n 3, 1) := by decide +kernel
theorem dX8_rests_41 : decode cX8_rests 41 = .ok (.iload 4, 2) := by decide +kernel
theorem dX8_rests_43 : decode cX8_rests 43 = .ok (.invokestatic 386, 3) := by decide +kernel
theorem dX8_rests_46 : decode cX8_rests 46 = .ok (.ifCond .eq 32, 3) := by decide +kernel
theorem dX8_rests_49 : decode cX8_rests 49 = .ok (.iload_n 1, 1) := by decide +kernel
theorem dX8_rests_50 : decode cX8_rests 50 = .ok (.iload 4, 2) := by decide +kernel
theorem dX8_rests_52 : decode cX8_rests 52 = .ok (.iload_n 3, 1) := by decide +kernel
theorem dX8_rests_53 : decode cX8_rests 53 = .ok (.invokestatic 386, 3) := by decide +kernel
theorem dX8_rests_56 : decode cX8_rests 56 = .ok (.ifCond .eq 22, 3) := by decide +kernel
theorem dX8_rests_59 : decode cX8_rests 59 = .ok (.iload_n 2, 1) := by decide +kernel
theorem dX8_rests_60 : decode cX8_rests 60 = .ok (.ifCond .ne 15, 3) := by decide +kernel
theorem dX8_rests_63 : decode cX8_rests 63 = .ok (.aload_n 0, 1) := by decide +kernel
theorem dX8_rests_64 : decode cX8_rests 64 = .ok (.getfield 19, 3) := by decide +kernel
theorem dX8_rests_67 : decode cX8_rests 67 = .ok (.iload_n 3, 1) := by decide +kernel
theorem dX8_rests_68 : decode cX8_rests 68 = .ok (.i2l, 1) := by decide +kernel
theorem dX8_rests_69 : decode cX8_rests 69 = .ok (.iload 4, 2) := by decide +kernel
theorem dX8_rests_71 : decode cX8_rests 71 = .ok (.i2l, 1) := by decide +kernel
theorem dX8_rests_72 : decode cX8_rests 72 = .ok (.invokevirtual 198, 3) := by decide +kernel
theorem dX8_rests_75 : decode cX8_rests 75 = .ok (.iinc 2 1, 3) := by decide +kernel
theorem dX8_rests_78 : decode cX8_rests 78 = .ok (.iinc 4 1, 3) := by decide +kernel
theorem dX8_rests_81 : decode cX8_rests 81 = .ok (.goto (-49), 3) := by decide +kernel
theorem dX8_rests_84 : decode cX8_rests 84 = .ok (.iinc 3 1, 3) := by decide +kernel
theorem dX8_rests_87 : decode cX8_rests 87 = .ok (.goto (-64), 3) := by decide +kernel
theorem dX8_rests_90 : decode cX8_rests 90 = .ok (.iload_n 2, 1) := by decide +kernel
theorem dX8_rests_91 : decode cX8_rests 91 = .ok (.ireturn, 1) := by decide +kernel
theorem dX8_years_0 : decode cX8_years 0 = .ok (.iload_n 2, 1) := by decide +kernel
theorem dX8_years_1 : decode cX8_years 1 = .ok (.iconst 1, 1) := by decide +kernel
theorem dX8_years_2 : decode cX8_years 2 = .ok (.if_icmp .lt 9, 3) := by decide +kernel
theorem dX8_years_5 : decode cX8_years 5 = .ok (.iload_n 2, 1) := by decide +kernel
theorem dX8_years_6 : decode cX8_years 6 = .ok (.bipush 60, 2) := by decide +kernel
theorem dX8_years_8 : decode cX8_years 8 = .ok (.if_icmp .le 5, 3) := by decide +kernel
theorem dX8_years_11 : decode cX8_years 11 = .ok (.iconst (-1), 1) := by decide +kernel
theorem dX8_years_12 : decode cX8_years 12 = .ok (.ireturn, 1) := by decide +kernel
theorem dX8_years_13 : decode cX8_years 13 = .ok (.aload_n 0, 1) := by decide +kernel
theorem dX8_years_14 : decode cX8_years 14 = .ok (.getfield 37, 3) := by decide +kernel
theorem dX8_years_17 : decode cX8_years 17 = .ok (.aload_n 0, 1) := by decide +kernel
theorem dX8_years_18 : decode cX8_years 18 = .ok (.getfield 33, 3) := by decide +kernel
theorem dX8_years_21 : decode cX8_years 21 = .ok (.invokevirtual 286, 3) := by decide +kernel
theorem dX8_years_24 : decode cX8_years 24 = .ok (.iload_n 1, 1) := by decide +kernel
theorem dX8_years_25 : decode cX8_years 25 = .ok (.istore_n 3, 1) := by decide +kernel
theorem dX8_years_26 : decode cX8_years 26 = .ok (.iconst 0, 1) := by decide +kernel
theorem dX8_years_27 : decode cX8_years 27 = .ok (.istore 4, 2) := by decide +kernel
theorem dX8_years_29 : decode cX8_years 29 = .ok (.iconst 0, 1) := by decide +kernel
theorem dX8_years_30 : decode cX8_years 30 = .ok (.istore 5, 2) := by decide +kernel
theorem dX8_years_32 : decode cX8_years 32 = .ok (.iload 5, 2) := by decide +kernel
theorem dX8_years_34 : decode cX8_years 34 = .ok (.iload_n 2, 1) := by decide +kernel
theorem dX8_years_35 : decode cX8_years 35 = .ok (.if_icmp .ge 135, 3) := by decide +kernel
theorem dX8_years_38 : decode cX8_years 38 = .ok (.iload_n 3, 1) := by decide +kernel
theorem dX8_years_39 : decode cX8_years 39 = .ok (.invokestatic 389, 3) := by decide +kernel
theorem dX8_years_42 : decode cX8_years 42 = .ok (.istore_n 3, 1) := by decide +kernel
theorem dX8_years_43 : decode cX8_years 43 = .ok (.iload_n 3, 1) := by decide +kernel
theorem dX8_years_44 : decode cX8_years 44 = .ok (.iconst 4, 1) := by decide +kernel
theorem dX8_years_45 : decode cX8_years 45 = .ok (.invokestatic 392, 3) := by decide +kernel
theorem dX8_years_48 : decode cX8_years 48 = .ok (.istore 6, 2) := by decide +kernel
theorem dX8_years_50 : decode cX8_years 50 = .ok (.iload 6, 2) := by decide +kernel
theorem dX8_years_52 : decode cX8_years 52 = .ok (.iconst 2, 1) := by decide +kernel
theorem dX8_years_53 : decode cX8_years 53 = .ok (.if_icmp .ge 23, 3) := by decide +kernel
theorem dX8_years_56 : decode cX8_years 56 = .ok (.iload 4, 2) := by decide +kernel
theorem dX8_years_58 : decode cX8_years 58 = .ok (.aload_n 0, 1) := by decide +kernel
theorem dX8_years_59 : decode cX8_years 59 = .ok (.getfield 26, 3) := by decide +kernel
theorem dX8_years_62 : decode cX8_years 62 = .ok (.aload_n 0, 1) := by decide +kernel
theorem dX8_years_63 : decode cX8_years 63 = .ok (.getfield 37, 3) := by decide +kernel
theorem dX8_years_66 : decode cX8_years 66 = .ok (.iconst 1, 1) := by decide +kernel
theorem dX8_years_67 : decode cX8_years 67 = .ok (.invokevirtual 194, 3) := by decide +kernel
theorem dX8_years_70 : decode cX8_years 70 = .ok (.iadd, 1) := by decide +kernel
theorem dX8_years_71 : decode cX8_years 71 = .ok (.istore 4, 2) := by decide +kernel
theorem dX8_years_73 : decode cX8_years 73 = .ok (.goto 91, 3) := by decide +kernel
theorem dX8_years_76 : decode cX8_years 76 = .ok (.aload_n 0, 1) := by decide +kernel
theorem dX8_years_77 : decode cX8_years 77 = .ok (.getfield 26, 3) := by decide +kernel
theorem dX8_years_80 : decode cX8_years 80 = .ok (.getfield 265, 3) := by decide +kernel
theorem dX8_years_83 : decode cX8_years 83 = .ok (.ifCond .le 81, 3) := by decide +kernel
theorem dX8_years_86 : decode cX8_years 86 = .ok (.iload_n 3, 1) := by decide +kernel
theorem dX8_years_87 : decode cX8_years 87 = .ok (.invokestatic 389, 3) := by decide +kernel
theorem dX8_years_90 : decode cX8_years 90 = .ok (.istore_n 3, 1) := by decide +kernel
theorem dX8_years_91 : decode cX8_years 91 = .ok (.iload_n 3, 1) := by decide +kernel
theorem dX8_years_92 : decode cX8_years 92 = .ok (.aload_n 0, 1) := by decide +kernel
theorem dX8_years_93 : decode cX8_years 93 = .ok (.getfield 26, 3) := by decide +kernel
theorem dX8_years_96 : decode cX8_years 96 = .ok (.getfield 265, 3) := by decide +kernel
theorem dX8_years_99 : decode cX8_years 99 = .ok (.invokestatic 392, 3) := by decide +kernel
theorem dX8_years_102 : decode cX8_years 102 = .ok (.istore 7, 2) := by decide +kernel
theorem dX8_years_104 : decode cX8_years 104 = .ok (.iload_n 3, 1) := by decide +kernel
theorem dX8_years_105 : decode cX8_years 105 = .ok (.invokestatic 389, 3) := by decide +kernel
theorem dX8_years_108 : decode cX8_years 108 = .ok (.istore_n 3, 1) := by decide +kernel
theorem dX8_years_109 : decode cX8_years 109 = .ok (.iload 6, 2) := by decide +kernel
theorem dX8_years_111 : decode cX8_years 111 = .ok (.iconst 2, 1) := by decide +kernel
theorem dX8_years_112 : decode cX8_years 112 = .ok (.if_icmp .ne 27, 3) := by decide +kernel
theorem dX8_years_115 : decode cX8_years 115 = .ok (.aload_n 0, 1) := by decide +kernel
theorem dX8_years_116 : decode cX8_years 116 = .ok (.getfield 26, 3) := by decide +kernel
theorem dX8_years_119 : decode cX8_years 119 = .ok (.aload_n 0, 1) := by decide +kernel
theorem dX8_years_120 : decode cX8_years 120 = .ok (.getfield 37, 3) := by decide +kernel
theorem dX8_years_123 : decode cX8_years 123 = .ok (.iload 7, 2) := by decide +kernel
theorem dX8_years_125 : decode cX8_years 125 = .ok (.iconst 1, 1) := by decide +kernel
theorem dX8_years_126 : decode cX8_years 126 = .ok (.iload_n 3, 1) := by decide +kernel
theorem dX8_years_127 : decode cX8_years 127 = .ok (.iconst 3, 1) := by decide +kernel
theorem dX8_years_128 : decode cX8_years 128 = .ok (.invokestatic 392, 3) := by decide +kernel
theorem dX8_years_131 : decode cX8_years 131 = .ok (.iadd, 1) := by decide +kernel
theorem dX8_years_132 : decode cX8_years 132 = .ok (.invokevirtual 206, 3) := by decide +kernel
theorem dX8_years_135 : decode cX8_years 135 = .ok (.pop, 1) := by decide +kernel
theorem dX8_years_136 : decode cX8_years 136 = .ok (.goto 28, 3) := by decide +kernel
theorem dX8_years_139 : decode cX8_years 139 = .ok (.aload_n 0, 1) := by decide +kernel
theorem dX8_years_140 : decode cX8_years 140 = .ok (.getfield 26, 3) := by decide +kernel
theorem dX8_years_143 : decode cX8_years 143 = .ok (.aload_n 0, 1) := by decide +kernel
theorem dX8_years_144 : decode cX8_years 144 = .ok (.getfield 37, 3) := by decide +kernel
theorem dX8_years_147 : decode cX8_years 147 = .ok (.iload 7, 2) := by decide +kernel
theorem dX8_years_149 : decode cX8_years 149 = .ok (.iload_n 3, 1) := by decide +kernel
theorem dX8_years_150 : decode cX8_years 150 = .ok (.aload_n 0, 1) := by decide +kernel
theorem dX8_years_151 : decode cX8_years 151 = .ok (.getfield 26, 3) := by decide +kernel
theorem dX8_years_154 : decode cX8_years 154 = .ok (.getfield 265, 3) := by decide +kernel
theorem dX8_years_157 : decode cX8_years 157 = .ok (.invokestatic 392, 3) := by decide +kernel
theorem dX8_years_160 : decode cX8_years 160 = .ok (.invokevirtual 216, 3) := by decide +kernel
theorem dX8_years_163 : decode cX8_years 163 = .ok (.pop, 1) := by decide +kernel
theorem dX8_years_164 : decode cX8_years 164 = .ok (.iinc 5 1, 3) := by decide +kernel
theorem dX8_years_167 : decode cX8_years 167 = .ok (.goto (-135), 3) := by decide +kernel
theorem dX8_years_170 : decode cX8_years 170 = .ok (.aload_n 0, 1) := by decide +kernel
theorem dX8_years_171 : decode cX8_years 171 = .ok (.getfield 19, 3) := by decide +kernel
theorem dX8_years_174 : decode cX8_years 174 = .ok (.aload_n 0, 1) := by decide +kernel
theorem dX8_years_175 : decode cX8_years 175 = .ok (.getfield 37, 3) := by decide +kernel
theorem dX8_years_178 : decode cX8_years 178 = .ok (.getfield 222, 3) := by decide +kernel
theorem dX8_years_181 : decode cX8_years 181 = .ok (.i2l, 1) := by decide +kernel
theorem dX8_years_182 : decode cX8_years 182 = .ok (.iload 4, 2) := by decide +kernel
theorem dX8_years_184 : decode cX8_years 184 = .ok (.i2l, 1) := by decide +kernel
theorem dX8_years_185 : decode cX8_years 185 = .ok (.invokevirtual 198, 3) := by decide +kernel
theorem dX8_years_188 : decode cX8_years 188 = .ok (.aload_n 0, 1) := by decide +kernel
theorem dX8_years_189 : decode cX8_years 189 = .ok (.getfield 26, 3) := by decide +kernel
theorem dX8_years_192 : decode cX8_years 192 = .ok (.aload_n 0, 1) := by decide +kernel
theorem dX8_years_193 : decode cX8_years 193 = .ok (.getfield 37, 3) := by decide +kernel
theorem dX8_years_196 : decode cX8_years 196 = .ok (.invokevirtual 202, 3) := by decide +kernel
theorem dX8_years_199 : decode cX8_years 199 = .ok (.ireturn, 1) := by decide +kernel
theorem dX8_keep_0 : decode cX8_keep 0 = .ok (.aload_n 0, 1) := by decide +kernel
theorem dX8_keep_1 : decode cX8_keep 1 = .ok (.getfield 50, 3) := by decide +kernel
theorem dX8_keep_4 : decode cX8_keep 4 = .ok (.iload_n 1, 1) := by decide +kernel
theorem dX8_keep_5 : decode cX8_keep 5 = .ok (.aload_n 0, 1) := by decide +kernel
theorem dX8_keep_6 : decode cX8_keep 6 = .ok (.getfield 33, 3) := by decide +kernel
theorem dX8_keep_9 : decode cX8_keep 9 = .ok (.invokevirtual 395, 3) := by decide +kernel
theorem dX8_keep_12 : decode cX8_keep 12 = .ok (.ireturn, 1) := by decide +kernel
theorem dX8_again_0 : decode cX8_again 0 = .ok (.aload_n 0, 1) := by decide +kernel
theorem dX8_again_1 : decode cX8_again 1 = .ok (.getfield 50, 3) := by decide +kernel
theorem dX8_again_4 : decode cX8_again 4 = .ok (.iload_n 1, 1) := by decide +kernel
theorem dX8_again_5 : decode cX8_again 5 = .ok (.aload_n 0, 1) := by decide +kernel
theorem dX8_again_6 : decode cX8_again 6 = .ok (.getfield 33, 3) := by decide +kernel
theorem dX8_again_9 : decode cX8_again 9 = .ok (.invokevirtual 399, 3) := by decide +kernel
theorem dX8_again_12 : decode cX8_again 12 = .ok (.ifCond .ne 5, 3) := by decide +kernel
theorem dX8_again_15 : decode cX8_again 15 = .ok (.iconst 0, 1) := by decide +kernel
theorem dX8_again_16 : decode cX8_again 16 = .ok (.ireturn, 1) := by decide +kernel
theorem dX8_again_17 : decode cX8_again 17 = .ok (.aload_n 0, 1) := by decide +kernel
theorem dX8_again_18 : decode cX8_again 18 = .ok (.getfield 43, 3) := by decide +kernel
theorem dX8_again_21 : decode cX8_again 21 = .ok (.invokevirtual 107, 3) := by decide +kernel
theorem dX8_again_24 : decode cX8_again 24 = .ok (.iconst 1, 1) := by decide +kernel
theorem dX8_again_25 : decode cX8_again 25 = .ok (.ireturn, 1) := by decide +kernel
theorem dX8_count_0 : decode cX8_count 0 = .ok (.iload_n 1, 1) := by decide +kernel
theorem dX8_count_1 : decode cX8_count 1 = .ok (.tableswitch 189 0 12 #[67, 75, 87, 95, 103, 111, 119, 127, 142, 157, 165, 173, 181], 67) := by decide +kernel
theorem dX8_count_68 : decode cX8_count 68 = .ok (.aload_n 0, 1) := by decide +kernel
theorem dX8_count_69 : decode cX8_count 69 = .ok (.getfield 26, 3) := by decide +kernel
theorem dX8_count_72 : decode cX8_count 72 = .ok (.getfield 265, 3) := by decide +kernel
theorem dX8_count_75 : decode cX8_count 75 = .ok (.ireturn, 1) := by decide +kernel
theorem dX8_count_76 : decode cX8_count 76 = .ok (.aload_n 0, 1) := by decide +kernel
theorem dX8_count_77 : decode cX8_count 77 = .ok (.getfield 26, 3) := by decide +kernel
theorem dX8_count_80 : decode cX8_count 80 = .ok (.aload_n 0, 1) := by decide +kernel
theorem dX8_count_81 : decode cX8_count 81 = .ok (.getfield 33, 3) := by decide +kernel
theorem dX8_count_84 : decode cX8_count 84 = .ok (.invokevirtual 202, 3) := by decide +kernel
theorem dX8_count_87 : decode cX8_count 87 = .ok (.ireturn, 1) := by decide +kernel
theorem dX8_count_88 : decode cX8_count 88 = .ok (.aload_n 0, 1) := by decide +kernel
theorem dX8_count_89 : decode cX8_count 89 = .ok (.getfield 33, 3) := by decide +kernel
theorem dX8_count_92 : decode cX8_count 92 = .ok (.invokevirtual 289, 3) := by decide +kernel
theorem dX8_count_95 : decode cX8_count 95 = .ok (.ireturn, 1) := by decide +kernel
theorem dX8_count_96 : decode cX8_count 96 = .ok (.aload_n 0, 1) := by decide +kernel
theorem dX8_count_97 : decode cX8_count 97 = .ok (.getfield 33, 3) := by decide +kernel
theorem dX8_count_100 : decode cX8_count 100 = .ok (.getfield 222, 3) := by decide +kernel
theorem dX8_count_103 : decode cX8_count 103 = .ok (.ireturn, 1) := by decide +kernel
theorem dX8_count_104 : decode cX8_count 104 = .ok (.aload_n 0, 1) := by decide +kernel
theorem dX8_count_105 : decode cX8_count 105 = .ok (.getfield 33, 3) := by decide +kernel
theorem dX8_count_108 : decode cX8_count 108 = .ok (.getfield 402, 3) := by decide +kernel
theorem dX8_count_111 : decode cX8_count 111 = .ok (.ireturn, 1) := by decide +kernel
theorem dX8_count_112 : decode cX8_count 112 = .ok (.aload_n 0, 1) := by decide +kernel
theorem dX8_count_113 : decode cX8_count 113 = .ok (.getfield 33, 3) := by decide +kernel
theorem dX8_count_116 : decode cX8_count 116 = .ok (.getfield 405, 3) := by decide +kernel
theorem dX8_count_119 : decode cX8_count 119 = .ok (.ireturn, 1) := by decide +kernel
theorem dX8_count_120 : decode cX8_count 120 = .ok (.aload_n 0, 1) := by decide +kernel
theorem dX8_count_121 : decode cX8_count 121 = .ok (.getfield 33, 3) := by decide +kernel
theorem dX8_count_124 : decode cX8_count 124 = .ok (.getfield 407, 3) := by decide +kernel
theorem dX8_count_127 : decode cX8_count 127 = .ok (.ireturn, 1) := by decide +kernel
theorem dX8_count_128 : decode cX8_count 128 = .ok (.aload_n 0, 1) := by decide +kernel
theorem dX8_count_129 : decode cX8_count 129 = .ok (.getfield 26, 3) := by decide +kernel
theorem dX8_count_132 : decode cX8_count 132 = .ok (.aload_n 0, 1) := by decide +kernel
theorem dX8_count_133 : decode cX8_count 133 = .ok (.getfield 33, 3) := by decide +kernel
theorem dX8_count_136 : decode cX8_count 136 = .ok (.getfield 407, 3) := by decide +kernel
theorem dX8_count_139 : decode cX8_count 139 = .ok (.invokevirtual 410, 3) := by decide +kernel
theorem dX8_count_142 : decode cX8_count 142 = .ok (.ireturn, 1) := by decide +kernel
theorem dX8_count_143 : decode cX8_count 143 = .ok (.aload_n 0, 1) := by decide +kernel
theorem dX8_count_144 : decode cX8_count 144 = .ok (.getfield 33, 3) := by decide +kernel
theorem dX8_count_147 : decode cX8_count 147 = .ok (.aload_n 0, 1) := by decide +kernel
theorem dX8_count_148 : decode cX8_count 148 = .ok (.getfield 26, 3) := by decide +kernel
theorem dX8_count_151 : decode cX8_count 151 = .ok (.invokevirtual 270, 3) := by decide +kernel
theorem dX8_count_154 : decode cX8_count 154 = .ok (.invokevirtual 252, 3) := by decide +kernel
theorem dX8_count_157 : decode cX8_count 157 = .ok (.ireturn, 1) := by decide +kernel
theorem dX8_count_158 : decode cX8_count 158 = .ok (.aload_n 0, 1) := by decide +kernel
theorem dX8_count_159 : decode cX8_count 159 = .ok (.getfield 57, 3) := by decide +kernel
theorem dX8_count_162 : decode cX8_count 162 = .ok (.getfield 334, 3) := by decide +kernel
theorem dX8_count_165 : decode cX8_count 165 = .ok (.ireturn, 1) := by decide +kernel
theorem dX8_count_166 : decode cX8_count 166 = .ok (.aload_n 0, 1) := by decide +kernel
theorem dX8_count_167 : decode cX8_count 167 = .ok (.getfield 43, 3) := by decide +kernel
theorem dX8_count_170 : decode cX8_count 170 = .ok (.getfield 413, 3) := by decide +kernel
theorem dX8_count_173 : decode cX8_count 173 = .ok (.ireturn, 1) := by decide +kernel
theorem dX8_count_174 : decode cX8_count 174 = .ok (.aload_n 0, 1) := by decide +kernel
theorem dX8_count_175 : decode cX8_count 175 = .ok (.getfield 19, 3) := by decide +kernel
theorem dX8_count_178 : decode cX8_count 178 = .ok (.getfield 414, 3) := by decide +kernel
theorem dX8_count_181 : decode cX8_count 181 = .ok (.ireturn, 1) := by decide +kernel
theorem dX8_count_182 : decode cX8_count 182 = .ok (.aload_n 0, 1) := by decide +kernel
theorem dX8_count_183 : decode cX8_count 183 = .ok (.getfield 10, 3) := by decide +kernel
theorem dX8_count_186 : decode cX8_count 186 = .ok (.getfield 96, 3) := by decide +kernel
theorem dX8_count_189 : decode cX8_count 189 = .ok (.ireturn, 1) := by decide +kernel
theorem dX8_count_190 : decode cX8_count 190 = .ok (.bipush (-100), 2) := by decide +kernel
theorem dX8_count_192 : decode cX8_count 192 = .ok (.ireturn, 1) := by decide +kernel
theorem dX8_row_0 : decode cX8_row 0 = .ok (.iload_n 1, 1) := by decide +kernel
theorem dX8_row_1 : decode cX8_row 1 = .ok (.ifCond .lt 20, 3) := by decide +kernel
theorem dX8_row_4 : decode cX8_row 4 = .ok (.iload_n 1, 1) := by decide +kernel
theorem dX8_row_5 : decode cX8_row 5 = .ok (.aload_n 0, 1) := by decide +kernel
theorem dX8_row_6 : decode cX8_row 6 = .ok (.getfield 19, 3) := by decide +kernel
theorem dX8_row_9 : decode cX8_row 9 = .ok (.getfield 414, 3) := by decide +kernel
theorem dX8_row_12 : decode cX8_row 12 = .ok (.if_icmp .ge 9, 3) := by decide +kernel
theorem dX8_row_15 : decode cX8_row 15 = .ok (.iload_n 1, 1) := by decide +kernel
theorem dX8_row_16 : decode cX8_row 16 = .ok (.bipush 10, 2) := by decide +kernel
theorem dX8_row_18 : decode cX8_row 18 = .ok (.if_icmp .lt 14, 3) := by decide +kernel
theorem dX8_row_21 : decode cX8_row 21 = .ok (.new 141, 3) := by decide +kernel
theorem dX8_row_24 : decode cX8_row 24 = .ok (.dup, 1) := by decide +kernel
theorem dX8_row_25 : decode cX8_row 25 = .ok (.ldc_w 415, 3) := by decide +kernel
theorem dX8_row_28 : decode cX8_row 28 = .ok (.invokespecial 145, 3) := by decide +kernel
theorem dX8_row_31 : decode cX8_row 31 = .ok (.athrow, 1) := by decide +kernel
theorem dX8_row_32 : decode cX8_row 32 = .ok (.aload_n 0, 1) := by decide +kernel
theorem dX8_row_33 : decode cX8_row 33 = .ok (.getfield 19, 3) := by decide +kernel
theorem dX8_row_36 : decode cX8_row 36 = .ok (.getfield 417, 3) := by decide +kernel
theorem dX8_row_39 : decode cX8_row 39 = .ok (.iload_n 1, 1) := by decide +kernel
theorem dX8_row_40 : decode cX8_row 40 = .ok (.laload, 1) := by decide +kernel
theorem dX8_row_41 : decode cX8_row 41 = .ok (.lreturn, 1) := by decide +kernel
theorem dX8_faultOfThings_0 : decode cX8_faultOfThings 0 = .ok (.aload_n 0, 1) := by decide +kernel
theorem dX8_faultOfThings_1 : decode cX8_faultOfThings 1 = .ok (.getfield 10, 3) := by decide +kernel
theorem dX8_faultOfThings_4 : decode cX8_faultOfThings 4 = .ok (.getfield 96, 3) := by decide +kernel
theorem dX8_faultOfThings_7 : decode cX8_faultOfThings 7 = .ok (.bipush 15, 2) := by decide +kernel
theorem dX8_faultOfThings_9 : decode cX8_faultOfThings 9 = .ok (.invokestatic 310, 3) := by decide +kernel
theorem dX8_faultOfThings_12 : decode cX8_faultOfThings 12 = .ok (.istore_n 1, 1) := by decide +kernel
theorem dX8_faultOfThings_13 : decode cX8_faultOfThings 13 = .ok (.iconst 0, 1) := by decide +kernel
theorem dX8_faultOfThings_14 : decode cX8_faultOfThings 14 = .ok (.istore_n 2, 1) := by decide +kernel
theorem dX8_faultOfThings_15 : decode cX8_faultOfThings 15 = .ok (.iload_n 2, 1) := by decide +kernel
theorem dX8_faultOfThings_16 : decode cX8_faultOfThings 16 = .ok (.iload_n 1, 1) := by decide +kernel
theorem dX8_faultOfThings_17 : decode cX8_faultOfThings 17 = .ok (.if_icmp .ge 77, 3) := by decide +kernel
theorem dX8_faultOfThings_20 : decode cX8_faultOfThings 20 = .ok (.iload_n 2, 1) := by decide +kernel
theorem dX8_faultOfThings_21 : decode cX8_faultOfThings 21 = .ok (.iconst 2, 1) := by decide +kernel
theorem dX8_faultOfThings_22 : decode cX8_faultOfThings 22 = .ok (.irem, 1) := by decide +kernel
theorem dX8_faultOfThings_23 : decode cX8_faultOfThings 23 = .ok (.iconst 1, 1) := by decide +kernel
theorem dX8_faultOfThings_24 : decode cX8_faultOfThings 24 = .ok (.if_icmp .ne 25, 3) := by decide +kernel
theorem dX8_faultOfThings_27 : decode cX8_faultOfThings 27 = .ok (.aload_n 0, 1) := by decide +kernel
theorem dX8_faultOfThings_28 : decode cX8_faultOfThings 28 = .ok (.getfield 10, 3) := by decide +kernel
theorem dX8_faultOfThings_31 : decode cX8_faultOfThings 31 = .ok (.iload_n 2, 1) := by decide +kernel
theorem dX8_faultOfThings_32 : decode cX8_faultOfThings 32 = .ok (.invokevirtual 231, 3) := by decide +kernel
theorem dX8_faultOfThings_35 : decode cX8_faultOfThings 35 = .ok (.bipush 59, 2) := by decide +kernel
theorem dX8_faultOfThings_37 : decode cX8_faultOfThings 37 = .ok (.if_icmp .ne 7, 3) := by decide +kernel
theorem dX8_faultOfThings_40 : decode cX8_faultOfThings 40 = .ok (.iconst 1, 1) := by decide +kernel
theorem dX8_faultOfThings_41 : decode cX8_faultOfThings 41 = .ok (.goto 4, 3) := by decide +kernel
theorem dX8_faultOfThings_44 : decode cX8_faultOfThings 44 = .ok (.iconst 0, 1) := by decide +kernel
theorem dX8_faultOfThings_45 : decode cX8_faultOfThings 45 = .ok (.istore_n 3, 1) := by decide +kernel
theorem dX8_faultOfThings_46 : decode cX8_faultOfThings 46 = .ok (.goto 36, 3) := by decide +kernel
theorem dX8_faultOfThings_49 : decode cX8_faultOfThings 49 = .ok (.aload_n 0, 1) := by decide +kernel
theorem dX8_faultOfThings_50 : decode cX8_faultOfThings 50 = .ok (.getfield 10, 3) := by decide +kernel
theorem dX8_faultOfThings_53 : decode cX8_faultOfThings 53 = .ok (.iload_n 2, 1) := by decide +kernel
theorem dX8_faultOfThings_54 : decode cX8_faultOfThings 54 = .ok (.invokevirtual 100, 3) := by decide +kernel
theorem dX8_faultOfThings_57 : decode cX8_faultOfThings 57 = .ok (.ifCond .le 23, 3) := by decide +kernel
theorem dX8_faultOfThings_60 : decode cX8_faultOfThings 60 = .ok (.aload_n 0, 1) := by decide +kernel
theorem dX8_faultOfThings_61 : decode cX8_faultOfThings 61 = .ok (.getfield 26, 3) := by decide +kernel
theorem dX8_faultOfThings_64 : decode cX8_faultOfThings 64 = .ok (.getfield 265, 3) := by decide +kernel
theorem dX8_faultOfThings_67 : decode cX8_faultOfThings 67 = .ok (.iload_n 2, 1) := by decide +kernel
theorem dX8_faultOfThings_68 : decode cX8_faultOfThings 68 = .ok (.iconst 2, 1) := by decide +kernel
theorem dX8_faultOfThings_69 : decode cX8_faultOfThings 69 = .ok (.idiv, 1) := by decide +kernel
theorem dX8_faultOfThings_70 : decode cX8_faultOfThings 70 = .ok (.iadd, 1) := by decide +kernel
theorem dX8_faultOfThings_71 : decode cX8_faultOfThings 71 = .ok (.bipush 8, 2) := by decide +kernel
theorem dX8_faultOfThings_73 : decode cX8_faultOfThings 73 = .ok (.if_icmp .ge 7, 3) := by decide +kernel
theorem dX8_faultOfThings_76 : decode cX8_faultOfThings 76 = .ok (.iconst 1, 1) := by decide +kernel
theorem dX8_faultOfThings_77 : decode cX8_faultOfThings 77 = .ok (.goto 4, 3) := by decide +kernel
theorem dX8_faultOfThings_80 : decode cX8_faultOfThings 80 = .ok (.iconst 0, 1) := by decide +kernel
theorem dX8_faultOfThings_81 : decode cX8_faultOfThings 81 = .ok (.istore_n 3, 1) := by decide +kernel
theorem dX8_faultOfThings_82 : decode cX8_faultOfThings 82 = .ok (.iload_n 3, 1) := by decide +kernel
theorem dX8_faultOfThings_83 : decode cX8_faultOfThings 83 = .ok (.ifCond .ne 5, 3) := by decide +kernel
theorem dX8_faultOfThings_86 : decode cX8_faultOfThings 86 = .ok (.iload_n 2, 1) := by decide +kernel
theorem dX8_faultOfThings_87 : decode cX8_faultOfThings 87 = .ok (.ireturn, 1) := by decide +kernel
theorem dX8_faultOfThings_88 : decode cX8_faultOfThings 88 = .ok (.iinc 2 1, 3) := by decide +kernel
theorem dX8_faultOfThings_91 : decode cX8_faultOfThings 91 = .ok (.goto (-76), 3) := by decide +kernel
theorem dX8_faultOfThings_94 : decode cX8_faultOfThings 94 = .ok (.aload_n 0, 1) := by decide +kernel
theorem dX8_faultOfThings_95 : decode cX8_faultOfThings 95 = .ok (.getfield 10, 3) := by decide +kernel
theorem dX8_faultOfThings_98 : decode cX8_faultOfThings 98 = .ok (.getfield 96, 3) := by decide +kernel
theorem dX8_faultOfThings_101 : decode cX8_faultOfThings 101 = .ok (.bipush 15, 2) := by decide +kernel
theorem dX8_faultOfThings_103 : decode cX8_faultOfThings 103 = .ok (.if_icmp .gt 13, 3) := by decide +kernel
theorem dX8_faultOfThings_106 : decode cX8_faultOfThings 106 = .ok (.iload_n 1, 1) := by decide +kernel
theorem dX8_faultOfThings_107 : decode cX8_faultOfThings 107 = .ok (.ifCond .le 11, 3) := by decide +kernel
theorem dX8_faultOfThings_110 : decode cX8_faultOfThings 110 = .ok (.iload_n 1, 1) := by decide +kernel
theorem dX8_faultOfThings_111 : decode cX8_faultOfThings 111 = .ok (.iconst 2, 1) := by decide +kernel
theorem dX8_faultOfThings_112 : decode cX8_faultOfThings 112 = .ok (.irem, 1) := by decide +kernel
theorem dX8_faultOfThings_113 : decode cX8_faultOfThings 113 = .ok (.ifCond .ne 5, 3) := by decide +kernel
theorem dX8_faultOfThings_116 : decode cX8_faultOfThings 116 = .ok (.iload_n 1, 1) := by decide +kernel
theorem dX8_faultOfThings_117 : decode cX8_faultOfThings 117 = .ok (.ireturn, 1) := by decide +kernel
theorem dX8_faultOfThings_118 : decode cX8_faultOfThings 118 = .ok (.iconst (-1), 1) := by decide +kernel
theorem dX8_faultOfThings_119 : decode cX8_faultOfThings 119 = .ok (.ireturn, 1) := by decide +kernel
theorem dX8_faultOfStrings_0 : decode cX8_faultOfStrings 0 = .ok (.aload_n 0, 1) := by decide +kernel
theorem dX8_faultOfStrings_1 : decode cX8_faultOfStrings 1 = .ok (.getfield 10, 3) := by decide +kernel
theorem dX8_faultOfStrings_4 : decode cX8_faultOfStrings 4 = .ok (.getfield 96, 3) := by decide +kernel
theorem dX8_faultOfStrings_7 : decode cX8_faultOfStrings 7 = .ok (.bipush 35, 2) := by decide +kernel
theorem dX8_faultOfStrings_9 : decode cX8_faultOfStrings 9 = .ok (.invokestatic 310, 3) := by decide +kernel
theorem dX8_faultOfStrings_12 : decode cX8_faultOfStrings 12 = .ok (.istore_n 1, 1) := by decide +kernel
theorem dX8_faultOfStrings_13 : decode cX8_faultOfStrings 13 = .ok (.iconst 0, 1) := by decide +kernel
theorem dX8_faultOfStrings_14 : decode cX8_faultOfStrings 14 = .ok (.istore_n 2, 1) := by decide +kernel
theorem dX8_faultOfStrings_15 : decode cX8_faultOfStrings 15 = .ok (.iload_n 2, 1) := by decide +kernel
theorem dX8_faultOfStrings_16 : decode cX8_faultOfStrings 16 = .ok (.iload_n 1, 1) := by decide +kernel
theorem dX8_faultOfStrings_17 : decode cX8_faultOfStrings 17 = .ok (.if_icmp .ge 105, 3) := by decide +kernel
theorem dX8_faultOfStrings_20 : decode cX8_faultOfStrings 20 = .ok (.iload_n 2, 1) := by decide +kernel
theorem dX8_faultOfStrings_21 : decode cX8_faultOfStrings 21 = .ok (.iconst 3, 1) := by decide +kernel
theorem dX8_faultOfStrings_22 : decode cX8_faultOfStrings 22 = .ok (.irem, 1) := by decide +kernel
theorem dX8_faultOfStrings_23 : decode cX8_faultOfStrings 23 = .ok (.iconst 2, 1) := by decide +kernel
theorem dX8_faultOfStrings_24 : decode cX8_faultOfStrings 24 = .ok (.if_icmp .ne 25, 3) := by decide +kernel
theorem dX8_faultOfStrings_27 : decode cX8_faultOfStrings 27 = .ok (.aload_n 0, 1) := by decide +kernel
theorem dX8_faultOfStrings_28 : decode cX8_faultOfStrings 28 = .ok (.getfield 10, 3) := by decide +kernel
theorem dX8_faultOfStrings_31 : decode cX8_faultOfStrings 31 = .ok (.iload_n 2, 1) := by decide +kernel
theorem dX8_faultOfStrings_32 : decode cX8_faultOfStrings 32 = .ok (.invokevirtual 231, 3) := by decide +kernel
theorem dX8_faultOfStrings_35 : decode cX8_faultOfStrings 35 = .ok (.bipush 59, 2) := by decide +kernel
theorem dX8_faultOfStrings_37 : decode cX8_faultOfStrings 37 = .ok (.if_icmp .ne 7, 3) := by decide +kernel
theorem dX8_faultOfStrings_40 : decode cX8_faultOfStrings 40 = .ok (.iconst 1, 1) := by decide +kernel
theorem dX8_faultOfStrings_41 : decode cX8_faultOfStrings 41 = .ok (.goto 4, 3) := by decide +kernel
theorem dX8_faultOfStrings_44 : decode cX8_faultOfStrings 44 = .ok (.iconst 0, 1) := by decide +kernel
theorem dX8_faultOfStrings_45 : decode cX8_faultOfStrings 45 = .ok (.istore_n 3, 1) := by decide +kernel
theorem dX8_faultOfStrings_46 : decode cX8_faultOfStrings 46 = .ok (.goto 64, 3) := by decide +kernel
theorem dX8_faultOfStrings_49 : decode cX8_faultOfStrings 49 = .ok (.aload_n 0, 1) := by decide +kernel
theorem dX8_faultOfStrings_50 : decode cX8_faultOfStrings 50 = .ok (.getfield 10, 3) := by decide +kernel
theorem dX8_faultOfStrings_53 : decode cX8_faultOfStrings 53 = .ok (.iload_n 2, 1) := by decide +kernel
theorem dX8_faultOfStrings_54 : decode cX8_faultOfStrings 54 = .ok (.invokevirtual 100, 3) := by decide +kernel
theorem dX8_faultOfStrings_57 : decode cX8_faultOfStrings 57 = .ok (.istore 4, 2) := by decide +kernel
theorem dX8_faultOfStrings_59 : decode cX8_faultOfStrings 59 = .ok (.aload_n 0, 1) := by decide +kernel
theorem dX8_faultOfStrings_60 : decode cX8_faultOfStrings 60 = .ok (.getfield 26, 3) := by decide +kernel
theorem dX8_faultOfStrings_63 : decode cX8_faultOfStrings 63 = .ok (.iload 4, 2) := by decide +kernel
theorem dX8_faultOfStrings_65 : decode cX8_faultOfStrings 65 = .ok (.invokevirtual 138, 3) := by decide +kernel
theorem dX8_faultOfStrings_68 : decode cX8_faultOfStrings 68 = .ok (.ifCond .eq 40, 3) := by decide +kernel
theorem dX8_faultOfStrings_71 : decode cX8_faultOfStrings 71 = .ok (.aload_n 0, 1) := by decide +kernel
theorem dX8_faultOfStrings_72 : decode cX8_faultOfStrings 72 = .ok (.getfield 33, 3) := by decide +kernel
theorem dX8_faultOfStrings_75 : decode cX8_faultOfStrings 75 = .ok (.iload 4, 2) := by decide +kernel
theorem dX8_faultOfStrings_77 : decode cX8_faultOfStrings 77 = .ok (.invokevirtual 160, 3) := by decide +kernel
theorem dX8_faultOfStrings_80 : decode cX8_faultOfStrings 80 = .ok (.ifCond .ne 28, 3) := by decide +kernel
theorem dX8_faultOfStrings_83 : decode cX8_faultOfStrings 83 = .ok (.iload_n 2, 1) := by decide +kernel
theorem dX8_faultOfStrings_84 : decode cX8_faultOfStrings 84 = .ok (.iconst 3, 1) := by decide +kernel
theorem dX8_faultOfStrings_85 : decode cX8_faultOfStrings 85 = .ok (.irem, 1) := by decide +kernel
theorem dX8_faultOfStrings_86 : decode cX8_faultOfStrings 86 = .ok (.ifCond .eq 18, 3) := by decide +kernel
theorem dX8_faultOfStrings_89 : decode cX8_faultOfStrings 89 = .ok (.iload 4, 2) := by decide +kernel
theorem dX8_faultOfStrings_91 : decode cX8_faultOfStrings 91 = .ok (.aload_n 0, 1) := by decide +kernel
theorem dX8_faultOfStrings_92 : decode cX8_faultOfStrings 92 = .ok (.getfield 10, 3) := by decide +kernel
theorem dX8_faultOfStrings_95 : decode cX8_faultOfStrings 95 = .ok (.iload_n 2, 1) := by decide +kernel
theorem dX8_faultOfStrings_96 : decode cX8_faultOfStrings 96 = .ok (.iconst 1, 1) := by decide +kernel
theorem dX8_faultOfStrings_97 : decode cX8_faultOfStrings 97 = .ok (.isub, 1) := by decide +kernel
theorem dX8_faultOfStrings_98 : decode cX8_faultOfStrings 98 = .ok (.invokevirtual 100, 3) := by decide +kernel
theorem dX8_faultOfStrings_101 : decode cX8_faultOfStrings 101 = .ok (.if_icmp .eq 7, 3) := by decide +kernel
theorem dX8_faultOfStrings_104 : decode cX8_faultOfStrings 104 = .ok (.iconst 1, 1) := by decide +kernel
theorem dX8_faultOfStrings_105 : decode cX8_faultOfStrings 105 = .ok (.goto 4, 3) := by decide +kernel
theorem dX8_faultOfStrings_108 : decode cX8_faultOfStrings 108 = .ok (.iconst 0, 1) := by decide +kernel
theorem dX8_faultOfStrings_109 : decode cX8_faultOfStrings 109 = .ok (.istore_n 3, 1) := by decide +kernel
theorem dX8_faultOfStrings_110 : decode cX8_faultOfStrings 110 = .ok (.iload_n 3, 1) := by decide +kernel
theorem dX8_faultOfStrings_111 : decode cX8_faultOfStrings 111 = .ok (.ifCond .ne 5, 3) := by decide +kernel
theorem dX8_faultOfStrings_114 : decode cX8_faultOfStrings 114 = .ok (.iload_n 2, 1) := by decide +kernel
theorem dX8_faultOfStrings_115 : decode cX8_faultOfStrings 115 = .ok (.ireturn, 1) := by decide +kernel
theorem dX8_faultOfStrings_116 : decode cX8_faultOfStrings 116 = .ok (.iinc 2 1, 3) := by decide +kernel
theorem dX8_faultOfStrings_119 : decode cX8_faultOfStrings 119 = .ok (.goto (-104), 3) := by decide +kernel
theorem dX8_faultOfStrings_122 : decode cX8_faultOfStrings 122 = .ok (.aload_n 0, 1) := by decide +kernel
theorem dX8_faultOfStrings_123 : decode cX8_faultOfStrings 123 = .ok (.getfield 10, 3) := by decide +kernel
theorem dX8_faultOfStrings_126 : decode cX8_faultOfStrings 126 = .ok (.getfield 96, 3) := by decide +kernel
theorem dX8_faultOfStrings_129 : decode cX8_faultOfStrings 129 = .ok (.bipush 35, 2) := by decide +kernel
theorem dX8_faultOfStrings_131 : decode cX8_faultOfStrings 131 = .ok (.if_icmp .gt 14, 3) := by decide +kernel
theorem dX8_faultOfStrings_134 : decode cX8_faultOfStrings 134 = .ok (.iload_n 1, 1) := by decide +kernel
theorem dX8_faultOfStrings_135 : decode cX8_faultOfStrings 135 = .ok (.ifCond .le 12, 3) := by decide +kernel
theorem dX8_faultOfStrings_138 : decode cX8_faultOfStrings 138 = .ok (.iload_n 1, 1) := by decide +kernel
theorem dX8_faultOfStrings_139 : decode cX8_faultOfStrings 139 = .ok (.iconst 3, 1) := by decide +kernel
theorem dX8_faultOfStrings_140 : decode cX8_faultOfStrings 140 = .ok (.irem, 1) := by decide +kernel
theorem dX8_faultOfStrings_141 : decode cX8_faultOfStrings 141 = .ok (.iconst 2, 1) := by decide +kernel
theorem dX8_faultOfStrings_142 : decode cX8_faultOfStrings 142 = .ok (.if_icmp .eq 5, 3) := by decide +kernel
theorem dX8_faultOfStrings_145 : decode cX8_faultOfStrings 145 = .ok (.iload_n 1, 1) := by decide +kernel
theorem dX8_faultOfStrings_146 : decode cX8_faultOfStrings 146 = .ok (.ireturn, 1) := by decide +kernel
theorem dX8_faultOfStrings_147 : decode cX8_faultOfStrings 147 = .ok (.iconst (-1), 1) := by decide +kernel
theorem dX8_faultOfStrings_148 : decode cX8_faultOfStrings 148 = .ok (.ireturn, 1) := by decide +kernel
theorem dX8_faultOfWinds_0 : decode cX8_faultOfWinds 0 = .ok (.aload_n 0, 1) := by decide +kernel
theorem dX8_faultOfWinds_1 : decode cX8_faultOfWinds 1 = .ok (.getfield 10, 3) := by decide +kernel
theorem dX8_faultOfWinds_4 : decode cX8_faultOfWinds 4 = .ok (.getfield 96, 3) := by decide +kernel
theorem dX8_faultOfWinds_7 : decode cX8_faultOfWinds 7 = .ok (.bipush 20, 2) := by decide +kernel
theorem dX8_faultOfWinds_9 : decode cX8_faultOfWinds 9 = .ok (.invokestatic 310, 3) := by decide +kernel
theorem dX8_faultOfWinds_12 : decode cX8_faultOfWinds 12 = .ok (.istore_n 1, 1) := by decide +kernel
theorem dX8_faultOfWinds_13 : decode cX8_faultOfWinds 13 = .ok (.iconst 0, 1) := by decide +kernel
theorem dX8_faultOfWinds_14 : decode cX8_faultOfWinds 14 = .ok (.istore_n 2, 1) := by decide +kernel
theorem dX8_faultOfWinds_15 : decode cX8_faultOfWinds 15 = .ok (.iload_n 2, 1) := by decide +kernel
theorem dX8_faultOfWinds_16 : decode cX8_faultOfWinds 16 = .ok (.iload_n 1, 1) := by decide +kernel
theorem dX8_faultOfWinds_17 : decode cX8_faultOfWinds 17 = .ok (.if_icmp .ge 22, 3) := by decide +kernel
theorem dX8_faultOfWinds_20 : decode cX8_faultOfWinds 20 = .ok (.aload_n 0, 1) := by decide +kernel
theorem dX8_faultOfWinds_21 : decode cX8_faultOfWinds 21 = .ok (.getfield 10, 3) := by decide +kernel
theorem dX8_faultOfWinds_24 : decode cX8_faultOfWinds 24 = .ok (.iload_n 2, 1) := by decide +kernel
theorem dX8_faultOfWinds_25 : decode cX8_faultOfWinds 25 = .ok (.invokevirtual 100, 3) := by decide +kernel
theorem dX8_faultOfWinds_28 : decode cX8_faultOfWinds 28 = .ok (.ifCond .ge 5, 3) := by decide +kernel
theorem dX8_faultOfWinds_31 : decode cX8_faultOfWinds 31 = .ok (.iload_n 2, 1) := by decide +kernel
theorem dX8_faultOfWinds_32 : decode cX8_faultOfWinds 32 = .ok (.ireturn, 1) := by decide +kernel
theorem dX8_faultOfWinds_33 : decode cX8_faultOfWinds 33 = .ok (.iinc 2 1, 3) := by decide +kernel
theorem dX8_faultOfWinds_36 : decode cX8_faultOfWinds 36 = .ok (.goto (-21), 3) := by decide +kernel
theorem dX8_faultOfWinds_39 : decode cX8_faultOfWinds 39 = .ok (.aload_n 0, 1) := by decide +kernel
theorem dX8_faultOfWinds_40 : decode cX8_faultOfWinds 40 = .ok (.getfield 10, 3) := by decide +kernel
theorem dX8_faultOfWinds_43 : decode cX8_faultOfWinds 43 = .ok (.getfield 96, 3) := by decide +kernel
theorem dX8_faultOfWinds_46 : decode cX8_faultOfWinds 46 = .ok (.bipush 20, 2) := by decide +kernel
theorem dX8_faultOfWinds_48 : decode cX8_faultOfWinds 48 = .ok (.if_icmp .gt 7, 3) := by decide +kernel
theorem dX8_faultOfWinds_51 : decode cX8_faultOfWinds 51 = .ok (.iload_n 1, 1) := by decide +kernel
theorem dX8_faultOfWinds_52 : decode cX8_faultOfWinds 52 = .ok (.ifCond .ne 7, 3) := by decide +kernel
theorem dX8_faultOfWinds_55 : decode cX8_faultOfWinds 55 = .ok (.iload_n 1, 1) := by decide +kernel
theorem dX8_faultOfWinds_56 : decode cX8_faultOfWinds 56 = .ok (.goto 4, 3) := by decide +kernel
theorem dX8_faultOfWinds_59 : decode cX8_faultOfWinds 59 = .ok (.iconst (-1), 1) := by decide +kernel
theorem dX8_faultOfWinds_60 : decode cX8_faultOfWinds 60 = .ok (.ireturn, 1) := by decide +kernel
theorem dX8_faultOfNight_0 : decode cX8_faultOfNight 0 = .ok (.aload_n 0, 1) := by decide +kernel
theorem dX8_faultOfNight_1 : decode cX8_faultOfNight 1 = .ok (.getfield 10, 3) := by decide +kernel
theorem dX8_faultOfNight_4 : decode cX8_faultOfNight 4 = .ok (.getfield 96, 3) := by decide +kernel
theorem dX8_faultOfNight_7 : decode cX8_faultOfNight 7 = .ok (.bipush 60, 2) := by decide +kernel
theorem dX8_faultOfNight_9 : decode cX8_faultOfNight 9 = .ok (.invokestatic 310, 3) := by decide +kernel
theorem dX8_faultOfNight_12 : decode cX8_faultOfNight 12 = .ok (.istore_n 1, 1) := by decide +kernel
theorem dX8_faultOfNight_13 : decode cX8_faultOfNight 13 = .ok (.iconst 0, 1) := by decide +kernel
theorem dX8_faultOfNight_14 : decode cX8_faultOfNight 14 = .ok (.istore_n 2, 1) := by decide +kernel
theorem dX8_faultOfNight_15 : decode cX8_faultOfNight 15 = .ok (.iconst 0, 1) := by decide +kernel
theorem dX8_faultOfNight_16 : decode cX8_faultOfNight 16 = .ok (.istore_n 3, 1) := by decide +kernel
theorem dX8_faultOfNight_17 : decode cX8_faultOfNight 17 = .ok (.iconst 0, 1) := by decide +kernel
theorem dX8_faultOfNight_18 : decode cX8_faultOfNight 18 = .ok (.istore 4, 2) := by decide +kernel
theorem dX8_faultOfNight_20 : decode cX8_faultOfNight 20 = .ok (.iload 4, 2) := by decide +kernel
theorem dX8_faultOfNight_22 : decode cX8_faultOfNight 22 = .ok (.iload_n 1, 1) := by decide +kernel
theorem dX8_faultOfNight_23 : decode cX8_faultOfNight 23 = .ok (.if_icmp .ge 86, 3) := by decide +kernel
theorem dX8_faultOfNight_26 : decode cX8_faultOfNight 26 = .ok (.iload_n 3, 1) := by decide +kernel
theorem dX8_faultOfNight_27 : decode cX8_faultOfNight 27 = .ok (.ifCond .ne 25, 3) := by decide +kernel
theorem dX8_faultOfNight_30 : decode cX8_faultOfNight 30 = .ok (.aload_n 0, 1) := by decide +kernel
theorem dX8_faultOfNight_31 : decode cX8_faultOfNight 31 = .ok (.getfield 10, 3) := by decide +kernel
theorem dX8_faultOfNight_34 : decode cX8_faultOfNight 34 = .ok (.iload 4, 2) := by decide +kernel
theorem dX8_faultOfNight_36 : decode cX8_faultOfNight 36 = .ok (.invokevirtual 231, 3) := by decide +kernel
theorem dX8_faultOfNight_39 : decode cX8_faultOfNight 39 = .ok (.istore_n 2, 1) := by decide +kernel
theorem dX8_faultOfNight_40 : decode cX8_faultOfNight 40 = .ok (.iload_n 2, 1) := by decide +kernel
theorem dX8_faultOfNight_41 : decode cX8_faultOfNight 41 = .ok (.invokestatic 235, 3) := by decide +kernel
theorem dX8_faultOfNight_44 : decode cX8_faultOfNight 44 = .ok (.istore_n 3, 1) := by decide +kernel
theorem dX8_faultOfNight_45 : decode cX8_faultOfNight 45 = .ok (.iload_n 3, 1) := by decide +kernel
theorem dX8_faultOfNight_46 : decode cX8_faultOfNight 46 = .ok (.ifCond .ne 57, 3) := by decide +kernel
theorem dX8_faultOfNight_49 : decode cX8_faultOfNight 49 = .ok (.iload 4, 2) := by decide +kernel
theorem dX8_faultOfNight_51 : decode cX8_faultOfNight 51 = .ok (.ireturn, 1) := by decide +kernel
theorem dX8_faultOfNight_52 : decode cX8_faultOfNight 52 = .ok (.iinc 3 (-1), 3) := by decide +kernel
theorem dX8_faultOfNight_55 : decode cX8_faultOfNight 55 = .ok (.iload_n 3, 1) := by decide +kernel
theorem dX8_faultOfNight_56 : decode cX8_faultOfNight 56 = .ok (.ifCond .ne 19, 3) := by decide +kernel
theorem dX8_faultOfNight_59 : decode cX8_faultOfNight 59 = .ok (.iload_n 2, 1) := by decide +kernel
theorem dX8_faultOfNight_60 : decode cX8_faultOfNight 60 = .ok (.bipush 108, 2) := by decide +kernel
theorem dX8_faultOfNight_62 : decode cX8_faultOfNight 62 = .ok (.if_icmp .eq 9, 3) := by decide +kernel
theorem dX8_faultOfNight_65 : decode cX8_faultOfNight 65 = .ok (.iload_n 2, 1) := by decide +kernel
theorem dX8_faultOfNight_66 : decode cX8_faultOfNight 66 = .ok (.bipush 103, 2) := by decide +kernel
theorem dX8_faultOfNight_68 : decode cX8_faultOfNight 68 = .ok (.if_icmp .ne 7, 3) := by decide +kernel
theorem dX8_faultOfNight_71 : decode cX8_faultOfNight 71 = .ok (.iconst 1, 1) := by decide +kernel
theorem dX8_faultOfNight_72 : decode cX8_faultOfNight 72 = .ok (.goto 4, 3) := by decide +kernel
theorem dX8_faultOfNight_75 : decode cX8_faultOfNight 75 = .ok (.iconst 0, 1) := by decide +kernel
theorem dX8_faultOfNight_76 : decode cX8_faultOfNight 76 = .ok (.istore 5, 2) := by decide +kernel
theorem dX8_faultOfNight_78 : decode cX8_faultOfNight 78 = .ok (.aload_n 0, 1) := by decide +kernel
theorem dX8_faultOfNight_79 : decode cX8_faultOfNight 79 = .ok (.getfield 10, 3) := by decide +kernel
theorem dX8_faultOfNight_82 : decode cX8_faultOfNight 82 = .ok (.iload 4, 2) := by decide +kernel
theorem dX8_faultOfNight_84 : decode cX8_faultOfNight 84 = .ok (.invokevirtual 100, 3) := by decide +kernel
theorem dX8_faultOfNight_87 : decode cX8_faultOfNight 87 = .ok (.iload 5, 2) := by decide +kernel
theorem dX8_faultOfNight_89 : decode cX8_faultOfNight 89 = .ok (.ifCond .eq 7, 3) := by decide +kernel
theorem dX8_faultOfNight_92 : decode cX8_faultOfNight 92 = .ok (.iconst 1, 1) := by decide +kernel
theorem dX8_faultOfNight_93 : decode cX8_faultOfNight 93 = .ok (.goto 4, 3) := by decide +kernel
theorem dX8_faultOfNight_96 : decode cX8_faultOfNight 96 = .ok (.iconst 0, 1) := by decide +kernel
theorem dX8_faultOfNight_97 : decode cX8_faultOfNight 97 = .ok (.if_icmp .ge 6, 3) := by decide +kernel
theorem dX8_faultOfNight_100 : decode cX8_faultOfNight 100 = .ok (.iload 4, 2) := by decide +kernel
theorem dX8_faultOfNight_102 : decode cX8_faultOfNight 102 = .ok (.ireturn, 1) := by decide +kernel
theorem dX8_faultOfNight_103 : decode cX8_faultOfNight 103 = .ok (.iinc 4 1, 3) := by decide +kernel
theorem dX8_faultOfNight_106 : decode cX8_faultOfNight 106 = .ok (.goto (-86), 3) := by decide +kernel
theorem dX8_faultOfNight_109 : decode cX8_faultOfNight 109 = .ok (.aload_n 0, 1) := by decide +kernel
theorem dX8_faultOfNight_110 : decode cX8_faultOfNight 110 = .ok (.getfield 10, 3) := by decide +kernel
theorem dX8_faultOfNight_113 : decode cX8_faultOfNight 113 = .ok (.getfield 96, 3) := by decide +kernel
theorem dX8_faultOfNight_116 : decode cX8_faultOfNight 116 = .ok (.bipush 60, 2) := by decide +kernel
theorem dX8_faultOfNight_118 : decode cX8_faultOfNight 118 = .ok (.if_icmp .gt 7, 3) := by decide +kernel
theorem dX8_faultOfNight_121 : decode cX8_faultOfNight 121 = .ok (.iload_n 3, 1) := by decide +kernel
theorem dX8_faultOfNight_122 : decode cX8_faultOfNight 122 = .ok (.ifCond .le 7, 3) := by decide +kernel
theorem dX8_faultOfNight_125 : decode cX8_faultOfNight 125 = .ok (.iload_n 1, 1) := by decide +kernel
theorem dX8_faultOfNight_126 : decode cX8_faultOfNight 126 = .ok (.goto 4, 3) := by decide +kernel
theorem dX8_faultOfNight_129 : decode cX8_faultOfNight 129 = .ok (.iconst (-1), 1) := by decide +kernel
theorem dX8_faultOfNight_130 : decode cX8_faultOfNight 130 = .ok (.ireturn, 1) := by decide +kernel
theorem dX8_faultOfRequests_0 : decode cX8_faultOfRequests 0 = .ok (.iconst 0, 1) := by decide +kernel
theorem dX8_faultOfRequests_1 : decode cX8_faultOfRequests 1 = .ok (.istore_n 1, 1) := by decide +kernel
theorem dX8_faultOfRequests_2 : decode cX8_faultOfRequests 2 = .ok (.iload_n 1, 1) := by decide +kernel
theorem dX8_faultOfRequests_3 : decode cX8_faultOfRequests 3 = .ok (.aload_n 0, 1) := by decide +kernel
theorem dX8_faultOfRequests_4 : decode cX8_faultOfRequests 4 = .ok (.getfield 10, 3) := by decide +kernel
theorem dX8_faultOfRequests_7 : decode cX8_faultOfRequests 7 = .ok (.getfield 96, 3) := by decide +kernel
theorem dX8_faultOfRequests_10 : decode cX8_faultOfRequests 10 = .ok (.if_icmp .ge 19, 3) := by decide +kernel
theorem dX8_faultOfRequests_13 : decode cX8_faultOfRequests 13 = .ok (.aload_n 0, 1) := by decide +kernel
theorem dX8_faultOfRequests_14 : decode cX8_faultOfRequests 14 = .ok (.iload_n 1, 1) := by decide +kernel
theorem dX8_faultOfRequests_15 : decode cX8_faultOfRequests 15 = .ok (.invokevirtual 421, 3) := by decide +kernel
theorem dX8_faultOfRequests_18 : decode cX8_faultOfRequests 18 = .ok (.ifCond .ne 5, 3) := by decide +kernel
theorem dX8_faultOfRequests_21 : decode cX8_faultOfRequests 21 = .ok (.iload_n 1, 1) := by decide +kernel
theorem dX8_faultOfRequests_22 : decode cX8_faultOfRequests 22 = .ok (.ireturn, 1) := by decide +kernel
theorem dX8_faultOfRequests_23 : decode cX8_faultOfRequests 23 = .ok (.iinc 1 1, 3) := by decide +kernel
theorem dX8_faultOfRequests_26 : decode cX8_faultOfRequests 26 = .ok (.goto (-24), 3) := by decide +kernel
theorem dX8_faultOfRequests_29 : decode cX8_faultOfRequests 29 = .ok (.aload_n 0, 1) := by decide +kernel
theorem dX8_faultOfRequests_30 : decode cX8_faultOfRequests 30 = .ok (.getfield 10, 3) := by decide +kernel
theorem dX8_faultOfRequests_33 : decode cX8_faultOfRequests 33 = .ok (.getfield 96, 3) := by decide +kernel
theorem dX8_faultOfRequests_36 : decode cX8_faultOfRequests 36 = .ok (.iconst 5, 1) := by decide +kernel
theorem dX8_faultOfRequests_37 : decode cX8_faultOfRequests 37 = .ok (.irem, 1) := by decide +kernel
theorem dX8_faultOfRequests_38 : decode cX8_faultOfRequests 38 = .ok (.iconst 4, 1) := by decide +kernel
theorem dX8_faultOfRequests_39 : decode cX8_faultOfRequests 39 = .ok (.if_icmp .eq 13, 3) := by decide +kernel
theorem dX8_faultOfRequests_42 : decode cX8_faultOfRequests 42 = .ok (.aload_n 0, 1) := by decide +kernel
theorem dX8_faultOfRequests_43 : decode cX8_faultOfRequests 43 = .ok (.getfield 10, 3) := by decide +kernel
theorem dX8_faultOfRequests_46 : decode cX8_faultOfRequests 46 = .ok (.getfield 96, 3) := by decide +kernel
theorem dX8_faultOfRequests_49 : decode cX8_faultOfRequests 49 = .ok (.goto 4, 3) := by decide +kernel
theorem dX8_faultOfRequests_52 : decode cX8_faultOfRequests 52 = .ok (.iconst (-1), 1) := by decide +kernel
theorem dX8_faultOfRequests_53 : decode cX8_faultOfRequests 53 = .ok (.ireturn, 1) := by decide +kernel
theorem dX8_canStandInRequest_0 : decode cX8_canStandInRequest 0 = .ok (.iload_n 1, 1) := by decide +kernel
theorem dX8_canStandInRequest_1 : decode cX8_canStandInRequest 1 = .ok (.iconst 5, 1) := by decide +kernel
theorem dX8_canStandInRequest_2 : decode cX8_canStandInRequest 2 = .ok (.idiv, 1) := by decide +kernel
theorem dX8_canStandInRequest_3 : decode cX8_canStandInRequest 3 = .ok (.bipush 8, 2) := by decide +kernel
theorem dX8_canStandInRequest_5 : decode cX8_canStandInRequest 5 = .ok (.if_icmp .lt 5, 3) := by decide +kernel
theorem dX8_canStandInRequest_8 : decode cX8_canStandInRequest 8 = .ok (.iconst 0, 1) := by decide +kernel
theorem dX8_canStandInRequest_9 : decode cX8_canStandInRequest 9 = .ok (.ireturn, 1) := by decide +kernel
theorem dX8_canStandInRequest_10 : decode cX8_canStandInRequest 10 = .ok (.iload_n 1, 1) := by decide +kernel
theorem dX8_canStandInRequest_11 : decode cX8_canStandInRequest 11 = .ok (.iconst 5, 1) := by decide +kernel
theorem dX8_canStandInRequest_12 : decode cX8_canStandInRequest 12 = .ok (.irem, 1) := by decide +kernel
theorem dX8_canStandInRequest_13 : decode cX8_canStandInRequest 13 = .ok (.tableswitch 94 1 4 #[31, 58, 94, 75], 31) := by decide +kernel
theorem dX8_canStandInRequest_44 : decode cX8_canStandInRequest 44 = .ok (.aload_n 0, 1) := by decide +kernel
theorem dX8_canStandInRequest_45 : decode cX8_canStandInRequest 45 = .ok (.getfield 10, 3) := by decide +kernel
theorem dX8_canStandInRequest_48 : decode cX8_canStandInRequest 48 = .ok (.iload_n 1, 1) := by decide +kernel
theorem dX8_canStandInRequest_49 : decode cX8_canStandInRequest 49 = .ok (.invokevirtual 100, 3) := by decide +kernel
theorem dX8_canStandInRequest_52 : decode cX8_canStandInRequest 52 = .ok (.aload_n 0, 1) := by decide +kernel
theorem dX8_canStandInRequest_53 : decode cX8_canStandInRequest 53 = .ok (.getfield 10, 3) := by decide +kernel
theorem dX8_canStandInRequest_56 : decode cX8_canStandInRequest 56 = .ok (.iload_n 1, 1) := by decide +kernel
theorem dX8_canStandInRequest_57 : decode cX8_canStandInRequest 57 = .ok (.iconst 1, 1) := by decide +kernel
theorem dX8_canStandInRequest_58 : decode cX8_canStandInRequest 58 = .ok (.isub, 1) := by decide +kernel
theorem dX8_canStandInRequest_59 : decode cX8_canStandInRequest 59 = .ok (.invokevirtual 100, 3) := by decide +kernel
theorem dX8_canStandInRequest_62 : decode cX8_canStandInRequest 62 = .ok (.if_icmp .lt 7, 3) := by decide +kernel
theorem dX8_canStandInRequest_65 : decode cX8_canStandInRequest 65 = .ok (.iconst 1, 1) := by decide +kernel
theorem dX8_canStandInRequest_66 : decode cX8_canStandInRequest 66 = .ok (.goto 4, 3) := by decide +kernel
theorem dX8_canStandInRequest_69 : decode cX8_canStandInRequest 69 = .ok (.iconst 0, 1) := by decide +kernel
theorem dX8_canStandInRequest_70 : decode cX8_canStandInRequest 70 = .ok (.ireturn, 1) := by decide +kernel
theorem dX8_canStandInRequest_71 : decode cX8_canStandInRequest 71 = .ok (.aload_n 0, 1) := by decide +kernel
theorem dX8_canStandInRequest_72 : decode cX8_canStandInRequest 72 = .ok (.getfield 10, 3) := by decide +kernel
theorem dX8_canStandInRequest_75 : decode cX8_canStandInRequest 75 = .ok (.iload_n 1, 1) := by decide +kernel
theorem dX8_canStandInRequest_76 : decode cX8_canStandInRequest 76 = .ok (.invokevirtual 100, 3) := by decide +kernel
theorem dX8_canStandInRequest_79 : decode cX8_canStandInRequest 79 = .ok (.ifCond .le 7, 3) := by decide +kernel
theorem dX8_canStandInRequest_82 : decode cX8_canStandInRequest 82 = .ok (.iconst 1, 1) := by decide +kernel
theorem dX8_canStandInRequest_83 : decode cX8_canStandInRequest 83 = .ok (.goto 4, 3) := by decide +kernel
theorem dX8_canStandInRequest_86 : decode cX8_canStandInRequest 86 = .ok (.iconst 0, 1) := by decide +kernel
theorem dX8_canStandInRequest_87 : decode cX8_canStandInRequest 87 = .ok (.ireturn, 1) := by decide +kernel
theorem dX8_canStandInRequest_88 : decode cX8_canStandInRequest 88 = .ok (.aload_n 0, 1) := by decide +kernel
theorem dX8_canStandInRequest_89 : decode cX8_canStandInRequest 89 = .ok (.getfield 10, 3) := by decide +kernel
theorem dX8_canStandInRequest_92 : decode cX8_canStandInRequest 92 = .ok (.iload_n 1, 1) := by decide +kernel
theorem dX8_canStandInRequest_93 : decode cX8_canStandInRequest 93 = .ok (.invokevirtual 231, 3) := by decide +kernel
theorem dX8_canStandInRequest_96 : decode cX8_canStandInRequest 96 = .ok (.bipush 59, 2) := by decide +kernel
theorem dX8_canStandInRequest_98 : decode cX8_canStandInRequest 98 = .ok (.if_icmp .ne 7, 3) := by decide +kernel
theorem dX8_canStandInRequest_101 : decode cX8_canStandInRequest 101 = .ok (.iconst 1, 1) := by decide +kernel
theorem dX8_canStandInRequest_102 : decode cX8_canStandInRequest 102 = .ok (.goto 4, 3) := by decide +kernel
theorem dX8_canStandInRequest_105 : decode cX8_canStandInRequest 105 = .ok (.iconst 0, 1) := by decide +kernel
theorem dX8_canStandInRequest_106 : decode cX8_canStandInRequest 106 = .ok (.ireturn, 1) := by decide +kernel
theorem dX8_canStandInRequest_107 : decode cX8_canStandInRequest 107 = .ok (.aload_n 0, 1) := by decide +kernel
theorem dX8_canStandInRequest_108 : decode cX8_canStandInRequest 108 = .ok (.getfield 10, 3) := by decide +kernel
theorem dX8_canStandInRequest_111 : decode cX8_canStandInRequest 111 = .ok (.iload_n 1, 1) := by decide +kernel
theorem dX8_canStandInRequest_112 : decode cX8_canStandInRequest 112 = .ok (.invokevirtual 100, 3) := by decide +kernel
theorem dX8_canStandInRequest_115 : decode cX8_canStandInRequest 115 = .ok (.ifCond .lt 7, 3) := by decide +kernel
theorem dX8_canStandInRequest_118 : decode cX8_canStandInRequest 118 = .ok (.iconst 1, 1) := by decide +kernel
theorem dX8_canStandInRequest_119 : decode cX8_canStandInRequest 119 = .ok (.goto 4, 3) := by decide +kernel
theorem dX8_canStandInRequest_122 : decode cX8_canStandInRequest 122 = .ok (.iconst 0, 1) := by decide +kernel
theorem dX8_canStandInRequest_123 : decode cX8_canStandInRequest 123 = .ok (.ireturn, 1) := by decide +kernel
theorem dX8_readDraft_0 : decode cX8_readDraft 0 = .ok (.aload_n 0, 1) := by decide +kernel
theorem dX8_readDraft_1 : decode cX8_readDraft 1 = .ok (.getfield 10, 3) := by decide +kernel
theorem dX8_readDraft_4 : decode cX8_readDraft 4 = .ok (.getfield 96, 3) := by decide +kernel
theorem dX8_readDraft_7 : decode cX8_readDraft 7 = .ok (.ifCond .ne 23, 3) := by decide +kernel
theorem dX8_readDraft_10 : decode cX8_readDraft 10 = .ok (.aload_n 0, 1) := by decide +kernel
theorem dX8_readDraft_11 : decode cX8_readDraft 11 = .ok (.getfield 26, 3) := by decide +kernel
theorem dX8_readDraft_14 : decode cX8_readDraft 14 = .ok (.getfield 383, 3) := by decide +kernel
theorem dX8_readDraft_17 : decode cX8_readDraft 17 = .ok (.getstatic 424, 3) := by decide +kernel
theorem dX8_readDraft_20 : decode cX8_readDraft 20 = .ok (.getstatic 424, 3) := by decide +kernel
theorem dX8_readDraft_23 : decode cX8_readDraft 23 = .ok (.arraylength, 1) := by decide +kernel
theorem dX8_readDraft_24 : decode cX8_readDraft 24 = .ok (.invokevirtual 428, 3) := by decide +kernel
theorem dX8_readDraft_27 : decode cX8_readDraft 27 = .ok (.goto 27, 3) := by decide +kernel
theorem dX8_readDraft_30 : decode cX8_readDraft 30 = .ok (.aload_n 0, 1) := by decide +kernel
theorem dX8_readDraft_31 : decode cX8_readDraft 31 = .ok (.getfield 26, 3) := by decide +kernel
theorem dX8_readDraft_34 : decode cX8_readDraft 34 = .ok (.getfield 383, 3) := by decide +kernel
theorem dX8_readDraft_37 : decode cX8_readDraft 37 = .ok (.aload_n 0, 1) := by decide +kernel
theorem dX8_readDraft_38 : decode cX8_readDraft 38 = .ok (.getfield 10, 3) := by decide +kernel
theorem dX8_readDraft_41 : decode cX8_readDraft 41 = .ok (.getfield 434, 3) := by decide +kernel
theorem dX8_readDraft_44 : decode cX8_readDraft 44 = .ok (.aload_n 0, 1) := by decide +kernel
theorem dX8_readDraft_45 : decode cX8_readDraft 45 = .ok (.getfield 10, 3) := by decide +kernel
theorem dX8_readDraft_48 : decode cX8_readDraft 48 = .ok (.getfield 96, 3) := by decide +kernel
theorem dX8_readDraft_51 : decode cX8_readDraft 51 = .ok (.invokevirtual 428, 3) := by decide +kernel
theorem dX8_readDraft_54 : decode cX8_readDraft 54 = .ok (.istore_n 1, 1) := by decide +kernel
theorem dX8_readDraft_55 : decode cX8_readDraft 55 = .ok (.aload_n 0, 1) := by decide +kernel
theorem dX8_readDraft_56 : decode cX8_readDraft 56 = .ok (.getfield 10, 3) := by decide +kernel
theorem dX8_readDraft_59 : decode cX8_readDraft 59 = .ok (.invokevirtual 111, 3) := by decide +kernel
theorem dX8_readDraft_62 : decode cX8_readDraft 62 = .ok (.iload_n 1, 1) := by decide +kernel
theorem dX8_readDraft_63 : decode cX8_readDraft 63 = .ok (.ireturn, 1) := by decide +kernel
theorem dX8_tieTold_0 : decode cX8_tieTold 0 = .ok (.iconst 0, 1) := by decide +kernel
theorem dX8_tieTold_1 : decode cX8_tieTold 1 = .ok (.istore_n 1, 1) := by decide +kernel
theorem dX8_tieTold_2 : decode cX8_tieTold 2 = .ok (.iconst 0, 1) := by decide +kernel
theorem dX8_tieTold_3 : decode cX8_tieTold 3 = .ok (.istore_n 2, 1) := by decide +kernel
theorem dX8_tieTold_4 : decode cX8_tieTold 4 = .ok (.iload_n 2, 1) := by decide +kernel
theorem dX8_tieTold_5 : decode cX8_tieTold 5 = .ok (.iconst 1, 1) := by decide +kernel
theorem dX8_tieTold_6 : decode cX8_tieTold 6 = .ok (.iadd, 1) := by decide +kernel
theorem dX8_tieTold_7 : decode cX8_tieTold 7 = .ok (.aload_n 0, 1) := by decide +kernel
theorem dX8_tieTold_8 : decode cX8_tieTold 8 = .ok (.getfield 10, 3) := by decide +kernel
theorem dX8_tieTold_11 : decode cX8_tieTold 11 = .ok (.getfield 96, 3) := by decide +kernel
theorem dX8_tieTold_14 : decode cX8_tieTold 14 = .ok (.if_icmp .ge 79, 3) := by decide +kernel
theorem dX8_tieTold_17 : decode cX8_tieTold 17 = .ok (.aload_n 0, 1) := by decide +kernel
theorem dX8_tieTold_18 : decode cX8_tieTold 18 = .ok (.getfield 10, 3) := by decide +kernel
theorem dX8_tieTold_21 : decode cX8_tieTold 21 = .ok (.iload_n 2, 1) := by decide +kernel
theorem dX8_tieTold_22 : decode cX8_tieTold 22 = .ok (.invokevirtual 100, 3) := by decide +kernel
theorem dX8_tieTold_25 : decode cX8_tieTold 25 = .ok (.istore_n 3, 1) := by decide +kernel
theorem dX8_tieTold_26 : decode cX8_tieTold 26 = .ok (.aload_n 0, 1) := by decide +kernel
theorem dX8_tieTold_27 : decode cX8_tieTold 27 = .ok (.getfield 10, 3) := by decide +kernel
theorem dX8_tieTold_30 : decode cX8_tieTold 30 = .ok (.iload_n 2, 1) := by decide +kernel
theorem dX8_tieTold_31 : decode cX8_tieTold 31 = .ok (.iconst 1, 1) := by decide +kernel
theorem dX8_tieTold_32 : decode cX8_tieTold 32 = .ok (.iadd, 1) := by decide +kernel
theorem dX8_tieTold_33 : decode cX8_tieTold 33 = .ok (.invokevirtual 100, 3) := by decide +kernel
theorem dX8_tieTold_36 : decode cX8_tieTold 36 = .ok (.istore 4, 2) := by decide +kernel
theorem dX8_tieTold_38 : decode cX8_tieTold 38 = .ok (.aload_n 0, 1) := by decide +kernel
theorem dX8_tieTold_39 : decode cX8_tieTold 39 = .ok (.getfield 26, 3) := by decide +kernel
theorem dX8_tieTold_42 : decode cX8_tieTold 42 = .ok (.iload_n 3, 1) := by decide +kernel
theorem dX8_tieTold_43 : decode cX8_tieTold 43 = .ok (.invokevirtual 138, 3) := by decide +kernel
theorem dX8_tieTold_46 : decode cX8_tieTold 46 = .ok (.ifCond .eq 41, 3) := by decide +kernel
theorem dX8_tieTold_49 : decode cX8_tieTold 49 = .ok (.aload_n 0, 1) := by decide +kernel
theorem dX8_tieTold_50 : decode cX8_tieTold 50 = .ok (.getfield 26, 3) := by decide +kernel
theorem dX8_tieTold_53 : decode cX8_tieTold 53 = .ok (.iload 4, 2) := by decide +kernel
theorem dX8_tieTold_55 : decode cX8_tieTold 55 = .ok (.invokevirtual 138, 3) := by decide +kernel
theorem dX8_tieTold_58 : decode cX8_tieTold 58 = .ok (.ifCond .eq 29, 3) := by decide +kernel
theorem dX8_tieTold_61 : decode cX8_tieTold 61 = .ok (.aload_n 0, 1) := by decide +kernel
theorem dX8_tieTold_62 : decode cX8_tieTold 62 = .ok (.getfield 33, 3) := by decide +kernel
theorem dX8_tieTold_65 : decode cX8_tieTold 65 = .ok (.iload_n 3, 1) := by decide +kernel
theorem dX8_tieTold_66 : decode cX8_tieTold 66 = .ok (.iload 4, 2) := by decide +kernel
theorem dX8_tieTold_68 : decode cX8_tieTold 68 = .ok (.invokevirtual 292, 3) := by decide +kernel
theorem dX8_tieTold_71 : decode cX8_tieTold 71 = .ok (.ifCond .ne 16, 3) := by decide +kernel
theorem dX8_tieTold_74 : decode cX8_tieTold 74 = .ok (.aload_n 0, 1) := by decide +kernel
theorem dX8_tieTold_75 : decode cX8_tieTold 75 = .ok (.getfield 33, 3) := by decide +kernel
theorem dX8_tieTold_78 : decode cX8_tieTold 78 = .ok (.iload_n 3, 1) := by decide +kernel
theorem dX8_tieTold_79 : decode cX8_tieTold 79 = .ok (.iload 4, 2) := by decide +kernel
theorem dX8_tieTold_81 : decode cX8_tieTold 81 = .ok (.invokevirtual 437, 3) := by decide +kernel
theorem dX8_tieTold_84 : decode cX8_tieTold 84 = .ok (.iinc 1 1, 3) := by decide +kernel
theorem dX8_tieTold_87 : decode cX8_tieTold 87 = .ok (.iinc 2 3, 3) := by decide +kernel
theorem dX8_tieTold_90 : decode cX8_tieTold 90 = .ok (.goto (-86), 3) := by decide +kernel
theorem dX8_tieTold_93 : decode cX8_tieTold 93 = .ok (.iload_n 1, 1) := by decide +kernel
theorem dX8_tieTold_94 : decode cX8_tieTold 94 = .ok (.ireturn, 1) := by decide +kernel
theorem dX8_digitsBehind_0 : decode cX8_digitsBehind 0 = .ok (.iload_n 0, 1) := by decide +kernel
theorem dX8_digitsBehind_1 : decode cX8_digitsBehind 1 = .ok (.tableswitch 75 103 116 #[73, 75, 75, 75, 75, 73, 75, 71, 75, 71, 75, 75, 75, 73], 71) := by decide +kernel
theorem dX8_digitsBehind_72 : decode cX8_digitsBehind 72 = .ok (.iconst 1, 1) := by decide +kernel
theorem dX8_digitsBehind_73 : decode cX8_digitsBehind 73 = .ok (.ireturn, 1) := by decide +kernel
theorem dX8_digitsBehind_74 : decode cX8_digitsBehind 74 = .ok (.iconst 2, 1) := by decide +kernel
theorem dX8_digitsBehind_75 : decode cX8_digitsBehind 75 = .ok (.ireturn, 1) := by decide +kernel
theorem dX8_digitsBehind_76 : decode cX8_digitsBehind 76 = .ok (.iconst 0, 1) := by decide +kernel
theorem dX8_digitsBehind_77 : decode cX8_digitsBehind 77 = .ok (.ireturn, 1) := by decide +kernel
theorem dX8_act_0 : decode cX8_act 0 = .ok (.aload_n 0, 1) := by decide +kernel
theorem dX8_act_1 : decode cX8_act 1 = .ok (.getfield 10, 3) := by decide +kernel
theorem dX8_act_4 : decode cX8_act 4 = .ok (.iload_n 1, 1) := by decide +kernel
theorem dX8_act_5 : decode cX8_act 5 = .ok (.iconst 1, 1) := by decide +kernel
theorem dX8_act_6 : decode cX8_act 6 = .ok (.iadd, 1) := by decide +kernel
theorem dX8_act_7 : decode cX8_act 7 = .ok (.invokevirtual 100, 3) := by decide +kernel
theorem dX8_act_10 : decode cX8_act 10 = .ok (.istore_n 2, 1) := by decide +kernel
theorem dX8_act_11 : decode cX8_act 11 = .ok (.aload_n 0, 1) := by decide +kernel
theorem dX8_act_12 : decode cX8_act 12 = .ok (.getfield 10, 3) := by decide +kernel
theorem dX8_act_15 : decode cX8_act 15 = .ok (.iload_n 1, 1) := by decide +kernel
theorem dX8_act_16 : decode cX8_act 16 = .ok (.iconst 2, 1) := by decide +kernel
theorem dX8_act_17 : decode cX8_act 17 = .ok (.iadd, 1) := by decide +kernel
theorem dX8_act_18 : decode cX8_act 18 = .ok (.invokevirtual 100, 3) := by decide +kernel
theorem dX8_act_21 : decode cX8_act 21 = .ok (.istore_n 3, 1) := by decide +kernel
theorem dX8_act_22 : decode cX8_act 22 = .ok (.aload_n 0, 1) := by decide +kernel
theorem dX8_act_23 : decode cX8_act 23 = .ok (.getfield 10, 3) := by decide +kernel
theorem dX8_act_26 : decode cX8_act 26 = .ok (.iload_n 1, 1) := by decide +kernel
theorem dX8_act_27 : decode cX8_act 27 = .ok (.invokevirtual 231, 3) := by decide +kernel
theorem dX8_act_30 : decode cX8_act 30 = .ok (.lookupswitch 97 #[(103, 69), (108, 55), (110, 42), (116, 83)], 42) := by decide +kernel
theorem dX8_act_72 : decode cX8_act 72 = .ok (.aload_n 0, 1) := by decide +kernel
theorem dX8_act_73 : decode cX8_act 73 = .ok (.getfield 26, 3) := by decide +kernel
theorem dX8_act_76 : decode cX8_act 76 = .ok (.aload_n 0, 1) := by decide +kernel
theorem dX8_act_77 : decode cX8_act 77 = .ok (.getfield 33, 3) := by decide +kernel
theorem dX8_act_80 : decode cX8_act 80 = .ok (.iload_n 2, 1) := by decide +kernel
theorem dX8_act_81 : decode cX8_act 81 = .ok (.invokevirtual 194, 3) := by decide +kernel
theorem dX8_act_84 : decode cX8_act 84 = .ok (.ireturn, 1) := by decide +kernel
theorem dX8_act_85 : decode cX8_act 85 = .ok (.aload_n 0, 1) := by decide +kernel
theorem dX8_act_86 : decode cX8_act 86 = .ok (.getfield 26, 3) := by decide +kernel
theorem dX8_act_89 : decode cX8_act 89 = .ok (.aload_n 0, 1) := by decide +kernel
theorem dX8_act_90 : decode cX8_act 90 = .ok (.getfield 33, 3) := by decide +kernel
theorem dX8_act_93 : decode cX8_act 93 = .ok (.iload_n 2, 1) := by decide +kernel
theorem dX8_act_94 : decode cX8_act 94 = .ok (.iload_n 3, 1) := by decide +kernel
theorem dX8_act_95 : decode cX8_act 95 = .ok (.invokevirtual 206, 3) := by decide +kernel
theorem dX8_act_98 : decode cX8_act 98 = .ok (.ireturn, 1) := by decide +kernel
theorem dX8_act_99 : decode cX8_act 99 = .ok (.aload_n 0, 1) := by decide +kernel
theorem dX8_act_100 : decode cX8_act 100 = .ok (.getfield 26, 3) := by decide +kernel
theorem dX8_act_103 : decode cX8_act 103 = .ok (.aload_n 0, 1) := by decide +kernel
theorem dX8_act_104 : decode cX8_act 104 = .ok (.getfield 33, 3) := by decide +kernel
theorem dX8_act_107 : decode cX8_act 107 = .ok (.iload_n 2, 1) := by decide +kernel
theorem dX8_act_108 : decode cX8_act 108 = .ok (.iload_n 3, 1) := by decide +kernel
theorem dX8_act_109 : decode cX8_act 109 = .ok (.invokevirtual 213, 3) := by decide +kernel
theorem dX8_act_112 : decode cX8_act 112 = .ok (.ireturn, 1) := by decide +kernel
theorem dX8_act_113 : decode cX8_act 113 = .ok (.aload_n 0, 1) := by decide +kernel
theorem dX8_act_114 : decode cX8_act 114 = .ok (.getfield 26, 3) := by decide +kernel
theorem dX8_act_117 : decode cX8_act 117 = .ok (.aload_n 0, 1) := by decide +kernel
theorem dX8_act_118 : decode cX8_act 118 = .ok (.getfield 33, 3) := by decide +kernel
theorem dX8_act_121 : decode cX8_act 121 = .ok (.iload_n 2, 1) := by decide +kernel
theorem dX8_act_122 : decode cX8_act 122 = .ok (.iload_n 3, 1) := by decide +kernel
theorem dX8_act_123 : decode cX8_act 123 = .ok (.invokevirtual 216, 3) := by decide +kernel
theorem dX8_act_126 : decode cX8_act 126 = .ok (.ireturn, 1) := by decide +kernel
theorem dX8_act_127 : decode cX8_act 127 = .ok (.aload_n 0, 1) := by decide +kernel
theorem dX8_act_128 : decode cX8_act 128 = .ok (.getfield 26, 3) := by decide +kernel
theorem dX8_act_131 : decode cX8_act 131 = .ok (.aload_n 0, 1) := by decide +kernel
theorem dX8_act_132 : decode cX8_act 132 = .ok (.getfield 33, 3) := by decide +kernel
theorem dX8_act_135 : decode cX8_act 135 = .ok (.iload_n 2, 1) := by decide +kernel
theorem dX8_act_136 : decode cX8_act 136 = .ok (.invokevirtual 219, 3) := by decide +kernel
theorem dX8_act_139 : decode cX8_act 139 = .ok (.ireturn, 1) := by decide +kernel
theorem dX8_foresee_0 : decode cX8_foresee 0 = .ok (.aload_n 0, 1) := by decide +kernel
theorem dX8_foresee_1 : decode cX8_foresee 1 = .ok (.getfield 37, 3) := by decide +kernel
theorem dX8_foresee_4 : decode cX8_foresee 4 = .ok (.aload_n 0, 1) := by decide +kernel
theorem dX8_foresee_5 : decode cX8_foresee 5 = .ok (.getfield 33, 3) := by decide +kernel
theorem dX8_foresee_8 : decode cX8_foresee 8 = .ok (.invokevirtual 286, 3) := by decide +kernel
theorem dX8_foresee_11 : decode cX8_foresee 11 = .ok (.aload_n 0, 1) := by decide +kernel
theorem dX8_foresee_12 : decode cX8_foresee 12 = .ok (.getfield 26, 3) := by decide +kernel
theorem dX8_foresee_15 : decode cX8_foresee 15 = .ok (.aload_n 0, 1) := by decide +kernel
theorem dX8_foresee_16 : decode cX8_foresee 16 = .ok (.getfield 37, 3) := by decide +kernel
theorem dX8_foresee_19 : decode cX8_foresee 19 = .ok (.iload_n 1, 1) := by decide +kernel
theorem dX8_foresee_20 : decode cX8_foresee 20 = .ok (.invokevirtual 194, 3) := by decide +kernel
theorem dX8_foresee_23 : decode cX8_foresee 23 = .ok (.pop, 1) := by decide +kernel
theorem dX8_foresee_24 : decode cX8_foresee 24 = .ok (.return_, 1) := by decide +kernel
theorem dX8_clearShares_0 : decode cX8_clearShares 0 = .ok (.iconst 0, 1) := by decide +kernel
theorem dX8_clearShares_1 : decode cX8_clearShares 1 = .ok (.istore_n 1, 1) := by decide +kernel
theorem dX8_clearShares_2 : decode cX8_clearShares 2 = .ok (.iload_n 1, 1) := by decide +kernel
theorem dX8_clearShares_3 : decode cX8_clearShares 3 = .ok (.bipush 8, 2) := by decide +kernel
theorem dX8_clearShares_5 : decode cX8_clearShares 5 = .ok (.if_icmp .ge 16, 3) := by decide +kernel
theorem dX8_clearShares_8 : decode cX8_clearShares 8 = .ok (.aload_n 0, 1) := by decide +kernel
theorem dX8_clearShares_9 : decode cX8_clearShares 9 = .ok (.getfield 61, 3) := by decide +kernel
theorem dX8_clearShares_12 : decode cX8_clearShares 12 = .ok (.iload_n 1, 1) := by decide +kernel
theorem dX8_clearShares_13 : decode cX8_clearShares 13 = .ok (.iconst 0, 1) := by decide +kernel
theorem dX8_clearShares_14 : decode cX8_clearShares 14 = .ok (.iastore, 1) := by decide +kernel
theorem dX8_clearShares_15 : decode cX8_clearShares 15 = .ok (.iinc 1 1, 3) := by decide +kernel
theorem dX8_clearShares_18 : decode cX8_clearShares 18 = .ok (.goto (-16), 3) := by decide +kernel
theorem dX8_clearShares_21 : decode cX8_clearShares 21 = .ok (.return_, 1) := by decide +kernel
theorem dX8_shareOut_0 : decode cX8_shareOut 0 = .ok (.iload_n 2, 1) := by decide +kernel
theorem dX8_shareOut_1 : decode cX8_shareOut 1 = .ok (.istore_n 3, 1) := by decide +kernel
theorem dX8_shareOut_2 : decode cX8_shareOut 2 = .ok (.iconst 0, 1) := by decide +kernel
theorem dX8_shareOut_3 : decode cX8_shareOut 3 = .ok (.istore 4, 2) := by decide +kernel
theorem dX8_shareOut_5 : decode cX8_shareOut 5 = .ok (.iload 4, 2) := by decide +kernel
theorem dX8_shareOut_7 : decode cX8_shareOut 7 = .ok (.bipush 8, 2) := by decide +kernel
theorem dX8_shareOut_9 : decode cX8_shareOut 9 = .ok (.if_icmp .ge 50, 3) := by decide +kernel
theorem dX8_shareOut_12 : decode cX8_shareOut 12 = .ok (.iload_n 1, 1) := by decide +kernel
theorem dX8_shareOut_13 : decode cX8_shareOut 13 = .ok (.iload 4, 2) := by decide +kernel
theorem dX8_shareOut_15 : decode cX8_shareOut 15 = .ok (.ishr, 1) := by decide +kernel
theorem dX8_shareOut_16 : decode cX8_shareOut 16 = .ok (.iconst 1, 1) := by decide +kernel
theorem dX8_shareOut_17 : decode cX8_shareOut 17 = .ok (.iand, 1) := by decide +kernel
theorem dX8_shareOut_18 : decode cX8_shareOut 18 = .ok (.iconst 1, 1) := by decide +kernel
theorem dX8_shareOut_19 : decode cX8_shareOut 19 = .ok (.if_icmp .ne 34, 3) := by decide +kernel
theorem dX8_shareOut_22 : decode cX8_shareOut 22 = .ok (.aload_n 0, 1) := by decide +kernel
theorem dX8_shareOut_23 : decode cX8_shareOut 23 = .ok (.getfield 61, 3) := by decide +kernel
theorem dX8_shareOut_26 : decode cX8_shareOut 26 = .ok (.iload 4, 2) := by decide +kernel
theorem dX8_shareOut_28 : decode cX8_shareOut 28 = .ok (.aload_n 0, 1) := by decide +kernel
theorem dX8_shareOut_29 : decode cX8_shareOut 29 = .ok (.getfield 33, 3) := by decide +kernel
theorem dX8_shareOut_32 : decode cX8_shareOut 32 = .ok (.getfield 151, 3) := by decide +kernel
theorem dX8_shareOut_35 : decode cX8_shareOut 35 = .ok (.iload 4, 2) := by decide +kernel
theorem dX8_shareOut_37 : decode cX8_shareOut 37 = .ok (.iaload, 1) := by decide +kernel
theorem dX8_shareOut_38 : decode cX8_shareOut 38 = .ok (.iload_n 3, 1) := by decide +kernel
theorem dX8_shareOut_39 : decode cX8_shareOut 39 = .ok (.invokestatic 310, 3) := by decide +kernel
theorem dX8_shareOut_42 : decode cX8_shareOut 42 = .ok (.iastore, 1) := by decide +kernel
theorem dX8_shareOut_43 : decode cX8_shareOut 43 = .ok (.iload_n 3, 1) := by decide +kernel
theorem dX8_shareOut_44 : decode cX8_shareOut 44 = .ok (.aload_n 0, 1) := by decide +kernel
theorem dX8_shareOut_45 : decode cX8_shareOut 45 = .ok (.getfield 61, 3) := by decide +kernel
theorem dX8_shareOut_48 : decode cX8_shareOut 48 = .ok (.iload 4, 2) := by decide +kernel
theorem dX8_shareOut_50 : decode cX8_shareOut 50 = .ok (.iaload, 1) := by decide +kernel
theorem dX8_shareOut_51 : decode cX8_shareOut 51 = .ok (.isub, 1) := by decide +kernel
theorem dX8_shareOut_52 : decode cX8_shareOut 52 = .ok (.istore_n 3, 1) := by decide +kernel
theorem dX8_shareOut_53 : decode cX8_shareOut 53 = .ok (.iinc 4 1, 3) := by decide +kernel
theorem dX8_shareOut_56 : decode cX8_shareOut 56 = .ok (.goto (-51), 3) := by decide +kernel
theorem dX8_shareOut_59 : decode cX8_shareOut 59 = .ok (.return_, 1) := by decide +kernel
theorem dX8_risesWithout_0 : decode cX8_risesWithout 0 = .ok (.aload_n 0, 1) := by decide +kernel
theorem dX8_risesWithout_1 : decode cX8_risesWithout 1 = .ok (.getfield 37, 3) := by decide +kernel
theorem dX8_risesWithout_4 : decode cX8_risesWithout 4 = .ok (.iload_n 1, 1) := by decide +kernel
theorem dX8_risesWithout_5 : decode cX8_risesWithout 5 = .ok (.iload_n 2, 1) := by decide +kernel
theorem dX8_risesWithout_6 : decode cX8_risesWithout 6 = .ok (.invokevirtual 437, 3) := by decide +kernel
theorem dX8_risesWithout_9 : decode cX8_risesWithout 9 = .ok (.aload_n 0, 1) := by decide +kernel
theorem dX8_risesWithout_10 : decode cX8_risesWithout 10 = .ok (.getfield 26, 3) := by decide +kernel
theorem dX8_risesWithout_13 : decode cX8_risesWithout 13 = .ok (.aload_n 0, 1) := by decide +kernel
theorem dX8_risesWithout_14 : decode cX8_risesWithout 14 = .ok (.getfield 37, 3) := by decide +kernel
theorem dX8_risesWithout_17 : decode cX8_risesWithout 17 = .ok (.aload_n 0, 1) := by decide +kernel
theorem dX8_risesWithout_18 : decode cX8_risesWithout 18 = .ok (.getfield 26, 3) := by decide +kernel
theorem dX8_risesWithout_21 : decode cX8_risesWithout 21 = .ok (.getfield 163, 3) := by decide +kernel
theorem dX8_risesWithout_24 : decode cX8_risesWithout 24 = .ok (.invokevirtual 242, 3) := by decide +kernel
theorem dX8_risesWithout_27 : decode cX8_risesWithout 27 = .ok (.iload_n 3, 1) := by decide +kernel
theorem dX8_risesWithout_28 : decode cX8_risesWithout 28 = .ok (.iconst (-1), 1) := by decide +kernel
theorem dX8_risesWithout_29 : decode cX8_risesWithout 29 = .ok (.ixor, 1) := by decide +kernel
theorem dX8_risesWithout_30 : decode cX8_risesWithout 30 = .ok (.iand, 1) := by decide +kernel
theorem dX8_risesWithout_31 : decode cX8_risesWithout 31 = .ok (.istore 4, 2) := by decide +kernel
theorem dX8_risesWithout_33 : decode cX8_risesWithout 33 = .ok (.aload_n 0, 1) := by decide +kernel
theorem dX8_risesWithout_34 : decode cX8_risesWithout 34 = .ok (.getfield 37, 3) := by decide +kernel
theorem dX8_risesWithout_37 : decode cX8_risesWithout 37 = .ok (.iload_n 1, 1) := by decide +kernel
theorem dX8_risesWithout_38 : decode cX8_risesWithout 38 = .ok (.iload_n 2, 1) := by decide +kernel
theorem dX8_risesWithout_39 : decode cX8_risesWithout 39 = .ok (.invokevirtual 437, 3) := by decide +kernel
theorem dX8_risesWithout_42 : decode cX8_risesWithout 42 = .ok (.iload 4, 2) := by decide +kernel
theorem dX8_risesWithout_44 : decode cX8_risesWithout 44 = .ok (.ifCond .eq 7, 3) := by decide +kernel
theorem dX8_risesWithout_47 : decode cX8_risesWithout 47 = .ok (.iconst 1, 1) := by decide +kernel
theorem dX8_risesWithout_48 : decode cX8_risesWithout 48 = .ok (.goto 4, 3) := by decide +kernel
theorem dX8_risesWithout_51 : decode cX8_risesWithout 51 = .ok (.iconst 0, 1) := by decide +kernel
theorem dX8_risesWithout_52 : decode cX8_risesWithout 52 = .ok (.ireturn, 1) := by decide +kernel
theorem dX8_floatingWith_0 : decode cX8_floatingWith 0 = .ok (.aload_n 0, 1) := by decide +kernel
theorem dX8_floatingWith_1 : decode cX8_floatingWith 1 = .ok (.getfield 37, 3) := by decide +kernel
theorem dX8_floatingWith_4 : decode cX8_floatingWith 4 = .ok (.iload_n 1, 1) := by decide +kernel
theorem dX8_floatingWith_5 : decode cX8_floatingWith 5 = .ok (.iload_n 2, 1) := by decide +kernel
theorem dX8_floatingWith_6 : decode cX8_floatingWith 6 = .ok (.invokevirtual 437, 3) := by decide +kernel
theorem dX8_floatingWith_9 : decode cX8_floatingWith 9 = .ok (.aload_n 0, 1) := by decide +kernel
theorem dX8_floatingWith_10 : decode cX8_floatingWith 10 = .ok (.getfield 26, 3) := by decide +kernel
theorem dX8_floatingWith_13 : decode cX8_floatingWith 13 = .ok (.aload_n 0, 1) := by decide +kernel
theorem dX8_floatingWith_14 : decode cX8_floatingWith 14 = .ok (.getfield 37, 3) := by decide +kernel
theorem dX8_floatingWith_17 : decode cX8_floatingWith 17 = .ok (.aload_n 0, 1) := by decide +kernel
theorem dX8_floatingWith_18 : decode cX8_floatingWith 18 = .ok (.getfield 26, 3) := by decide +kernel
theorem dX8_floatingWith_21 : decode cX8_floatingWith 21 = .ok (.getfield 163, 3) := by decide +kernel
theorem dX8_floatingWith_24 : decode cX8_floatingWith 24 = .ok (.invokevirtual 242, 3) := by decide +kernel
theorem dX8_floatingWith_27 : decode cX8_floatingWith 27 = .ok (.invokestatic 189, 3) := by decide +kernel
theorem dX8_floatingWith_30 : decode cX8_floatingWith 30 = .ok (.istore_n 3, 1) := by decide +kernel
theorem dX8_floatingWith_31 : decode cX8_floatingWith 31 = .ok (.aload_n 0, 1) := by decide +kernel
theorem dX8_floatingWith_32 : decode cX8_floatingWith 32 = .ok (.getfield 37, 3) := by decide +kernel
theorem dX8_floatingWith_35 : decode cX8_floatingWith 35 = .ok (.iload_n 1, 1) := by decide +kernel
theorem dX8_floatingWith_36 : decode cX8_floatingWith 36 = .ok (.iload_n 2, 1) := by decide +kernel
theorem dX8_floatingWith_37 : decode cX8_floatingWith 37 = .ok (.invokevirtual 437, 3) := by decide +kernel
theorem dX8_floatingWith_40 : decode cX8_floatingWith 40 = .ok (.iload_n 3, 1) := by decide +kernel
theorem dX8_floatingWith_41 : decode cX8_floatingWith 41 = .ok (.ireturn, 1) := by decide +kernel
theorem dX8_excessOfBundles_0 : decode cX8_excessOfBundles 0 = .ok (.iconst 0, 1) := by decide +kernel
theorem dX8_excessOfBundles_1 : decode cX8_excessOfBundles 1 = .ok (.istore_n 2, 1) := by decide +kernel
theorem dX8_excessOfBundles_2 : decode cX8_excessOfBundles 2 = .ok (.iconst 0, 1) := by decide +kernel
theorem dX8_excessOfBundles_3 : decode cX8_excessOfBundles 3 = .ok (.istore_n 3, 1) := by decide +kernel
theorem dX8_excessOfBundles_4 : decode cX8_excessOfBundles 4 = .ok (.iload_n 3, 1) := by decide +kernel
theorem dX8_excessOfBundles_5 : decode cX8_excessOfBundles 5 = .ok (.aload_n 0, 1) := by decide +kernel
theorem dX8_excessOfBundles_6 : decode cX8_excessOfBundles 6 = .ok (.getfield 26, 3) := by decide +kernel
theorem dX8_excessOfBundles_9 : decode cX8_excessOfBundles 9 = .ok (.getfield 246, 3) := by decide +kernel
theorem dX8_excessOfBundles_12 : decode cX8_excessOfBundles 12 = .ok (.if_icmp .ge 41, 3) := by decide +kernel
theorem dX8_excessOfBundles_15 : decode cX8_excessOfBundles 15 = .ok (.iload_n 1, 1) := by decide +kernel
theorem dX8_excessOfBundles_16 : decode cX8_excessOfBundles 16 = .ok (.iload_n 3, 1) := by decide +kernel
theorem dX8_excessOfBundles_17 : decode cX8_excessOfBundles 17 = .ok (.ishr, 1) := by decide +kernel
theorem dX8_excessOfBundles_18 : decode cX8_excessOfBundles 18 = .ok (.iconst 1, 1) := by decide +kernel
theorem dX8_excessOfBundles_19 : decode cX8_excessOfBundles 19 = .ok (.iand, 1) := by decide +kernel
theorem dX8_excessOfBundles_20 : decode cX8_excessOfBundles 20 = .ok (.iconst 1, 1) := by decide +kernel
theorem dX8_excessOfBundles_21 : decode cX8_excessOfBundles 21 = .ok (.if_icmp .ne 26, 3) := by decide +kernel
theorem dX8_excessOfBundles_24 : decode cX8_excessOfBundles 24 = .ok (.iload_n 2, 1) := by decide +kernel
theorem dX8_excessOfBundles_25 : decode cX8_excessOfBundles 25 = .ok (.aload_n 0, 1) := by decide +kernel
theorem dX8_excessOfBundles_26 : decode cX8_excessOfBundles 26 = .ok (.getfield 26, 3) := by decide +kernel
theorem dX8_excessOfBundles_29 : decode cX8_excessOfBundles 29 = .ok (.aload_n 0, 1) := by decide +kernel
theorem dX8_excessOfBundles_30 : decode cX8_excessOfBundles 30 = .ok (.getfield 33, 3) := by decide +kernel
theorem dX8_excessOfBundles_33 : decode cX8_excessOfBundles 33 = .ok (.aload_n 0, 1) := by decide +kernel
theorem dX8_excessOfBundles_34 : decode cX8_excessOfBundles 34 = .ok (.getfield 26, 3) := by decide +kernel
theorem dX8_excessOfBundles_37 : decode cX8_excessOfBundles 37 = .ok (.getfield 249, 3) := by decide +kernel
theorem dX8_excessOfBundles_40 : decode cX8_excessOfBundles 40 = .ok (.iload_n 3, 1) := by decide +kernel
theorem dX8_excessOfBundles_41 : decode cX8_excessOfBundles 41 = .ok (.iaload, 1) := by decide +kernel
theorem dX8_excessOfBundles_42 : decode cX8_excessOfBundles 42 = .ok (.invokevirtual 273, 3) := by decide +kernel
theorem dX8_excessOfBundles_45 : decode cX8_excessOfBundles 45 = .ok (.iadd, 1) := by decide +kernel
theorem dX8_excessOfBundles_46 : decode cX8_excessOfBundles 46 = .ok (.istore_n 2, 1) := by decide +kernel
theorem dX8_excessOfBundles_47 : decode cX8_excessOfBundles 47 = .ok (.iinc 3 1, 3) := by decide +kernel
theorem dX8_excessOfBundles_50 : decode cX8_excessOfBundles 50 = .ok (.goto (-46), 3) := by decide +kernel
theorem dX8_excessOfBundles_53 : decode cX8_excessOfBundles 53 = .ok (.iload_n 2, 1) := by decide +kernel
theorem dX8_excessOfBundles_54 : decode cX8_excessOfBundles 54 = .ok (.ireturn, 1) := by decide +kernel
theorem dX8_mostGroups_0 : decode cX8_mostGroups 0 = .ok (.iload_n 1, 1) := by decide +kernel
theorem dX8_mostGroups_1 : decode cX8_mostGroups 1 = .ok (.ifCond .ne 5, 3) := by decide +kernel
theorem dX8_mostGroups_4 : decode cX8_mostGroups 4 = .ok (.iconst 0, 1) := by decide +kernel
theorem dX8_mostGroups_5 : decode cX8_mostGroups 5 = .ok (.ireturn, 1) := by decide +kernel
theorem dX8_mostGroups_6 : decode cX8_mostGroups 6 = .ok (.iconst (-1), 1) := by decide +kernel
theorem dX8_mostGroups_7 : decode cX8_mostGroups 7 = .ok (.istore_n 2, 1) := by decide +kernel
theorem dX8_mostGroups_8 : decode cX8_mostGroups 8 = .ok (.iload_n 1, 1) := by decide +kernel
theorem dX8_mostGroups_9 : decode cX8_mostGroups 9 = .ok (.iload_n 1, 1) := by decide +kernel
theorem dX8_mostGroups_10 : decode cX8_mostGroups 10 = .ok (.ineg, 1) := by decide +kernel
theorem dX8_mostGroups_11 : decode cX8_mostGroups 11 = .ok (.iand, 1) := by decide +kernel
theorem dX8_mostGroups_12 : decode cX8_mostGroups 12 = .ok (.istore_n 3, 1) := by decide +kernel
theorem dX8_mostGroups_13 : decode cX8_mostGroups 13 = .ok (.iconst 1, 1) := by decide +kernel
theorem dX8_mostGroups_14 : decode cX8_mostGroups 14 = .ok (.istore 4, 2) := by decide +kernel
theorem dX8_mostGroups_16 : decode cX8_mostGroups 16 = .ok (.iload 4, 2) := by decide +kernel
theorem dX8_mostGroups_18 : decode cX8_mostGroups 18 = .ok (.iload_n 1, 1) := by decide +kernel
theorem dX8_mostGroups_19 : decode cX8_mostGroups 19 = .ok (.if_icmp .gt 75, 3) := by decide +kernel
theorem dX8_mostGroups_22 : decode cX8_mostGroups 22 = .ok (.iload 4, 2) := by decide +kernel
theorem dX8_mostGroups_24 : decode cX8_mostGroups 24 = .ok (.iload_n 1, 1) := by decide +kernel
theorem dX8_mostGroups_25 : decode cX8_mostGroups 25 = .ok (.iconst (-1), 1) := by decide +kernel
theorem dX8_mostGroups_26 : decode cX8_mostGroups 26 = .ok (.ixor, 1) := by decide +kernel
theorem dX8_mostGroups_27 : decode cX8_mostGroups 27 = .ok (.iand, 1) := by decide +kernel
theorem dX8_mostGroups_28 : decode cX8_mostGroups 28 = .ok (.ifCond .ne 14, 3) := by decide +kernel
theorem dX8_mostGroups_31 : decode cX8_mostGroups 31 = .ok (.iload 4, 2) := by decide +kernel
theorem dX8_mostGroups_33 : decode cX8_mostGroups 33 = .ok (.iload_n 3, 1) := by decide +kernel
theorem dX8_mostGroups_34 : decode cX8_mostGroups 34 = .ok (.iand, 1) := by decide +kernel
theorem dX8_mostGroups_35 : decode cX8_mostGroups 35 = .ok (.ifCond .eq 7, 3) := by decide +kernel
theorem dX8_mostGroups_38 : decode cX8_mostGroups 38 = .ok (.iconst 1, 1) := by decide +kernel
theorem dX8_mostGroups_39 : decode cX8_mostGroups 39 = .ok (.goto 4, 3) := by decide +kernel
theorem dX8_mostGroups_42 : decode cX8_mostGroups 42 = .ok (.iconst 0, 1) := by decide +kernel
theorem dX8_mostGroups_43 : decode cX8_mostGroups 43 = .ok (.istore 5, 2) := by decide +kernel
theorem dX8_mostGroups_45 : decode cX8_mostGroups 45 = .ok (.iload 5, 2) := by decide +kernel
theorem dX8_mostGroups_47 : decode cX8_mostGroups 47 = .ok (.ifCond .eq 41, 3) := by decide +kernel
theorem dX8_mostGroups_50 : decode cX8_mostGroups 50 = .ok (.aload_n 0, 1) := by decide +kernel
theorem dX8_mostGroups_51 : decode cX8_mostGroups 51 = .ok (.getfield 65, 3) := by decide +kernel
theorem dX8_mostGroups_54 : decode cX8_mostGroups 54 = .ok (.iload 4, 2) := by decide +kernel
theorem dX8_mostGroups_56 : decode cX8_mostGroups 56 = .ok (.iaload, 1) := by decide +kernel
theorem dX8_mostGroups_57 : decode cX8_mostGroups 57 = .ok (.ifCond .lt 31, 3) := by decide +kernel
theorem dX8_mostGroups_60 : decode cX8_mostGroups 60 = .ok (.aload_n 0, 1) := by decide +kernel
theorem dX8_mostGroups_61 : decode cX8_mostGroups 61 = .ok (.getfield 68, 3) := by decide +kernel
theorem dX8_mostGroups_64 : decode cX8_mostGroups 64 = .ok (.iload_n 1, 1) := by decide +kernel
theorem dX8_mostGroups_65 : decode cX8_mostGroups 65 = .ok (.iload 4, 2) := by decide +kernel
theorem dX8_mostGroups_67 : decode cX8_mostGroups 67 = .ok (.ixor, 1) := by decide +kernel
theorem dX8_mostGroups_68 : decode cX8_mostGroups 68 = .ok (.iaload, 1) := by decide +kernel
theorem dX8_mostGroups_69 : decode cX8_mostGroups 69 = .ok (.ifCond .lt 19, 3) := by decide +kernel
theorem dX8_mostGroups_72 : decode cX8_mostGroups 72 = .ok (.iload_n 2, 1) := by decide +kernel
theorem dX8_mostGroups_73 : decode cX8_mostGroups 73 = .ok (.aload_n 0, 1) := by decide +kernel
theorem dX8_mostGroups_74 : decode cX8_mostGroups 74 = .ok (.getfield 68, 3) := by decide +kernel
theorem dX8_mostGroups_77 : decode cX8_mostGroups 77 = .ok (.iload_n 1, 1) := by decide +kernel
theorem dX8_mostGroups_78 : decode cX8_mostGroups 78 = .ok (.iload 4, 2) := by decide +kernel
theorem dX8_mostGroups_80 : decode cX8_mostGroups 80 = .ok (.ixor, 1) := by decide +kernel
theorem dX8_mostGroups_81 : decode cX8_mostGroups 81 = .ok (.iaload, 1) := by decide +kernel
theorem dX8_mostGroups_82 : decode cX8_mostGroups 82 = .ok (.iconst 1, 1) := by decide +kernel
theorem dX8_mostGroups_83 : decode cX8_mostGroups 83 = .ok (.iadd, 1) := by decide +kernel
theorem dX8_mostGroups_84 : decode cX8_mostGroups 84 = .ok (.invokestatic 351, 3) := by decide +kernel
theorem dX8_mostGroups_87 : decode cX8_mostGroups 87 = .ok (.istore_n 2, 1) := by decide +kernel
theorem dX8_mostGroups_88 : decode cX8_mostGroups 88 = .ok (.iinc 4 1, 3) := by decide +kernel
theorem dX8_mostGroups_91 : decode cX8_mostGroups 91 = .ok (.goto (-75), 3) := by decide +kernel
theorem dX8_mostGroups_94 : decode cX8_mostGroups 94 = .ok (.iload_n 2, 1) := by decide +kernel
theorem dX8_mostGroups_95 : decode cX8_mostGroups 95 = .ok (.ireturn, 1) := by decide +kernel
theorem dX8_markSteps_0 : decode cX8_markSteps 0 = .ok (.iconst 0, 1) := by decide +kernel
theorem dX8_markSteps_1 : decode cX8_markSteps 1 = .ok (.istore_n 2, 1) := by decide +kernel
theorem dX8_markSteps_2 : decode cX8_markSteps 2 = .ok (.iload_n 2, 1) := by decide +kernel
theorem dX8_markSteps_3 : decode cX8_markSteps 3 = .ok (.bipush 8, 2) := by decide +kernel
theorem dX8_markSteps_5 : decode cX8_markSteps 5 = .ok (.if_icmp .ge 16, 3) := by decide +kernel
theorem dX8_markSteps_8 : decode cX8_markSteps 8 = .ok (.aload_n 0, 1) := by decide +kernel
theorem dX8_markSteps_9 : decode cX8_markSteps 9 = .ok (.getfield 61, 3) := by decide +kernel
theorem dX8_markSteps_12 : decode cX8_markSteps 12 = .ok (.iload_n 2, 1) := by decide +kernel
theorem dX8_markSteps_13 : decode cX8_markSteps 13 = .ok (.iconst (-1), 1) := by decide +kernel
theorem dX8_markSteps_14 : decode cX8_markSteps 14 = .ok (.iastore, 1) := by decide +kernel
theorem dX8_markSteps_15 : decode cX8_markSteps 15 = .ok (.iinc 2 1, 3) := by decide +kernel
theorem dX8_markSteps_18 : decode cX8_markSteps 18 = .ok (.goto (-16), 3) := by decide +kernel
theorem dX8_markSteps_21 : decode cX8_markSteps 21 = .ok (.iconst 1, 1) := by decide +kernel
theorem dX8_markSteps_22 : decode cX8_markSteps 22 = .ok (.iload_n 1, 1) := by decide +kernel
theorem dX8_markSteps_23 : decode cX8_markSteps 23 = .ok (.ishl, 1) := by decide +kernel
theorem dX8_markSteps_24 : decode cX8_markSteps 24 = .ok (.istore_n 2, 1) := by decide +kernel
theorem dX8_markSteps_25 : decode cX8_markSteps 25 = .ok (.iload_n 2, 1) := by decide +kernel
theorem dX8_markSteps_26 : decode cX8_markSteps 26 = .ok (.istore_n 3, 1) := by decide +kernel
theorem dX8_markSteps_27 : decode cX8_markSteps 27 = .ok (.iconst 0, 1) := by decide +kernel
theorem dX8_markSteps_28 : decode cX8_markSteps 28 = .ok (.istore 4, 2) := by decide +kernel
theorem dX8_markSteps_30 : decode cX8_markSteps 30 = .ok (.iload 4, 2) := by decide +kernel
theorem dX8_markSteps_32 : decode cX8_markSteps 32 = .ok (.bipush 8, 2) := by decide +kernel
theorem dX8_markSteps_34 : decode cX8_markSteps 34 = .ok (.if_icmp .ge 73, 3) := by decide +kernel
theorem dX8_markSteps_37 : decode cX8_markSteps 37 = .ok (.iconst 0, 1) := by decide +kernel
theorem dX8_markSteps_38 : decode cX8_markSteps 38 = .ok (.istore 5, 2) := by decide +kernel
theorem dX8_markSteps_40 : decode cX8_markSteps 40 = .ok (.iconst 0, 1) := by decide +kernel
theorem dX8_markSteps_41 : decode cX8_markSteps 41 = .ok (.istore 6, 2) := by decide +kernel
theorem dX8_markSteps_43 : decode cX8_markSteps 43 = .ok (.iload 6, 2) := by decide +kernel
theorem dX8_markSteps_45 : decode cX8_markSteps 45 = .ok (.bipush 8, 2) := by decide +kernel
theorem dX8_markSteps_47 : decode cX8_markSteps 47 = .ok (.if_icmp .ge 43, 3) := by decide +kernel
theorem dX8_markSteps_50 : decode cX8_markSteps 50 = .ok (.iload_n 3, 1) := by decide +kernel
theorem dX8_markSteps_51 : decode cX8_markSteps 51 = .ok (.iload 6, 2) := by decide +kernel
theorem dX8_markSteps_53 : decode cX8_markSteps 53 = .ok (.ishr, 1) := by decide +kernel
theorem dX8_markSteps_54 : decode cX8_markSteps 54 = .ok (.iconst 1, 1) := by decide +kernel
theorem dX8_markSteps_55 : decode cX8_markSteps 55 = .ok (.iand, 1) := by decide +kernel
theorem dX8_markSteps_56 : decode cX8_markSteps 56 = .ok (.iconst 1, 1) := by decide +kernel
theorem dX8_markSteps_57 : decode cX8_markSteps 57 = .ok (.if_icmp .ne 27, 3) := by decide +kernel
theorem dX8_markSteps_60 : decode cX8_markSteps 60 = .ok (.aload_n 0, 1) := by decide +kernel
theorem dX8_markSteps_61 : decode cX8_markSteps 61 = .ok (.getfield 61, 3) := by decide +kernel
theorem dX8_markSteps_64 : decode cX8_markSteps 64 = .ok (.iload 6, 2) := by decide +kernel
theorem dX8_markSteps_66 : decode cX8_markSteps 66 = .ok (.iload 4, 2) := by decide +kernel
theorem dX8_markSteps_68 : decode cX8_markSteps 68 = .ok (.iastore, 1) := by decide +kernel
theorem dX8_markSteps_69 : decode cX8_markSteps 69 = .ok (.iload 5, 2) := by decide +kernel
theorem dX8_markSteps_71 : decode cX8_markSteps 71 = .ok (.aload_n 0, 1) := by decide +kernel
theorem dX8_markSteps_72 : decode cX8_markSteps 72 = .ok (.getfield 33, 3) := by decide +kernel
theorem dX8_markSteps_75 : decode cX8_markSteps 75 = .ok (.getfield 174, 3) := by decide +kernel
theorem dX8_markSteps_78 : decode cX8_markSteps 78 = .ok (.iload 6, 2) := by decide +kernel
theorem dX8_markSteps_80 : decode cX8_markSteps 80 = .ok (.iaload, 1) := by decide +kernel
theorem dX8_markSteps_81 : decode cX8_markSteps 81 = .ok (.ior, 1) := by decide +kernel
theorem dX8_markSteps_82 : decode cX8_markSteps 82 = .ok (.istore 5, 2) := by decide +kernel
theorem dX8_markSteps_84 : decode cX8_markSteps 84 = .ok (.iinc 6 1, 3) := by decide +kernel
theorem dX8_markSteps_87 : decode cX8_markSteps 87 = .ok (.goto (-44), 3) := by decide +kernel
theorem dX8_markSteps_90 : decode cX8_markSteps 90 = .ok (.iload 5, 2) := by decide +kernel
theorem dX8_markSteps_92 : decode cX8_markSteps 92 = .ok (.iload_n 2, 1) := by decide +kernel
theorem dX8_markSteps_93 : decode cX8_markSteps 93 = .ok (.iconst (-1), 1) := by decide +kernel
theorem dX8_markSteps_94 : decode cX8_markSteps 94 = .ok (.ixor, 1) := by decide +kernel
theorem dX8_markSteps_95 : decode cX8_markSteps 95 = .ok (.iand, 1) := by decide +kernel
theorem dX8_markSteps_96 : decode cX8_markSteps 96 = .ok (.istore_n 3, 1) := by decide +kernel
theorem dX8_markSteps_97 : decode cX8_markSteps 97 = .ok (.iload_n 2, 1) := by decide +kernel
theorem dX8_markSteps_98 : decode cX8_markSteps 98 = .ok (.iload_n 3, 1) := by decide +kernel
theorem dX8_markSteps_99 : decode cX8_markSteps 99 = .ok (.ior, 1) := by decide +kernel
theorem dX8_markSteps_100 : decode cX8_markSteps 100 = .ok (.istore_n 2, 1) := by decide +kernel
theorem dX8_markSteps_101 : decode cX8_markSteps 101 = .ok (.iinc 4 1, 3) := by decide +kernel
theorem dX8_markSteps_104 : decode cX8_markSteps 104 = .ok (.goto (-74), 3) := by decide +kernel
theorem dX8_markSteps_107 : decode cX8_markSteps 107 = .ok (.return_, 1) := by decide +kernel
theorem dX8_nextOnWay_0 : decode cX8_nextOnWay 0 = .ok (.iconst 0, 1) := by decide +kernel
theorem dX8_nextOnWay_1 : decode cX8_nextOnWay 1 = .ok (.istore_n 3, 1) := by decide +kernel
theorem dX8_nextOnWay_2 : decode cX8_nextOnWay 2 = .ok (.iload_n 3, 1) := by decide +kernel
theorem dX8_nextOnWay_3 : decode cX8_nextOnWay 3 = .ok (.bipush 8, 2) := by decide +kernel
theorem dX8_nextOnWay_5 : decode cX8_nextOnWay 5 = .ok (.if_icmp .ge 33, 3) := by decide +kernel
theorem dX8_nextOnWay_8 : decode cX8_nextOnWay 8 = .ok (.aload_n 0, 1) := by decide +kernel
theorem dX8_nextOnWay_9 : decode cX8_nextOnWay 9 = .ok (.getfield 33, 3) := by decide +kernel
theorem dX8_nextOnWay_12 : decode cX8_nextOnWay 12 = .ok (.iload_n 1, 1) := by decide +kernel
theorem dX8_nextOnWay_13 : decode cX8_nextOnWay 13 = .ok (.iload_n 3, 1) := by decide +kernel
theorem dX8_nextOnWay_14 : decode cX8_nextOnWay 14 = .ok (.invokevirtual 292, 3) := by decide +kernel
theorem dX8_nextOnWay_17 : decode cX8_nextOnWay 17 = .ok (.ifCond .eq 15, 3) := by decide +kernel
theorem dX8_nextOnWay_20 : decode cX8_nextOnWay 20 = .ok (.aload_n 0, 1) := by decide +kernel
theorem dX8_nextOnWay_21 : decode cX8_nextOnWay 21 = .ok (.getfield 61, 3) := by decide +kernel
theorem dX8_nextOnWay_24 : decode cX8_nextOnWay 24 = .ok (.iload_n 3, 1) := by decide +kernel
theorem dX8_nextOnWay_25 : decode cX8_nextOnWay 25 = .ok (.iaload, 1) := by decide +kernel
theorem dX8_nextOnWay_26 : decode cX8_nextOnWay 26 = .ok (.iload_n 2, 1) := by decide +kernel
theorem dX8_nextOnWay_27 : decode cX8_nextOnWay 27 = .ok (.if_icmp .ne 5, 3) := by decide +kernel
theorem dX8_nextOnWay_30 : decode cX8_nextOnWay 30 = .ok (.iload_n 3, 1) := by decide +kernel
theorem dX8_nextOnWay_31 : decode cX8_nextOnWay 31 = .ok (.ireturn, 1) := by decide +kernel
theorem dX8_nextOnWay_32 : decode cX8_nextOnWay 32 = .ok (.iinc 3 1, 3) := by decide +kernel
theorem dX8_nextOnWay_35 : decode cX8_nextOnWay 35 = .ok (.goto (-33), 3) := by decide +kernel
theorem dX8_nextOnWay_38 : decode cX8_nextOnWay 38 = .ok (.iload_n 1, 1) := by decide +kernel
theorem dX8_nextOnWay_39 : decode cX8_nextOnWay 39 = .ok (.ireturn, 1) := by decide +kernel
theorem dX8_priceOf_0 : decode cX8_priceOf 0 = .ok (.iconst 0, 1) := by decide +kernel
theorem dX8_priceOf_1 : decode cX8_priceOf 1 = .ok (.istore_n 3, 1) := by decide +kernel
theorem dX8_priceOf_2 : decode cX8_priceOf 2 = .ok (.iconst 0, 1) := by decide +kernel
theorem dX8_priceOf_3 : decode cX8_priceOf 3 = .ok (.istore 4, 2) := by decide +kernel
theorem dX8_priceOf_5 : decode cX8_priceOf 5 = .ok (.iload 4, 2) := by decide +kernel
theorem dX8_priceOf_7 : decode cX8_priceOf 7 = .ok (.iload_n 2, 1) := by decide +kernel
theorem dX8_priceOf_8 : decode cX8_priceOf 8 = .ok (.if_icmp .ge 35, 3) := by decide +kernel
theorem dX8_priceOf_11 : decode cX8_priceOf 11 = .ok (.iload_n 1, 1) := by decide +kernel
theorem dX8_priceOf_12 : decode cX8_priceOf 12 = .ok (.iload 4, 2) := by decide +kernel
theorem dX8_priceOf_14 : decode cX8_priceOf 14 = .ok (.ishr, 1) := by decide +kernel
