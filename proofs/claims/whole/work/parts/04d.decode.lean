theorem dX9_hourGoes_174 : decode cX9_hourGoes 174 = .ok (.iadd, 1) := by decide +kernel
theorem dX9_hourGoes_175 : decode cX9_hourGoes 175 = .ok (.iastore, 1) := by decide +kernel
theorem dX9_hourGoes_176 : decode cX9_hourGoes 176 = .ok (.return_, 1) := by decide +kernel
theorem dX9_goesOn_0 : decode cX9_goesOn 0 = .ok (.aload_n 0, 1) := by decide +kernel
theorem dX9_goesOn_1 : decode cX9_goesOn 1 = .ok (.iconst 0, 1) := by decide +kernel
theorem dX9_goesOn_2 : decode cX9_goesOn 2 = .ok (.putfield 297, 3) := by decide +kernel
theorem dX9_goesOn_5 : decode cX9_goesOn 5 = .ok (.aload_n 0, 1) := by decide +kernel
theorem dX9_goesOn_6 : decode cX9_goesOn 6 = .ok (.iconst 0, 1) := by decide +kernel
theorem dX9_goesOn_7 : decode cX9_goesOn 7 = .ok (.putfield 300, 3) := by decide +kernel
theorem dX9_goesOn_10 : decode cX9_goesOn 10 = .ok (.iconst 0, 1) := by decide +kernel
theorem dX9_goesOn_11 : decode cX9_goesOn 11 = .ok (.istore_n 3, 1) := by decide +kernel
theorem dX9_goesOn_12 : decode cX9_goesOn 12 = .ok (.iload_n 3, 1) := by decide +kernel
theorem dX9_goesOn_13 : decode cX9_goesOn 13 = .ok (.iload_n 2, 1) := by decide +kernel
theorem dX9_goesOn_14 : decode cX9_goesOn 14 = .ok (.if_icmp .ge 14, 3) := by decide +kernel
theorem dX9_goesOn_17 : decode cX9_goesOn 17 = .ok (.aload_n 0, 1) := by decide +kernel
theorem dX9_goesOn_18 : decode cX9_goesOn 18 = .ok (.aload_n 1, 1) := by decide +kernel
theorem dX9_goesOn_19 : decode cX9_goesOn 19 = .ok (.invokevirtual 313, 3) := by decide +kernel
theorem dX9_goesOn_22 : decode cX9_goesOn 22 = .ok (.iinc 3 1, 3) := by decide +kernel
theorem dX9_goesOn_25 : decode cX9_goesOn 25 = .ok (.goto (-13), 3) := by decide +kernel
theorem dX9_goesOn_28 : decode cX9_goesOn 28 = .ok (.return_, 1) := by decide +kernel
theorem dX9_lendsTo_0 : decode cX9_lendsTo 0 = .ok (.aload_n 0, 1) := by decide +kernel
theorem dX9_lendsTo_1 : decode cX9_lendsTo 1 = .ok (.iload_n 2, 1) := by decide +kernel
theorem dX9_lendsTo_2 : decode cX9_lendsTo 2 = .ok (.invokevirtual 123, 3) := by decide +kernel
theorem dX9_lendsTo_5 : decode cX9_lendsTo 5 = .ok (.ifCond .eq 15, 3) := by decide +kernel
theorem dX9_lendsTo_8 : decode cX9_lendsTo 8 = .ok (.iload_n 3, 1) := by decide +kernel
theorem dX9_lendsTo_9 : decode cX9_lendsTo 9 = .ok (.i2l, 1) := by decide +kernel
theorem dX9_lendsTo_10 : decode cX9_lendsTo 10 = .ok (.lconst 1, 1) := by decide +kernel
theorem dX9_lendsTo_11 : decode cX9_lendsTo 11 = .ok (.ldc2_w 317, 3) := by decide +kernel
theorem dX9_lendsTo_14 : decode cX9_lendsTo 14 = .ok (.invokestatic 119, 3) := by decide +kernel
theorem dX9_lendsTo_17 : decode cX9_lendsTo 17 = .ok (.ifCond .ne 5, 3) := by decide +kernel
theorem dX9_lendsTo_20 : decode cX9_lendsTo 20 = .ok (.iconst (-1), 1) := by decide +kernel
theorem dX9_lendsTo_21 : decode cX9_lendsTo 21 = .ok (.ireturn, 1) := by decide +kernel
theorem dX9_lendsTo_22 : decode cX9_lendsTo 22 = .ok (.aload_n 0, 1) := by decide +kernel
theorem dX9_lendsTo_23 : decode cX9_lendsTo 23 = .ok (.aload_n 1, 1) := by decide +kernel
theorem dX9_lendsTo_24 : decode cX9_lendsTo 24 = .ok (.iload_n 2, 1) := by decide +kernel
theorem dX9_lendsTo_25 : decode cX9_lendsTo 25 = .ok (.invokevirtual 202, 3) := by decide +kernel
theorem dX9_lendsTo_28 : decode cX9_lendsTo 28 = .ok (.ifCond .ne 6, 3) := by decide +kernel
theorem dX9_lendsTo_31 : decode cX9_lendsTo 31 = .ok (.bipush (-2), 2) := by decide +kernel
theorem dX9_lendsTo_33 : decode cX9_lendsTo 33 = .ok (.ireturn, 1) := by decide +kernel
theorem dX9_lendsTo_34 : decode cX9_lendsTo 34 = .ok (.aload_n 1, 1) := by decide +kernel
theorem dX9_lendsTo_35 : decode cX9_lendsTo 35 = .ok (.bipush 33, 2) := by decide +kernel
theorem dX9_lendsTo_37 : decode cX9_lendsTo 37 = .ok (.iaload, 1) := by decide +kernel
theorem dX9_lendsTo_38 : decode cX9_lendsTo 38 = .ok (.iload_n 3, 1) := by decide +kernel
theorem dX9_lendsTo_39 : decode cX9_lendsTo 39 = .ok (.if_icmp .ge 6, 3) := by decide +kernel
theorem dX9_lendsTo_42 : decode cX9_lendsTo 42 = .ok (.bipush (-3), 2) := by decide +kernel
theorem dX9_lendsTo_44 : decode cX9_lendsTo 44 = .ok (.ireturn, 1) := by decide +kernel
theorem dX9_lendsTo_45 : decode cX9_lendsTo 45 = .ok (.aload_n 1, 1) := by decide +kernel
theorem dX9_lendsTo_46 : decode cX9_lendsTo 46 = .ok (.iload_n 2, 1) := by decide +kernel
theorem dX9_lendsTo_47 : decode cX9_lendsTo 47 = .ok (.iaload, 1) := by decide +kernel
theorem dX9_lendsTo_48 : decode cX9_lendsTo 48 = .ok (.iload_n 3, 1) := by decide +kernel
theorem dX9_lendsTo_49 : decode cX9_lendsTo 49 = .ok (.iadd, 1) := by decide +kernel
theorem dX9_lendsTo_50 : decode cX9_lendsTo 50 = .ok (.bipush 9, 2) := by decide +kernel
theorem dX9_lendsTo_52 : decode cX9_lendsTo 52 = .ok (.if_icmp .le 6, 3) := by decide +kernel
theorem dX9_lendsTo_55 : decode cX9_lendsTo 55 = .ok (.bipush (-4), 2) := by decide +kernel
theorem dX9_lendsTo_57 : decode cX9_lendsTo 57 = .ok (.ireturn, 1) := by decide +kernel
theorem dX9_lendsTo_58 : decode cX9_lendsTo 58 = .ok (.aload_n 1, 1) := by decide +kernel
theorem dX9_lendsTo_59 : decode cX9_lendsTo 59 = .ok (.iload_n 2, 1) := by decide +kernel
theorem dX9_lendsTo_60 : decode cX9_lendsTo 60 = .ok (.dup2, 1) := by decide +kernel
theorem dX9_lendsTo_61 : decode cX9_lendsTo 61 = .ok (.iaload, 1) := by decide +kernel
theorem dX9_lendsTo_62 : decode cX9_lendsTo 62 = .ok (.iload_n 3, 1) := by decide +kernel
theorem dX9_lendsTo_63 : decode cX9_lendsTo 63 = .ok (.iadd, 1) := by decide +kernel
theorem dX9_lendsTo_64 : decode cX9_lendsTo 64 = .ok (.iastore, 1) := by decide +kernel
theorem dX9_lendsTo_65 : decode cX9_lendsTo 65 = .ok (.aload_n 1, 1) := by decide +kernel
theorem dX9_lendsTo_66 : decode cX9_lendsTo 66 = .ok (.bipush 33, 2) := by decide +kernel
theorem dX9_lendsTo_68 : decode cX9_lendsTo 68 = .ok (.dup2, 1) := by decide +kernel
theorem dX9_lendsTo_69 : decode cX9_lendsTo 69 = .ok (.iaload, 1) := by decide +kernel
theorem dX9_lendsTo_70 : decode cX9_lendsTo 70 = .ok (.iload_n 3, 1) := by decide +kernel
theorem dX9_lendsTo_71 : decode cX9_lendsTo 71 = .ok (.isub, 1) := by decide +kernel
theorem dX9_lendsTo_72 : decode cX9_lendsTo 72 = .ok (.iastore, 1) := by decide +kernel
theorem dX9_lendsTo_73 : decode cX9_lendsTo 73 = .ok (.aload_n 1, 1) := by decide +kernel
theorem dX9_lendsTo_74 : decode cX9_lendsTo 74 = .ok (.iload_n 2, 1) := by decide +kernel
theorem dX9_lendsTo_75 : decode cX9_lendsTo 75 = .ok (.iaload, 1) := by decide +kernel
theorem dX9_lendsTo_76 : decode cX9_lendsTo 76 = .ok (.ireturn, 1) := by decide +kernel
theorem dX9_givesBack_0 : decode cX9_givesBack 0 = .ok (.aload_n 0, 1) := by decide +kernel
theorem dX9_givesBack_1 : decode cX9_givesBack 1 = .ok (.iload_n 1, 1) := by decide +kernel
theorem dX9_givesBack_2 : decode cX9_givesBack 2 = .ok (.invokevirtual 123, 3) := by decide +kernel
theorem dX9_givesBack_5 : decode cX9_givesBack 5 = .ok (.ifCond .eq 15, 3) := by decide +kernel
theorem dX9_givesBack_8 : decode cX9_givesBack 8 = .ok (.iload_n 2, 1) := by decide +kernel
theorem dX9_givesBack_9 : decode cX9_givesBack 9 = .ok (.i2l, 1) := by decide +kernel
theorem dX9_givesBack_10 : decode cX9_givesBack 10 = .ok (.lconst 1, 1) := by decide +kernel
theorem dX9_givesBack_11 : decode cX9_givesBack 11 = .ok (.ldc2_w 317, 3) := by decide +kernel
theorem dX9_givesBack_14 : decode cX9_givesBack 14 = .ok (.invokestatic 119, 3) := by decide +kernel
theorem dX9_givesBack_17 : decode cX9_givesBack 17 = .ok (.ifCond .ne 5, 3) := by decide +kernel
theorem dX9_givesBack_20 : decode cX9_givesBack 20 = .ok (.iconst (-1), 1) := by decide +kernel
theorem dX9_givesBack_21 : decode cX9_givesBack 21 = .ok (.ireturn, 1) := by decide +kernel
theorem dX9_givesBack_22 : decode cX9_givesBack 22 = .ok (.aload_n 0, 1) := by decide +kernel
theorem dX9_givesBack_23 : decode cX9_givesBack 23 = .ok (.getfield 34, 3) := by decide +kernel
theorem dX9_givesBack_26 : decode cX9_givesBack 26 = .ok (.iload_n 1, 1) := by decide +kernel
theorem dX9_givesBack_27 : decode cX9_givesBack 27 = .ok (.iaload, 1) := by decide +kernel
theorem dX9_givesBack_28 : decode cX9_givesBack 28 = .ok (.iload_n 2, 1) := by decide +kernel
theorem dX9_givesBack_29 : decode cX9_givesBack 29 = .ok (.if_icmp .ge 6, 3) := by decide +kernel
theorem dX9_givesBack_32 : decode cX9_givesBack 32 = .ok (.bipush (-2), 2) := by decide +kernel
theorem dX9_givesBack_34 : decode cX9_givesBack 34 = .ok (.ireturn, 1) := by decide +kernel
theorem dX9_givesBack_35 : decode cX9_givesBack 35 = .ok (.aload_n 0, 1) := by decide +kernel
theorem dX9_givesBack_36 : decode cX9_givesBack 36 = .ok (.getfield 34, 3) := by decide +kernel
theorem dX9_givesBack_39 : decode cX9_givesBack 39 = .ok (.bipush 33, 2) := by decide +kernel
theorem dX9_givesBack_41 : decode cX9_givesBack 41 = .ok (.iaload, 1) := by decide +kernel
theorem dX9_givesBack_42 : decode cX9_givesBack 42 = .ok (.iload_n 2, 1) := by decide +kernel
theorem dX9_givesBack_43 : decode cX9_givesBack 43 = .ok (.iadd, 1) := by decide +kernel
theorem dX9_givesBack_44 : decode cX9_givesBack 44 = .ok (.bipush 99, 2) := by decide +kernel
theorem dX9_givesBack_46 : decode cX9_givesBack 46 = .ok (.if_icmp .le 6, 3) := by decide +kernel
theorem dX9_givesBack_49 : decode cX9_givesBack 49 = .ok (.bipush (-3), 2) := by decide +kernel
theorem dX9_givesBack_51 : decode cX9_givesBack 51 = .ok (.ireturn, 1) := by decide +kernel
theorem dX9_givesBack_52 : decode cX9_givesBack 52 = .ok (.aload_n 0, 1) := by decide +kernel
theorem dX9_givesBack_53 : decode cX9_givesBack 53 = .ok (.getfield 34, 3) := by decide +kernel
theorem dX9_givesBack_56 : decode cX9_givesBack 56 = .ok (.iload_n 1, 1) := by decide +kernel
theorem dX9_givesBack_57 : decode cX9_givesBack 57 = .ok (.dup2, 1) := by decide +kernel
theorem dX9_givesBack_58 : decode cX9_givesBack 58 = .ok (.iaload, 1) := by decide +kernel
theorem dX9_givesBack_59 : decode cX9_givesBack 59 = .ok (.iload_n 2, 1) := by decide +kernel
theorem dX9_givesBack_60 : decode cX9_givesBack 60 = .ok (.isub, 1) := by decide +kernel
theorem dX9_givesBack_61 : decode cX9_givesBack 61 = .ok (.iastore, 1) := by decide +kernel
theorem dX9_givesBack_62 : decode cX9_givesBack 62 = .ok (.aload_n 0, 1) := by decide +kernel
theorem dX9_givesBack_63 : decode cX9_givesBack 63 = .ok (.getfield 34, 3) := by decide +kernel
theorem dX9_givesBack_66 : decode cX9_givesBack 66 = .ok (.bipush 33, 2) := by decide +kernel
theorem dX9_givesBack_68 : decode cX9_givesBack 68 = .ok (.dup2, 1) := by decide +kernel
theorem dX9_givesBack_69 : decode cX9_givesBack 69 = .ok (.iaload, 1) := by decide +kernel
theorem dX9_givesBack_70 : decode cX9_givesBack 70 = .ok (.iload_n 2, 1) := by decide +kernel
theorem dX9_givesBack_71 : decode cX9_givesBack 71 = .ok (.iadd, 1) := by decide +kernel
theorem dX9_givesBack_72 : decode cX9_givesBack 72 = .ok (.iastore, 1) := by decide +kernel
theorem dX9_givesBack_73 : decode cX9_givesBack 73 = .ok (.aload_n 0, 1) := by decide +kernel
theorem dX9_givesBack_74 : decode cX9_givesBack 74 = .ok (.getfield 34, 3) := by decide +kernel
theorem dX9_givesBack_77 : decode cX9_givesBack 77 = .ok (.bipush 33, 2) := by decide +kernel
theorem dX9_givesBack_79 : decode cX9_givesBack 79 = .ok (.iaload, 1) := by decide +kernel
theorem dX9_givesBack_80 : decode cX9_givesBack 80 = .ok (.ireturn, 1) := by decide +kernel
theorem dX9_tiesTwo_0 : decode cX9_tiesTwo 0 = .ok (.aload_n 0, 1) := by decide +kernel
theorem dX9_tiesTwo_1 : decode cX9_tiesTwo 1 = .ok (.iload_n 2, 1) := by decide +kernel
theorem dX9_tiesTwo_2 : decode cX9_tiesTwo 2 = .ok (.invokevirtual 123, 3) := by decide +kernel
theorem dX9_tiesTwo_5 : decode cX9_tiesTwo 5 = .ok (.ifCond .eq 16, 3) := by decide +kernel
theorem dX9_tiesTwo_8 : decode cX9_tiesTwo 8 = .ok (.aload_n 0, 1) := by decide +kernel
theorem dX9_tiesTwo_9 : decode cX9_tiesTwo 9 = .ok (.iload_n 3, 1) := by decide +kernel
theorem dX9_tiesTwo_10 : decode cX9_tiesTwo 10 = .ok (.invokevirtual 123, 3) := by decide +kernel
theorem dX9_tiesTwo_13 : decode cX9_tiesTwo 13 = .ok (.ifCond .eq 8, 3) := by decide +kernel
theorem dX9_tiesTwo_16 : decode cX9_tiesTwo 16 = .ok (.iload_n 2, 1) := by decide +kernel
theorem dX9_tiesTwo_17 : decode cX9_tiesTwo 17 = .ok (.iload_n 3, 1) := by decide +kernel
theorem dX9_tiesTwo_18 : decode cX9_tiesTwo 18 = .ok (.if_icmp .ne 5, 3) := by decide +kernel
theorem dX9_tiesTwo_21 : decode cX9_tiesTwo 21 = .ok (.iconst (-1), 1) := by decide +kernel
theorem dX9_tiesTwo_22 : decode cX9_tiesTwo 22 = .ok (.ireturn, 1) := by decide +kernel
theorem dX9_tiesTwo_23 : decode cX9_tiesTwo 23 = .ok (.aload_n 0, 1) := by decide +kernel
theorem dX9_tiesTwo_24 : decode cX9_tiesTwo 24 = .ok (.aload_n 1, 1) := by decide +kernel
theorem dX9_tiesTwo_25 : decode cX9_tiesTwo 25 = .ok (.iload_n 2, 1) := by decide +kernel
theorem dX9_tiesTwo_26 : decode cX9_tiesTwo 26 = .ok (.invokevirtual 202, 3) := by decide +kernel
theorem dX9_tiesTwo_29 : decode cX9_tiesTwo 29 = .ok (.ifCond .eq 12, 3) := by decide +kernel
theorem dX9_tiesTwo_32 : decode cX9_tiesTwo 32 = .ok (.aload_n 0, 1) := by decide +kernel
theorem dX9_tiesTwo_33 : decode cX9_tiesTwo 33 = .ok (.aload_n 1, 1) := by decide +kernel
theorem dX9_tiesTwo_34 : decode cX9_tiesTwo 34 = .ok (.iload_n 3, 1) := by decide +kernel
theorem dX9_tiesTwo_35 : decode cX9_tiesTwo 35 = .ok (.invokevirtual 202, 3) := by decide +kernel
theorem dX9_tiesTwo_38 : decode cX9_tiesTwo 38 = .ok (.ifCond .ne 6, 3) := by decide +kernel
theorem dX9_tiesTwo_41 : decode cX9_tiesTwo 41 = .ok (.bipush (-2), 2) := by decide +kernel
theorem dX9_tiesTwo_43 : decode cX9_tiesTwo 43 = .ok (.ireturn, 1) := by decide +kernel
theorem dX9_tiesTwo_44 : decode cX9_tiesTwo 44 = .ok (.aload_n 1, 1) := by decide +kernel
theorem dX9_tiesTwo_45 : decode cX9_tiesTwo 45 = .ok (.iload_n 2, 1) := by decide +kernel
theorem dX9_tiesTwo_46 : decode cX9_tiesTwo 46 = .ok (.iload_n 3, 1) := by decide +kernel
theorem dX9_tiesTwo_47 : decode cX9_tiesTwo 47 = .ok (.invokestatic 212, 3) := by decide +kernel
theorem dX9_tiesTwo_50 : decode cX9_tiesTwo 50 = .ok (.aload_n 0, 1) := by decide +kernel
theorem dX9_tiesTwo_51 : decode cX9_tiesTwo 51 = .ok (.aload_n 1, 1) := by decide +kernel
theorem dX9_tiesTwo_52 : decode cX9_tiesTwo 52 = .ok (.invokevirtual 319, 3) := by decide +kernel
theorem dX9_tiesTwo_55 : decode cX9_tiesTwo 55 = .ok (.ireturn, 1) := by decide +kernel
theorem dX9_paysAll_0 : decode cX9_paysAll 0 = .ok (.aload_n 0, 1) := by decide +kernel
theorem dX9_paysAll_1 : decode cX9_paysAll 1 = .ok (.iload_n 1, 1) := by decide +kernel
theorem dX9_paysAll_2 : decode cX9_paysAll 2 = .ok (.invokevirtual 123, 3) := by decide +kernel
theorem dX9_paysAll_5 : decode cX9_paysAll 5 = .ok (.ifCond .ne 5, 3) := by decide +kernel
theorem dX9_paysAll_8 : decode cX9_paysAll 8 = .ok (.iconst (-1), 1) := by decide +kernel
theorem dX9_paysAll_9 : decode cX9_paysAll 9 = .ok (.ireturn, 1) := by decide +kernel
theorem dX9_paysAll_10 : decode cX9_paysAll 10 = .ok (.aload_n 0, 1) := by decide +kernel
theorem dX9_paysAll_11 : decode cX9_paysAll 11 = .ok (.getfield 34, 3) := by decide +kernel
theorem dX9_paysAll_14 : decode cX9_paysAll 14 = .ok (.bipush 16, 2) := by decide +kernel
theorem dX9_paysAll_16 : decode cX9_paysAll 16 = .ok (.iload_n 1, 1) := by decide +kernel
theorem dX9_paysAll_17 : decode cX9_paysAll 17 = .ok (.iadd, 1) := by decide +kernel
theorem dX9_paysAll_18 : decode cX9_paysAll 18 = .ok (.iaload, 1) := by decide +kernel
theorem dX9_paysAll_19 : decode cX9_paysAll 19 = .ok (.istore_n 2, 1) := by decide +kernel
theorem dX9_paysAll_20 : decode cX9_paysAll 20 = .ok (.aload_n 0, 1) := by decide +kernel
theorem dX9_paysAll_21 : decode cX9_paysAll 21 = .ok (.getfield 34, 3) := by decide +kernel
theorem dX9_paysAll_24 : decode cX9_paysAll 24 = .ok (.bipush 16, 2) := by decide +kernel
theorem dX9_paysAll_26 : decode cX9_paysAll 26 = .ok (.iload_n 1, 1) := by decide +kernel
theorem dX9_paysAll_27 : decode cX9_paysAll 27 = .ok (.iadd, 1) := by decide +kernel
theorem dX9_paysAll_28 : decode cX9_paysAll 28 = .ok (.iconst 0, 1) := by decide +kernel
theorem dX9_paysAll_29 : decode cX9_paysAll 29 = .ok (.iastore, 1) := by decide +kernel
theorem dX9_paysAll_30 : decode cX9_paysAll 30 = .ok (.aload_n 0, 1) := by decide +kernel
theorem dX9_paysAll_31 : decode cX9_paysAll 31 = .ok (.getfield 34, 3) := by decide +kernel
theorem dX9_paysAll_34 : decode cX9_paysAll 34 = .ok (.bipush 34, 2) := by decide +kernel
theorem dX9_paysAll_36 : decode cX9_paysAll 36 = .ok (.sipush 9999, 3) := by decide +kernel
theorem dX9_paysAll_39 : decode cX9_paysAll 39 = .ok (.aload_n 0, 1) := by decide +kernel
theorem dX9_paysAll_40 : decode cX9_paysAll 40 = .ok (.getfield 34, 3) := by decide +kernel
theorem dX9_paysAll_43 : decode cX9_paysAll 43 = .ok (.bipush 34, 2) := by decide +kernel
theorem dX9_paysAll_45 : decode cX9_paysAll 45 = .ok (.iaload, 1) := by decide +kernel
theorem dX9_paysAll_46 : decode cX9_paysAll 46 = .ok (.iload_n 2, 1) := by decide +kernel
theorem dX9_paysAll_47 : decode cX9_paysAll 47 = .ok (.iadd, 1) := by decide +kernel
theorem dX9_paysAll_48 : decode cX9_paysAll 48 = .ok (.invokestatic 150, 3) := by decide +kernel
theorem dX9_paysAll_51 : decode cX9_paysAll 51 = .ok (.iastore, 1) := by decide +kernel
theorem dX9_paysAll_52 : decode cX9_paysAll 52 = .ok (.iload_n 2, 1) := by decide +kernel
theorem dX9_paysAll_53 : decode cX9_paysAll 53 = .ok (.ifCond .ne 8, 3) := by decide +kernel
theorem dX9_paysAll_56 : decode cX9_paysAll 56 = .ok (.bipush (-2), 2) := by decide +kernel
theorem dX9_paysAll_58 : decode cX9_paysAll 58 = .ok (.goto 4, 3) := by decide +kernel
theorem dX9_paysAll_61 : decode cX9_paysAll 61 = .ok (.iload_n 2, 1) := by decide +kernel
theorem dX9_paysAll_62 : decode cX9_paysAll 62 = .ok (.ireturn, 1) := by decide +kernel
theorem dX9_hours_0 : decode cX9_hours 0 = .ok (.aload_n 0, 1) := by decide +kernel
theorem dX9_hours_1 : decode cX9_hours 1 = .ok (.iconst 0, 1) := by decide +kernel
theorem dX9_hours_2 : decode cX9_hours 2 = .ok (.putfield 3, 3) := by decide +kernel
theorem dX9_hours_5 : decode cX9_hours 5 = .ok (.iload_n 1, 1) := by decide +kernel
theorem dX9_hours_6 : decode cX9_hours 6 = .ok (.i2l, 1) := by decide +kernel
theorem dX9_hours_7 : decode cX9_hours 7 = .ok (.lconst 0, 1) := by decide +kernel
theorem dX9_hours_8 : decode cX9_hours 8 = .ok (.ldc2_w 322, 3) := by decide +kernel
theorem dX9_hours_11 : decode cX9_hours 11 = .ok (.invokestatic 119, 3) := by decide +kernel
theorem dX9_hours_14 : decode cX9_hours 14 = .ok (.ifCond .ne 5, 3) := by decide +kernel
theorem dX9_hours_17 : decode cX9_hours 17 = .ok (.iconst (-1), 1) := by decide +kernel
theorem dX9_hours_18 : decode cX9_hours 18 = .ok (.ireturn, 1) := by decide +kernel
theorem dX9_hours_19 : decode cX9_hours 19 = .ok (.aload_n 0, 1) := by decide +kernel
theorem dX9_hours_20 : decode cX9_hours 20 = .ok (.invokevirtual 209, 3) := by decide +kernel
theorem dX9_hours_23 : decode cX9_hours 23 = .ok (.aload_n 0, 1) := by decide +kernel
theorem dX9_hours_24 : decode cX9_hours 24 = .ok (.aload_n 0, 1) := by decide +kernel
theorem dX9_hours_25 : decode cX9_hours 25 = .ok (.getfield 34, 3) := by decide +kernel
theorem dX9_hours_28 : decode cX9_hours 28 = .ok (.iload_n 1, 1) := by decide +kernel
theorem dX9_hours_29 : decode cX9_hours 29 = .ok (.invokevirtual 324, 3) := by decide +kernel
theorem dX9_hours_32 : decode cX9_hours 32 = .ok (.aload_n 0, 1) := by decide +kernel
theorem dX9_hours_33 : decode cX9_hours 33 = .ok (.iconst 0, 1) := by decide +kernel
theorem dX9_hours_34 : decode cX9_hours 34 = .ok (.putfield 15, 3) := by decide +kernel
theorem dX9_hours_37 : decode cX9_hours 37 = .ok (.aload_n 0, 1) := by decide +kernel
theorem dX9_hours_38 : decode cX9_hours 38 = .ok (.aload_n 0, 1) := by decide +kernel
theorem dX9_hours_39 : decode cX9_hours 39 = .ok (.getfield 297, 3) := by decide +kernel
theorem dX9_hours_42 : decode cX9_hours 42 = .ok (.i2l, 1) := by decide +kernel
theorem dX9_hours_43 : decode cX9_hours 43 = .ok (.invokevirtual 327, 3) := by decide +kernel
theorem dX9_hours_46 : decode cX9_hours 46 = .ok (.aload_n 0, 1) := by decide +kernel
theorem dX9_hours_47 : decode cX9_hours 47 = .ok (.aload_n 0, 1) := by decide +kernel
theorem dX9_hours_48 : decode cX9_hours 48 = .ok (.getfield 300, 3) := by decide +kernel
theorem dX9_hours_51 : decode cX9_hours 51 = .ok (.i2l, 1) := by decide +kernel
theorem dX9_hours_52 : decode cX9_hours 52 = .ok (.invokevirtual 327, 3) := by decide +kernel
theorem dX9_hours_55 : decode cX9_hours 55 = .ok (.aload_n 0, 1) := by decide +kernel
theorem dX9_hours_56 : decode cX9_hours 56 = .ok (.aload_n 0, 1) := by decide +kernel
theorem dX9_hours_57 : decode cX9_hours 57 = .ok (.aload_n 0, 1) := by decide +kernel
theorem dX9_hours_58 : decode cX9_hours 58 = .ok (.getfield 34, 3) := by decide +kernel
theorem dX9_hours_61 : decode cX9_hours 61 = .ok (.invokevirtual 307, 3) := by decide +kernel
theorem dX9_hours_64 : decode cX9_hours 64 = .ok (.invokevirtual 216, 3) := by decide +kernel
theorem dX9_hours_67 : decode cX9_hours 67 = .ok (.ireturn, 1) := by decide +kernel
theorem dX9_lends_0 : decode cX9_lends 0 = .ok (.aload_n 0, 1) := by decide +kernel
theorem dX9_lends_1 : decode cX9_lends 1 = .ok (.iconst 0, 1) := by decide +kernel
theorem dX9_lends_2 : decode cX9_lends 2 = .ok (.putfield 3, 3) := by decide +kernel
theorem dX9_lends_5 : decode cX9_lends 5 = .ok (.aload_n 0, 1) := by decide +kernel
theorem dX9_lends_6 : decode cX9_lends 6 = .ok (.invokevirtual 209, 3) := by decide +kernel
theorem dX9_lends_9 : decode cX9_lends 9 = .ok (.aload_n 0, 1) := by decide +kernel
theorem dX9_lends_10 : decode cX9_lends 10 = .ok (.aload_n 0, 1) := by decide +kernel
theorem dX9_lends_11 : decode cX9_lends 11 = .ok (.aload_n 0, 1) := by decide +kernel
theorem dX9_lends_12 : decode cX9_lends 12 = .ok (.getfield 34, 3) := by decide +kernel
theorem dX9_lends_15 : decode cX9_lends 15 = .ok (.iload_n 1, 1) := by decide +kernel
theorem dX9_lends_16 : decode cX9_lends 16 = .ok (.iload_n 2, 1) := by decide +kernel
theorem dX9_lends_17 : decode cX9_lends 17 = .ok (.invokevirtual 331, 3) := by decide +kernel
theorem dX9_lends_20 : decode cX9_lends 20 = .ok (.invokevirtual 334, 3) := by decide +kernel
theorem dX9_lends_23 : decode cX9_lends 23 = .ok (.ireturn, 1) := by decide +kernel
theorem dX9_gives_0 : decode cX9_gives 0 = .ok (.aload_n 0, 1) := by decide +kernel
theorem dX9_gives_1 : decode cX9_gives 1 = .ok (.iconst 0, 1) := by decide +kernel
theorem dX9_gives_2 : decode cX9_gives 2 = .ok (.putfield 3, 3) := by decide +kernel
theorem dX9_gives_5 : decode cX9_gives 5 = .ok (.aload_n 0, 1) := by decide +kernel
theorem dX9_gives_6 : decode cX9_gives 6 = .ok (.invokevirtual 209, 3) := by decide +kernel
theorem dX9_gives_9 : decode cX9_gives 9 = .ok (.aload_n 0, 1) := by decide +kernel
theorem dX9_gives_10 : decode cX9_gives 10 = .ok (.aload_n 0, 1) := by decide +kernel
theorem dX9_gives_11 : decode cX9_gives 11 = .ok (.iload_n 1, 1) := by decide +kernel
theorem dX9_gives_12 : decode cX9_gives 12 = .ok (.iload_n 2, 1) := by decide +kernel
theorem dX9_gives_13 : decode cX9_gives 13 = .ok (.invokevirtual 337, 3) := by decide +kernel
theorem dX9_gives_16 : decode cX9_gives 16 = .ok (.invokevirtual 334, 3) := by decide +kernel
theorem dX9_gives_19 : decode cX9_gives 19 = .ok (.ireturn, 1) := by decide +kernel
theorem dX9_ties_0 : decode cX9_ties 0 = .ok (.aload_n 0, 1) := by decide +kernel
theorem dX9_ties_1 : decode cX9_ties 1 = .ok (.iconst 0, 1) := by decide +kernel
theorem dX9_ties_2 : decode cX9_ties 2 = .ok (.putfield 3, 3) := by decide +kernel
theorem dX9_ties_5 : decode cX9_ties 5 = .ok (.aload_n 0, 1) := by decide +kernel
theorem dX9_ties_6 : decode cX9_ties 6 = .ok (.invokevirtual 209, 3) := by decide +kernel
theorem dX9_ties_9 : decode cX9_ties 9 = .ok (.aload_n 0, 1) := by decide +kernel
theorem dX9_ties_10 : decode cX9_ties 10 = .ok (.aload_n 0, 1) := by decide +kernel
theorem dX9_ties_11 : decode cX9_ties 11 = .ok (.aload_n 0, 1) := by decide +kernel
theorem dX9_ties_12 : decode cX9_ties 12 = .ok (.getfield 34, 3) := by decide +kernel
theorem dX9_ties_15 : decode cX9_ties 15 = .ok (.iload_n 1, 1) := by decide +kernel
theorem dX9_ties_16 : decode cX9_ties 16 = .ok (.iload_n 2, 1) := by decide +kernel
theorem dX9_ties_17 : decode cX9_ties 17 = .ok (.invokevirtual 340, 3) := by decide +kernel
theorem dX9_ties_20 : decode cX9_ties 20 = .ok (.invokevirtual 334, 3) := by decide +kernel
theorem dX9_ties_23 : decode cX9_ties 23 = .ok (.ireturn, 1) := by decide +kernel
theorem dX9_pays_0 : decode cX9_pays 0 = .ok (.aload_n 0, 1) := by decide +kernel
theorem dX9_pays_1 : decode cX9_pays 1 = .ok (.iconst 0, 1) := by decide +kernel
theorem dX9_pays_2 : decode cX9_pays 2 = .ok (.putfield 3, 3) := by decide +kernel
theorem dX9_pays_5 : decode cX9_pays 5 = .ok (.aload_n 0, 1) := by decide +kernel
theorem dX9_pays_6 : decode cX9_pays 6 = .ok (.invokevirtual 209, 3) := by decide +kernel
theorem dX9_pays_9 : decode cX9_pays 9 = .ok (.aload_n 0, 1) := by decide +kernel
theorem dX9_pays_10 : decode cX9_pays 10 = .ok (.aload_n 0, 1) := by decide +kernel
theorem dX9_pays_11 : decode cX9_pays 11 = .ok (.iload_n 1, 1) := by decide +kernel
theorem dX9_pays_12 : decode cX9_pays 12 = .ok (.invokevirtual 343, 3) := by decide +kernel
theorem dX9_pays_15 : decode cX9_pays 15 = .ok (.invokevirtual 334, 3) := by decide +kernel
theorem dX9_pays_18 : decode cX9_pays 18 = .ok (.ireturn, 1) := by decide +kernel
theorem dX9_digs_0 : decode cX9_digs 0 = .ok (.aload_n 0, 1) := by decide +kernel
theorem dX9_digs_1 : decode cX9_digs 1 = .ok (.iconst 0, 1) := by decide +kernel
theorem dX9_digs_2 : decode cX9_digs 2 = .ok (.putfield 3, 3) := by decide +kernel
theorem dX9_digs_5 : decode cX9_digs 5 = .ok (.iload_n 1, 1) := by decide +kernel
theorem dX9_digs_6 : decode cX9_digs 6 = .ok (.i2l, 1) := by decide +kernel
theorem dX9_digs_7 : decode cX9_digs 7 = .ok (.lconst 1, 1) := by decide +kernel
theorem dX9_digs_8 : decode cX9_digs 8 = .ok (.ldc2_w 346, 3) := by decide +kernel
theorem dX9_digs_11 : decode cX9_digs 11 = .ok (.invokestatic 119, 3) := by decide +kernel
theorem dX9_digs_14 : decode cX9_digs 14 = .ok (.ifCond .ne 5, 3) := by decide +kernel
theorem dX9_digs_17 : decode cX9_digs 17 = .ok (.iconst (-1), 1) := by decide +kernel
theorem dX9_digs_18 : decode cX9_digs 18 = .ok (.ireturn, 1) := by decide +kernel
theorem dX9_digs_19 : decode cX9_digs 19 = .ok (.aload_n 0, 1) := by decide +kernel
theorem dX9_digs_20 : decode cX9_digs 20 = .ok (.getfield 34, 3) := by decide +kernel
theorem dX9_digs_23 : decode cX9_digs 23 = .ok (.bipush 33, 2) := by decide +kernel
theorem dX9_digs_25 : decode cX9_digs 25 = .ok (.iaload, 1) := by decide +kernel
theorem dX9_digs_26 : decode cX9_digs 26 = .ok (.iload_n 1, 1) := by decide +kernel
theorem dX9_digs_27 : decode cX9_digs 27 = .ok (.iadd, 1) := by decide +kernel
theorem dX9_digs_28 : decode cX9_digs 28 = .ok (.bipush 99, 2) := by decide +kernel
theorem dX9_digs_30 : decode cX9_digs 30 = .ok (.if_icmp .le 6, 3) := by decide +kernel
theorem dX9_digs_33 : decode cX9_digs 33 = .ok (.bipush (-3), 2) := by decide +kernel
theorem dX9_digs_35 : decode cX9_digs 35 = .ok (.ireturn, 1) := by decide +kernel
theorem dX9_digs_36 : decode cX9_digs 36 = .ok (.aload_n 0, 1) := by decide +kernel
theorem dX9_digs_37 : decode cX9_digs 37 = .ok (.invokevirtual 209, 3) := by decide +kernel
theorem dX9_digs_40 : decode cX9_digs 40 = .ok (.aload_n 0, 1) := by decide +kernel
theorem dX9_digs_41 : decode cX9_digs 41 = .ok (.getfield 34, 3) := by decide +kernel
theorem dX9_digs_44 : decode cX9_digs 44 = .ok (.bipush 33, 2) := by decide +kernel
theorem dX9_digs_46 : decode cX9_digs 46 = .ok (.dup2, 1) := by decide +kernel
theorem dX9_digs_47 : decode cX9_digs 47 = .ok (.iaload, 1) := by decide +kernel
theorem dX9_digs_48 : decode cX9_digs 48 = .ok (.iload_n 1, 1) := by decide +kernel
theorem dX9_digs_49 : decode cX9_digs 49 = .ok (.iadd, 1) := by decide +kernel
theorem dX9_digs_50 : decode cX9_digs 50 = .ok (.iastore, 1) := by decide +kernel
theorem dX9_digs_51 : decode cX9_digs 51 = .ok (.aload_n 0, 1) := by decide +kernel
theorem dX9_digs_52 : decode cX9_digs 52 = .ok (.aload_n 0, 1) := by decide +kernel
theorem dX9_digs_53 : decode cX9_digs 53 = .ok (.getfield 34, 3) := by decide +kernel
theorem dX9_digs_56 : decode cX9_digs 56 = .ok (.bipush 33, 2) := by decide +kernel
theorem dX9_digs_58 : decode cX9_digs 58 = .ok (.iaload, 1) := by decide +kernel
theorem dX9_digs_59 : decode cX9_digs 59 = .ok (.invokevirtual 216, 3) := by decide +kernel
theorem dX9_digs_62 : decode cX9_digs 62 = .ok (.ireturn, 1) := by decide +kernel
theorem dX9_readsAct_0 : decode cX9_readsAct 0 = .ok (.aload_n 0, 1) := by decide +kernel
theorem dX9_readsAct_1 : decode cX9_readsAct 1 = .ok (.getfield 348, 3) := by decide +kernel
theorem dX9_readsAct_4 : decode cX9_readsAct 4 = .ok (.istore_n 1, 1) := by decide +kernel
theorem dX9_readsAct_5 : decode cX9_readsAct 5 = .ok (.aload_n 0, 1) := by decide +kernel
theorem dX9_readsAct_6 : decode cX9_readsAct 6 = .ok (.getfield 61, 3) := by decide +kernel
theorem dX9_readsAct_9 : decode cX9_readsAct 9 = .ok (.iload_n 1, 1) := by decide +kernel
theorem dX9_readsAct_10 : decode cX9_readsAct 10 = .ok (.aload_n 0, 1) := by decide +kernel
theorem dX9_readsAct_11 : decode cX9_readsAct 11 = .ok (.ldc_w 351, 3) := by decide +kernel
theorem dX9_readsAct_14 : decode cX9_readsAct 14 = .ok (.invokevirtual 234, 3) := by decide +kernel
theorem dX9_readsAct_17 : decode cX9_readsAct 17 = .ok (.iastore, 1) := by decide +kernel
theorem dX9_readsAct_18 : decode cX9_readsAct 18 = .ok (.aload_n 0, 1) := by decide +kernel
theorem dX9_readsAct_19 : decode cX9_readsAct 19 = .ok (.dup, 1) := by decide +kernel
theorem dX9_readsAct_20 : decode cX9_readsAct 20 = .ok (.getfield 348, 3) := by decide +kernel
theorem dX9_readsAct_23 : decode cX9_readsAct 23 = .ok (.iconst 1, 1) := by decide +kernel
theorem dX9_readsAct_24 : decode cX9_readsAct 24 = .ok (.iadd, 1) := by decide +kernel
theorem dX9_readsAct_25 : decode cX9_readsAct 25 = .ok (.putfield 348, 3) := by decide +kernel
theorem dX9_readsAct_28 : decode cX9_readsAct 28 = .ok (.aload_n 0, 1) := by decide +kernel
theorem dX9_readsAct_29 : decode cX9_readsAct 29 = .ok (.getfield 61, 3) := by decide +kernel
theorem dX9_readsAct_32 : decode cX9_readsAct 32 = .ok (.iload_n 1, 1) := by decide +kernel
theorem dX9_readsAct_33 : decode cX9_readsAct 33 = .ok (.iaload, 1) := by decide +kernel
theorem dX9_readsAct_34 : decode cX9_readsAct 34 = .ok (.ifCond .ge 5, 3) := by decide +kernel
theorem dX9_readsAct_37 : decode cX9_readsAct 37 = .ok (.iconst 0, 1) := by decide +kernel
theorem dX9_readsAct_38 : decode cX9_readsAct 38 = .ok (.ireturn, 1) := by decide +kernel
theorem dX9_readsAct_39 : decode cX9_readsAct 39 = .ok (.aload_n 0, 1) := by decide +kernel
theorem dX9_readsAct_40 : decode cX9_readsAct 40 = .ok (.getfield 64, 3) := by decide +kernel
theorem dX9_readsAct_43 : decode cX9_readsAct 43 = .ok (.iload_n 1, 1) := by decide +kernel
theorem dX9_readsAct_44 : decode cX9_readsAct 44 = .ok (.aload_n 0, 1) := by decide +kernel
theorem dX9_readsAct_45 : decode cX9_readsAct 45 = .ok (.iconst 1, 1) := by decide +kernel
theorem dX9_readsAct_46 : decode cX9_readsAct 46 = .ok (.invokevirtual 219, 3) := by decide +kernel
theorem dX9_readsAct_49 : decode cX9_readsAct 49 = .ok (.iastore, 1) := by decide +kernel
theorem dX9_readsAct_50 : decode cX9_readsAct 50 = .ok (.aload_n 0, 1) := by decide +kernel
theorem dX9_readsAct_51 : decode cX9_readsAct 51 = .ok (.getfield 64, 3) := by decide +kernel
theorem dX9_readsAct_54 : decode cX9_readsAct 54 = .ok (.iload_n 1, 1) := by decide +kernel
theorem dX9_readsAct_55 : decode cX9_readsAct 55 = .ok (.iaload, 1) := by decide +kernel
theorem dX9_readsAct_56 : decode cX9_readsAct 56 = .ok (.ifCond .lt 13, 3) := by decide +kernel
theorem dX9_readsAct_59 : decode cX9_readsAct 59 = .ok (.aload_n 0, 1) := by decide +kernel
theorem dX9_readsAct_60 : decode cX9_readsAct 60 = .ok (.getfield 61, 3) := by decide +kernel
theorem dX9_readsAct_63 : decode cX9_readsAct 63 = .ok (.iload_n 1, 1) := by decide +kernel
theorem dX9_readsAct_64 : decode cX9_readsAct 64 = .ok (.iaload, 1) := by decide +kernel
theorem dX9_readsAct_65 : decode cX9_readsAct 65 = .ok (.iconst 2, 1) := by decide +kernel
theorem dX9_readsAct_66 : decode cX9_readsAct 66 = .ok (.if_icmp .ge 18, 3) := by decide +kernel
theorem dX9_readsAct_69 : decode cX9_readsAct 69 = .ok (.aload_n 0, 1) := by decide +kernel
theorem dX9_readsAct_70 : decode cX9_readsAct 70 = .ok (.getfield 64, 3) := by decide +kernel
theorem dX9_readsAct_73 : decode cX9_readsAct 73 = .ok (.iload_n 1, 1) := by decide +kernel
theorem dX9_readsAct_74 : decode cX9_readsAct 74 = .ok (.iaload, 1) := by decide +kernel
theorem dX9_readsAct_75 : decode cX9_readsAct 75 = .ok (.ifCond .lt 7, 3) := by decide +kernel
theorem dX9_readsAct_78 : decode cX9_readsAct 78 = .ok (.iconst 1, 1) := by decide +kernel
theorem dX9_readsAct_79 : decode cX9_readsAct 79 = .ok (.goto 4, 3) := by decide +kernel
theorem dX9_readsAct_82 : decode cX9_readsAct 82 = .ok (.iconst 0, 1) := by decide +kernel
theorem dX9_readsAct_83 : decode cX9_readsAct 83 = .ok (.ireturn, 1) := by decide +kernel
theorem dX9_readsAct_84 : decode cX9_readsAct 84 = .ok (.aload_n 0, 1) := by decide +kernel
theorem dX9_readsAct_85 : decode cX9_readsAct 85 = .ok (.getfield 67, 3) := by decide +kernel
theorem dX9_readsAct_88 : decode cX9_readsAct 88 = .ok (.iload_n 1, 1) := by decide +kernel
theorem dX9_readsAct_89 : decode cX9_readsAct 89 = .ok (.aload_n 0, 1) := by decide +kernel
theorem dX9_readsAct_90 : decode cX9_readsAct 90 = .ok (.aload_n 0, 1) := by decide +kernel
theorem dX9_readsAct_91 : decode cX9_readsAct 91 = .ok (.getfield 61, 3) := by decide +kernel
theorem dX9_readsAct_94 : decode cX9_readsAct 94 = .ok (.iload_n 1, 1) := by decide +kernel
theorem dX9_readsAct_95 : decode cX9_readsAct 95 = .ok (.iaload, 1) := by decide +kernel
theorem dX9_readsAct_96 : decode cX9_readsAct 96 = .ok (.iconst 2, 1) := by decide +kernel
theorem dX9_readsAct_97 : decode cX9_readsAct 97 = .ok (.if_icmp .le 7, 3) := by decide +kernel
theorem dX9_readsAct_100 : decode cX9_readsAct 100 = .ok (.iconst 1, 1) := by decide +kernel
theorem dX9_readsAct_101 : decode cX9_readsAct 101 = .ok (.goto 4, 3) := by decide +kernel
theorem dX9_readsAct_104 : decode cX9_readsAct 104 = .ok (.iconst 0, 1) := by decide +kernel
theorem dX9_readsAct_105 : decode cX9_readsAct 105 = .ok (.invokestatic 159, 3) := by decide +kernel
theorem dX9_readsAct_108 : decode cX9_readsAct 108 = .ok (.bipush 9, 2) := by decide +kernel
theorem dX9_readsAct_110 : decode cX9_readsAct 110 = .ok (.invokevirtual 186, 3) := by decide +kernel
theorem dX9_readsAct_113 : decode cX9_readsAct 113 = .ok (.iastore, 1) := by decide +kernel
theorem dX9_readsAct_114 : decode cX9_readsAct 114 = .ok (.aload_n 0, 1) := by decide +kernel
theorem dX9_readsAct_115 : decode cX9_readsAct 115 = .ok (.getfield 67, 3) := by decide +kernel
theorem dX9_readsAct_118 : decode cX9_readsAct 118 = .ok (.iload_n 1, 1) := by decide +kernel
theorem dX9_readsAct_119 : decode cX9_readsAct 119 = .ok (.iaload, 1) := by decide +kernel
theorem dX9_readsAct_120 : decode cX9_readsAct 120 = .ok (.ifCond .lt 7, 3) := by decide +kernel
theorem dX9_readsAct_123 : decode cX9_readsAct 123 = .ok (.iconst 1, 1) := by decide +kernel
theorem dX9_readsAct_124 : decode cX9_readsAct 124 = .ok (.goto 4, 3) := by decide +kernel
theorem dX9_readsAct_127 : decode cX9_readsAct 127 = .ok (.iconst 0, 1) := by decide +kernel
theorem dX9_readsAct_128 : decode cX9_readsAct 128 = .ok (.ireturn, 1) := by decide +kernel
theorem dX9_does_0 : decode cX9_does 0 = .ok (.aload_n 0, 1) := by decide +kernel
theorem dX9_does_1 : decode cX9_does 1 = .ok (.getfield 64, 3) := by decide +kernel
theorem dX9_does_4 : decode cX9_does 4 = .ok (.iload_n 1, 1) := by decide +kernel
theorem dX9_does_5 : decode cX9_does 5 = .ok (.iaload, 1) := by decide +kernel
theorem dX9_does_6 : decode cX9_does 6 = .ok (.istore_n 2, 1) := by decide +kernel
theorem dX9_does_7 : decode cX9_does 7 = .ok (.aload_n 0, 1) := by decide +kernel
theorem dX9_does_8 : decode cX9_does 8 = .ok (.getfield 61, 3) := by decide +kernel
theorem dX9_does_11 : decode cX9_does 11 = .ok (.iload_n 1, 1) := by decide +kernel
theorem dX9_does_12 : decode cX9_does 12 = .ok (.iaload, 1) := by decide +kernel
theorem dX9_does_13 : decode cX9_does 13 = .ok (.tableswitch 116 0 3 #[31, 54, 68, 92], 31) := by decide +kernel
theorem dX9_does_44 : decode cX9_does 44 = .ok (.iconst 0, 1) := by decide +kernel
theorem dX9_does_45 : decode cX9_does 45 = .ok (.istore_n 3, 1) := by decide +kernel
theorem dX9_does_46 : decode cX9_does 46 = .ok (.iload_n 3, 1) := by decide +kernel
theorem dX9_does_47 : decode cX9_does 47 = .ok (.iload_n 2, 1) := by decide +kernel
theorem dX9_does_48 : decode cX9_does 48 = .ok (.if_icmp .ge 17, 3) := by decide +kernel
theorem dX9_does_51 : decode cX9_does 51 = .ok (.aload_n 0, 1) := by decide +kernel
theorem dX9_does_52 : decode cX9_does 52 = .ok (.aload_n 0, 1) := by decide +kernel
theorem dX9_does_53 : decode cX9_does 53 = .ok (.getfield 34, 3) := by decide +kernel
theorem dX9_does_56 : decode cX9_does 56 = .ok (.invokevirtual 313, 3) := by decide +kernel
theorem dX9_does_59 : decode cX9_does 59 = .ok (.iinc 3 1, 3) := by decide +kernel
theorem dX9_does_62 : decode cX9_does 62 = .ok (.goto (-16), 3) := by decide +kernel
theorem dX9_does_65 : decode cX9_does 65 = .ok (.iconst 1, 1) := by decide +kernel
theorem dX9_does_66 : decode cX9_does 66 = .ok (.ireturn, 1) := by decide +kernel
theorem dX9_does_67 : decode cX9_does 67 = .ok (.aload_n 0, 1) := by decide +kernel
theorem dX9_does_68 : decode cX9_does 68 = .ok (.iload_n 2, 1) := by decide +kernel
theorem dX9_does_69 : decode cX9_does 69 = .ok (.invokevirtual 343, 3) := by decide +kernel
theorem dX9_does_72 : decode cX9_does 72 = .ok (.ifCond .lt 7, 3) := by decide +kernel
theorem dX9_does_75 : decode cX9_does 75 = .ok (.iconst 1, 1) := by decide +kernel
theorem dX9_does_76 : decode cX9_does 76 = .ok (.goto 4, 3) := by decide +kernel
theorem dX9_does_79 : decode cX9_does 79 = .ok (.iconst 0, 1) := by decide +kernel
theorem dX9_does_80 : decode cX9_does 80 = .ok (.ireturn, 1) := by decide +kernel
theorem dX9_does_81 : decode cX9_does 81 = .ok (.aload_n 0, 1) := by decide +kernel
theorem dX9_does_82 : decode cX9_does 82 = .ok (.aload_n 0, 1) := by decide +kernel
theorem dX9_does_83 : decode cX9_does 83 = .ok (.getfield 34, 3) := by decide +kernel
theorem dX9_does_86 : decode cX9_does 86 = .ok (.iload_n 2, 1) := by decide +kernel
theorem dX9_does_87 : decode cX9_does 87 = .ok (.aload_n 0, 1) := by decide +kernel
theorem dX9_does_88 : decode cX9_does 88 = .ok (.getfield 67, 3) := by decide +kernel
theorem dX9_does_91 : decode cX9_does 91 = .ok (.iload_n 1, 1) := by decide +kernel
theorem dX9_does_92 : decode cX9_does 92 = .ok (.iaload, 1) := by decide +kernel
theorem dX9_does_93 : decode cX9_does 93 = .ok (.invokevirtual 340, 3) := by decide +kernel
theorem dX9_does_96 : decode cX9_does 96 = .ok (.ifCond .lt 7, 3) := by decide +kernel
theorem dX9_does_99 : decode cX9_does 99 = .ok (.iconst 1, 1) := by decide +kernel
theorem dX9_does_100 : decode cX9_does 100 = .ok (.goto 4, 3) := by decide +kernel
theorem dX9_does_103 : decode cX9_does 103 = .ok (.iconst 0, 1) := by decide +kernel
theorem dX9_does_104 : decode cX9_does 104 = .ok (.ireturn, 1) := by decide +kernel
theorem dX9_does_105 : decode cX9_does 105 = .ok (.aload_n 0, 1) := by decide +kernel
theorem dX9_does_106 : decode cX9_does 106 = .ok (.aload_n 0, 1) := by decide +kernel
theorem dX9_does_107 : decode cX9_does 107 = .ok (.getfield 34, 3) := by decide +kernel
theorem dX9_does_110 : decode cX9_does 110 = .ok (.iload_n 2, 1) := by decide +kernel
theorem dX9_does_111 : decode cX9_does 111 = .ok (.aload_n 0, 1) := by decide +kernel
theorem dX9_does_112 : decode cX9_does 112 = .ok (.getfield 67, 3) := by decide +kernel
theorem dX9_does_115 : decode cX9_does 115 = .ok (.iload_n 1, 1) := by decide +kernel
theorem dX9_does_116 : decode cX9_does 116 = .ok (.iaload, 1) := by decide +kernel
theorem dX9_does_117 : decode cX9_does 117 = .ok (.invokevirtual 331, 3) := by decide +kernel
theorem dX9_does_120 : decode cX9_does 120 = .ok (.ifCond .lt 7, 3) := by decide +kernel
theorem dX9_does_123 : decode cX9_does 123 = .ok (.iconst 1, 1) := by decide +kernel
theorem dX9_does_124 : decode cX9_does 124 = .ok (.goto 4, 3) := by decide +kernel
theorem dX9_does_127 : decode cX9_does 127 = .ok (.iconst 0, 1) := by decide +kernel
theorem dX9_does_128 : decode cX9_does 128 = .ok (.ireturn, 1) := by decide +kernel
theorem dX9_does_129 : decode cX9_does 129 = .ok (.aload_n 0, 1) := by decide +kernel
theorem dX9_does_130 : decode cX9_does 130 = .ok (.iload_n 2, 1) := by decide +kernel
theorem dX9_does_131 : decode cX9_does 131 = .ok (.aload_n 0, 1) := by decide +kernel
theorem dX9_does_132 : decode cX9_does 132 = .ok (.getfield 67, 3) := by decide +kernel
theorem dX9_does_135 : decode cX9_does 135 = .ok (.iload_n 1, 1) := by decide +kernel
theorem dX9_does_136 : decode cX9_does 136 = .ok (.iaload, 1) := by decide +kernel
theorem dX9_does_137 : decode cX9_does 137 = .ok (.invokevirtual 337, 3) := by decide +kernel
theorem dX9_does_140 : decode cX9_does 140 = .ok (.ifCond .lt 7, 3) := by decide +kernel
theorem dX9_does_143 : decode cX9_does 143 = .ok (.iconst 1, 1) := by decide +kernel
theorem dX9_does_144 : decode cX9_does 144 = .ok (.goto 4, 3) := by decide +kernel
theorem dX9_does_147 : decode cX9_does 147 = .ok (.iconst 0, 1) := by decide +kernel
theorem dX9_does_148 : decode cX9_does 148 = .ok (.ireturn, 1) := by decide +kernel
theorem dX9_night_0 : decode cX9_night 0 = .ok (.aload_n 0, 1) := by decide +kernel
theorem dX9_night_1 : decode cX9_night 1 = .ok (.iconst 0, 1) := by decide +kernel
theorem dX9_night_2 : decode cX9_night 2 = .ok (.putfield 3, 3) := by decide +kernel
theorem dX9_night_5 : decode cX9_night 5 = .ok (.aload_n 0, 1) := by decide +kernel
theorem dX9_night_6 : decode cX9_night 6 = .ok (.bipush 60, 2) := by decide +kernel
theorem dX9_night_8 : decode cX9_night 8 = .ok (.invokevirtual 180, 3) := by decide +kernel
theorem dX9_night_11 : decode cX9_night 11 = .ok (.istore_n 1, 1) := by decide +kernel
theorem dX9_night_12 : decode cX9_night 12 = .ok (.aload_n 0, 1) := by decide +kernel
theorem dX9_night_13 : decode cX9_night 13 = .ok (.iconst 0, 1) := by decide +kernel
theorem dX9_night_14 : decode cX9_night 14 = .ok (.putfield 348, 3) := by decide +kernel
theorem dX9_night_17 : decode cX9_night 17 = .ok (.iconst 1, 1) := by decide +kernel
theorem dX9_night_18 : decode cX9_night 18 = .ok (.istore_n 2, 1) := by decide +kernel
theorem dX9_night_19 : decode cX9_night 19 = .ok (.iload_n 2, 1) := by decide +kernel
theorem dX9_night_20 : decode cX9_night 20 = .ok (.ifCond .eq 22, 3) := by decide +kernel
theorem dX9_night_23 : decode cX9_night 23 = .ok (.aload_n 0, 1) := by decide +kernel
theorem dX9_night_24 : decode cX9_night 24 = .ok (.getfield 144, 3) := by decide +kernel
theorem dX9_night_27 : decode cX9_night 27 = .ok (.aload_n 0, 1) := by decide +kernel
theorem dX9_night_28 : decode cX9_night 28 = .ok (.getfield 156, 3) := by decide +kernel
theorem dX9_night_31 : decode cX9_night 31 = .ok (.if_icmp .ge 11, 3) := by decide +kernel
theorem dX9_night_34 : decode cX9_night 34 = .ok (.aload_n 0, 1) := by decide +kernel
theorem dX9_night_35 : decode cX9_night 35 = .ok (.invokevirtual 353, 3) := by decide +kernel
theorem dX9_night_38 : decode cX9_night 38 = .ok (.istore_n 2, 1) := by decide +kernel
theorem dX9_night_39 : decode cX9_night 39 = .ok (.goto (-20), 3) := by decide +kernel
theorem dX9_night_42 : decode cX9_night 42 = .ok (.aload_n 0, 1) := by decide +kernel
theorem dX9_night_43 : decode cX9_night 43 = .ok (.iload_n 1, 1) := by decide +kernel
theorem dX9_night_44 : decode cX9_night 44 = .ok (.bipush 60, 2) := by decide +kernel
theorem dX9_night_46 : decode cX9_night 46 = .ok (.iload_n 2, 1) := by decide +kernel
theorem dX9_night_47 : decode cX9_night 47 = .ok (.invokevirtual 192, 3) := by decide +kernel
theorem dX9_night_50 : decode cX9_night 50 = .ok (.istore_n 3, 1) := by decide +kernel
theorem dX9_night_51 : decode cX9_night 51 = .ok (.iload_n 3, 1) := by decide +kernel
theorem dX9_night_52 : decode cX9_night 52 = .ok (.ifCond .ge 5, 3) := by decide +kernel
theorem dX9_night_55 : decode cX9_night 55 = .ok (.iload_n 3, 1) := by decide +kernel
theorem dX9_night_56 : decode cX9_night 56 = .ok (.ireturn, 1) := by decide +kernel
theorem dX9_night_57 : decode cX9_night 57 = .ok (.aload_n 0, 1) := by decide +kernel
theorem dX9_night_58 : decode cX9_night 58 = .ok (.invokevirtual 209, 3) := by decide +kernel
theorem dX9_night_61 : decode cX9_night 61 = .ok (.iconst 0, 1) := by decide +kernel
theorem dX9_night_62 : decode cX9_night 62 = .ok (.istore 4, 2) := by decide +kernel
theorem dX9_night_64 : decode cX9_night 64 = .ok (.iload 4, 2) := by decide +kernel
theorem dX9_night_66 : decode cX9_night 66 = .ok (.aload_n 0, 1) := by decide +kernel
theorem dX9_night_67 : decode cX9_night 67 = .ok (.getfield 348, 3) := by decide +kernel
theorem dX9_night_70 : decode cX9_night 70 = .ok (.if_icmp .ge 18, 3) := by decide +kernel
theorem dX9_night_73 : decode cX9_night 73 = .ok (.aload_n 0, 1) := by decide +kernel
theorem dX9_night_74 : decode cX9_night 74 = .ok (.iload 4, 2) := by decide +kernel
theorem dX9_night_76 : decode cX9_night 76 = .ok (.invokevirtual 356, 3) := by decide +kernel
theorem dX9_night_79 : decode cX9_night 79 = .ok (.ifCond .eq 9, 3) := by decide +kernel
theorem dX9_night_82 : decode cX9_night 82 = .ok (.iinc 4 1, 3) := by decide +kernel
theorem dX9_night_85 : decode cX9_night 85 = .ok (.goto (-21), 3) := by decide +kernel
theorem dX9_night_88 : decode cX9_night 88 = .ok (.aload_n 0, 1) := by decide +kernel
theorem dX9_night_89 : decode cX9_night 89 = .ok (.iconst 0, 1) := by decide +kernel
theorem dX9_night_90 : decode cX9_night 90 = .ok (.putfield 15, 3) := by decide +kernel
theorem dX9_night_93 : decode cX9_night 93 = .ok (.aload_n 0, 1) := by decide +kernel
theorem dX9_night_94 : decode cX9_night 94 = .ok (.iload 4, 2) := by decide +kernel
theorem dX9_night_96 : decode cX9_night 96 = .ok (.aload_n 0, 1) := by decide +kernel
theorem dX9_night_97 : decode cX9_night 97 = .ok (.getfield 348, 3) := by decide +kernel
theorem dX9_night_100 : decode cX9_night 100 = .ok (.if_icmp .ge 7, 3) := by decide +kernel
theorem dX9_night_103 : decode cX9_night 103 = .ok (.iconst 1, 1) := by decide +kernel
theorem dX9_night_104 : decode cX9_night 104 = .ok (.goto 4, 3) := by decide +kernel
theorem dX9_night_107 : decode cX9_night 107 = .ok (.iconst 0, 1) := by decide +kernel
theorem dX9_night_108 : decode cX9_night 108 = .ok (.invokestatic 159, 3) := by decide +kernel
theorem dX9_night_111 : decode cX9_night 111 = .ok (.i2l, 1) := by decide +kernel
theorem dX9_night_112 : decode cX9_night 112 = .ok (.invokevirtual 327, 3) := by decide +kernel
theorem dX9_night_115 : decode cX9_night 115 = .ok (.aload_n 0, 1) := by decide +kernel
theorem dX9_night_116 : decode cX9_night 116 = .ok (.aload_n 0, 1) := by decide +kernel
theorem dX9_night_117 : decode cX9_night 117 = .ok (.getfield 34, 3) := by decide +kernel
theorem dX9_night_120 : decode cX9_night 120 = .ok (.bipush 33, 2) := by decide +kernel
theorem dX9_night_122 : decode cX9_night 122 = .ok (.iaload, 1) := by decide +kernel
theorem dX9_night_123 : decode cX9_night 123 = .ok (.i2l, 1) := by decide +kernel
theorem dX9_night_124 : decode cX9_night 124 = .ok (.invokevirtual 327, 3) := by decide +kernel
theorem dX9_night_127 : decode cX9_night 127 = .ok (.iload 4, 2) := by decide +kernel
theorem dX9_night_129 : decode cX9_night 129 = .ok (.ifCond .le 12, 3) := by decide +kernel
theorem dX9_night_132 : decode cX9_night 132 = .ok (.aload_n 0, 1) := by decide +kernel
theorem dX9_night_133 : decode cX9_night 133 = .ok (.iload 4, 2) := by decide +kernel
theorem dX9_night_135 : decode cX9_night 135 = .ok (.invokevirtual 216, 3) := by decide +kernel
theorem dX9_night_138 : decode cX9_night 138 = .ok (.goto 4, 3) := by decide +kernel
theorem dX9_night_141 : decode cX9_night 141 = .ok (.iconst 0, 1) := by decide +kernel
theorem dX9_night_142 : decode cX9_night 142 = .ok (.ireturn, 1) := by decide +kernel
theorem dX9_copies_0 : decode cX9_copies 0 = .ok (.iconst 0, 1) := by decide +kernel
theorem dX9_copies_1 : decode cX9_copies 1 = .ok (.istore_n 1, 1) := by decide +kernel
theorem dX9_copies_2 : decode cX9_copies 2 = .ok (.iload_n 1, 1) := by decide +kernel
theorem dX9_copies_3 : decode cX9_copies 3 = .ok (.bipush 37, 2) := by decide +kernel
theorem dX9_copies_5 : decode cX9_copies 5 = .ok (.if_icmp .ge 21, 3) := by decide +kernel
theorem dX9_copies_8 : decode cX9_copies 8 = .ok (.aload_n 0, 1) := by decide +kernel
theorem dX9_copies_9 : decode cX9_copies 9 = .ok (.getfield 37, 3) := by decide +kernel
theorem dX9_copies_12 : decode cX9_copies 12 = .ok (.iload_n 1, 1) := by decide +kernel
theorem dX9_copies_13 : decode cX9_copies 13 = .ok (.aload_n 0, 1) := by decide +kernel
theorem dX9_copies_14 : decode cX9_copies 14 = .ok (.getfield 34, 3) := by decide +kernel
theorem dX9_copies_17 : decode cX9_copies 17 = .ok (.iload_n 1, 1) := by decide +kernel
theorem dX9_copies_18 : decode cX9_copies 18 = .ok (.iaload, 1) := by decide +kernel
theorem dX9_copies_19 : decode cX9_copies 19 = .ok (.iastore, 1) := by decide +kernel
theorem dX9_copies_20 : decode cX9_copies 20 = .ok (.iinc 1 1, 3) := by decide +kernel
theorem dX9_copies_23 : decode cX9_copies 23 = .ok (.goto (-21), 3) := by decide +kernel
theorem dX9_copies_26 : decode cX9_copies 26 = .ok (.return_, 1) := by decide +kernel
theorem dX9_floats_0 : decode cX9_floats 0 = .ok (.aload_n 0, 1) := by decide +kernel
theorem dX9_floats_1 : decode cX9_floats 1 = .ok (.iconst 0, 1) := by decide +kernel
theorem dX9_floats_2 : decode cX9_floats 2 = .ok (.putfield 3, 3) := by decide +kernel
theorem dX9_floats_5 : decode cX9_floats 5 = .ok (.aload_n 0, 1) := by decide +kernel
theorem dX9_floats_6 : decode cX9_floats 6 = .ok (.aload_n 0, 1) := by decide +kernel
theorem dX9_floats_7 : decode cX9_floats 7 = .ok (.getfield 34, 3) := by decide +kernel
theorem dX9_floats_10 : decode cX9_floats 10 = .ok (.invokevirtual 303, 3) := by decide +kernel
theorem dX9_floats_13 : decode cX9_floats 13 = .ok (.istore_n 1, 1) := by decide +kernel
theorem dX9_floats_14 : decode cX9_floats 14 = .ok (.aload_n 0, 1) := by decide +kernel
theorem dX9_floats_15 : decode cX9_floats 15 = .ok (.iconst 0, 1) := by decide +kernel
theorem dX9_floats_16 : decode cX9_floats 16 = .ok (.putfield 15, 3) := by decide +kernel
theorem dX9_floats_19 : decode cX9_floats 19 = .ok (.aload_n 0, 1) := by decide +kernel
theorem dX9_floats_20 : decode cX9_floats 20 = .ok (.aload_n 0, 1) := by decide +kernel
theorem dX9_floats_21 : decode cX9_floats 21 = .ok (.aload_n 0, 1) := by decide +kernel
theorem dX9_floats_22 : decode cX9_floats 22 = .ok (.getfield 34, 3) := by decide +kernel
theorem dX9_floats_25 : decode cX9_floats 25 = .ok (.invokevirtual 359, 3) := by decide +kernel
theorem dX9_floats_28 : decode cX9_floats 28 = .ok (.invokestatic 135, 3) := by decide +kernel
theorem dX9_floats_31 : decode cX9_floats 31 = .ok (.i2l, 1) := by decide +kernel
theorem dX9_floats_32 : decode cX9_floats 32 = .ok (.invokevirtual 327, 3) := by decide +kernel
theorem dX9_floats_35 : decode cX9_floats 35 = .ok (.aload_n 0, 1) := by decide +kernel
theorem dX9_floats_36 : decode cX9_floats 36 = .ok (.aload_n 0, 1) := by decide +kernel
theorem dX9_floats_37 : decode cX9_floats 37 = .ok (.aload_n 0, 1) := by decide +kernel
theorem dX9_floats_38 : decode cX9_floats 38 = .ok (.getfield 34, 3) := by decide +kernel
theorem dX9_floats_41 : decode cX9_floats 41 = .ok (.invokevirtual 359, 3) := by decide +kernel
theorem dX9_floats_44 : decode cX9_floats 44 = .ok (.iload_n 1, 1) := by decide +kernel
theorem dX9_floats_45 : decode cX9_floats 45 = .ok (.iand, 1) := by decide +kernel
theorem dX9_floats_46 : decode cX9_floats 46 = .ok (.invokestatic 135, 3) := by decide +kernel
theorem dX9_floats_49 : decode cX9_floats 49 = .ok (.i2l, 1) := by decide +kernel
theorem dX9_floats_50 : decode cX9_floats 50 = .ok (.invokevirtual 327, 3) := by decide +kernel
theorem dX9_floats_53 : decode cX9_floats 53 = .ok (.iload_n 1, 1) := by decide +kernel
theorem dX9_floats_54 : decode cX9_floats 54 = .ok (.ireturn, 1) := by decide +kernel
theorem dX9_spare_0 : decode cX9_spare 0 = .ok (.aload_n 0, 1) := by decide +kernel
theorem dX9_spare_1 : decode cX9_spare 1 = .ok (.iconst 0, 1) := by decide +kernel
theorem dX9_spare_2 : decode cX9_spare 2 = .ok (.putfield 3, 3) := by decide +kernel
theorem dX9_spare_5 : decode cX9_spare 5 = .ok (.aload_n 0, 1) := by decide +kernel
theorem dX9_spare_6 : decode cX9_spare 6 = .ok (.iload_n 1, 1) := by decide +kernel
theorem dX9_spare_7 : decode cX9_spare 7 = .ok (.invokevirtual 123, 3) := by decide +kernel
theorem dX9_spare_10 : decode cX9_spare 10 = .ok (.ifCond .ne 5, 3) := by decide +kernel
theorem dX9_spare_13 : decode cX9_spare 13 = .ok (.iconst (-1), 1) := by decide +kernel
theorem dX9_spare_14 : decode cX9_spare 14 = .ok (.ireturn, 1) := by decide +kernel
theorem dX9_spare_15 : decode cX9_spare 15 = .ok (.aload_n 0, 1) := by decide +kernel
theorem dX9_spare_16 : decode cX9_spare 16 = .ok (.aload_n 0, 1) := by decide +kernel
theorem dX9_spare_17 : decode cX9_spare 17 = .ok (.getfield 34, 3) := by decide +kernel
theorem dX9_spare_20 : decode cX9_spare 20 = .ok (.iload_n 1, 1) := by decide +kernel
theorem dX9_spare_21 : decode cX9_spare 21 = .ok (.invokevirtual 281, 3) := by decide +kernel
theorem dX9_spare_24 : decode cX9_spare 24 = .ok (.istore_n 2, 1) := by decide +kernel
theorem dX9_spare_25 : decode cX9_spare 25 = .ok (.iload_n 2, 1) := by decide +kernel
theorem dX9_spare_26 : decode cX9_spare 26 = .ok (.ifCond .ne 6, 3) := by decide +kernel
theorem dX9_spare_29 : decode cX9_spare 29 = .ok (.bipush (-2), 2) := by decide +kernel
theorem dX9_spare_31 : decode cX9_spare 31 = .ok (.ireturn, 1) := by decide +kernel
theorem dX9_spare_32 : decode cX9_spare 32 = .ok (.aload_n 0, 1) := by decide +kernel
theorem dX9_spare_33 : decode cX9_spare 33 = .ok (.iconst 0, 1) := by decide +kernel
theorem dX9_spare_34 : decode cX9_spare 34 = .ok (.putfield 15, 3) := by decide +kernel
theorem dX9_spare_37 : decode cX9_spare 37 = .ok (.aload_n 0, 1) := by decide +kernel
theorem dX9_spare_38 : decode cX9_spare 38 = .ok (.aload_n 0, 1) := by decide +kernel
theorem dX9_spare_39 : decode cX9_spare 39 = .ok (.aload_n 0, 1) := by decide +kernel
theorem dX9_spare_40 : decode cX9_spare 40 = .ok (.getfield 34, 3) := by decide +kernel
theorem dX9_spare_43 : decode cX9_spare 43 = .ok (.iconst 0, 1) := by decide +kernel
theorem dX9_spare_44 : decode cX9_spare 44 = .ok (.iload_n 2, 1) := by decide +kernel
theorem dX9_spare_45 : decode cX9_spare 45 = .ok (.invokevirtual 274, 3) := by decide +kernel
theorem dX9_spare_48 : decode cX9_spare 48 = .ok (.i2l, 1) := by decide +kernel
theorem dX9_spare_49 : decode cX9_spare 49 = .ok (.invokevirtual 327, 3) := by decide +kernel
theorem dX9_spare_52 : decode cX9_spare 52 = .ok (.aload_n 0, 1) := by decide +kernel
theorem dX9_spare_53 : decode cX9_spare 53 = .ok (.aload_n 0, 1) := by decide +kernel
theorem dX9_spare_54 : decode cX9_spare 54 = .ok (.aload_n 0, 1) := by decide +kernel
theorem dX9_spare_55 : decode cX9_spare 55 = .ok (.getfield 34, 3) := by decide +kernel
theorem dX9_spare_58 : decode cX9_spare 58 = .ok (.iload_n 2, 1) := by decide +kernel
theorem dX9_spare_59 : decode cX9_spare 59 = .ok (.invokevirtual 278, 3) := by decide +kernel
theorem dX9_spare_62 : decode cX9_spare 62 = .ok (.i2l, 1) := by decide +kernel
theorem dX9_spare_63 : decode cX9_spare 63 = .ok (.invokevirtual 327, 3) := by decide +kernel
theorem dX9_spare_66 : decode cX9_spare 66 = .ok (.sipush 1000, 3) := by decide +kernel
theorem dX9_spare_69 : decode cX9_spare 69 = .ok (.aload_n 0, 1) := by decide +kernel
theorem dX9_spare_70 : decode cX9_spare 70 = .ok (.aload_n 0, 1) := by decide +kernel
theorem dX9_spare_71 : decode cX9_spare 71 = .ok (.getfield 34, 3) := by decide +kernel
theorem dX9_spare_74 : decode cX9_spare 74 = .ok (.iload_n 2, 1) := by decide +kernel
theorem dX9_spare_75 : decode cX9_spare 75 = .ok (.invokevirtual 287, 3) := by decide +kernel
theorem dX9_spare_78 : decode cX9_spare 78 = .ok (.iadd, 1) := by decide +kernel
theorem dX9_spare_79 : decode cX9_spare 79 = .ok (.ireturn, 1) := by decide +kernel
theorem dX9_height_0 : decode cX9_height 0 = .ok (.aload_n 0, 1) := by decide +kernel
theorem dX9_height_1 : decode cX9_height 1 = .ok (.iconst 0, 1) := by decide +kernel
theorem dX9_height_2 : decode cX9_height 2 = .ok (.putfield 3, 3) := by decide +kernel
theorem dX9_height_5 : decode cX9_height 5 = .ok (.aload_n 0, 1) := by decide +kernel
theorem dX9_height_6 : decode cX9_height 6 = .ok (.iload_n 1, 1) := by decide +kernel
theorem dX9_height_7 : decode cX9_height 7 = .ok (.invokevirtual 123, 3) := by decide +kernel
theorem dX9_height_10 : decode cX9_height 10 = .ok (.ifCond .eq 15, 3) := by decide +kernel
theorem dX9_height_13 : decode cX9_height 13 = .ok (.iload_n 2, 1) := by decide +kernel
theorem dX9_height_14 : decode cX9_height 14 = .ok (.i2l, 1) := by decide +kernel
theorem dX9_height_15 : decode cX9_height 15 = .ok (.lconst 0, 1) := by decide +kernel
theorem dX9_height_16 : decode cX9_height 16 = .ok (.ldc2_w 346, 3) := by decide +kernel
theorem dX9_height_19 : decode cX9_height 19 = .ok (.invokestatic 119, 3) := by decide +kernel
theorem dX9_height_22 : decode cX9_height 22 = .ok (.ifCond .ne 5, 3) := by decide +kernel
theorem dX9_height_25 : decode cX9_height 25 = .ok (.iconst (-1), 1) := by decide +kernel
theorem dX9_height_26 : decode cX9_height 26 = .ok (.ireturn, 1) := by decide +kernel
theorem dX9_height_27 : decode cX9_height 27 = .ok (.aload_n 0, 1) := by decide +kernel
theorem dX9_height_28 : decode cX9_height 28 = .ok (.invokevirtual 362, 3) := by decide +kernel
theorem dX9_height_31 : decode cX9_height 31 = .ok (.aload_n 0, 1) := by decide +kernel
theorem dX9_height_32 : decode cX9_height 32 = .ok (.aload_n 0, 1) := by decide +kernel
theorem dX9_height_33 : decode cX9_height 33 = .ok (.getfield 37, 3) := by decide +kernel
theorem dX9_height_36 : decode cX9_height 36 = .ok (.iload_n 2, 1) := by decide +kernel
theorem dX9_height_37 : decode cX9_height 37 = .ok (.invokevirtual 324, 3) := by decide +kernel
theorem dX9_height_40 : decode cX9_height 40 = .ok (.aload_n 0, 1) := by decide +kernel
theorem dX9_height_41 : decode cX9_height 41 = .ok (.iconst 0, 1) := by decide +kernel
theorem dX9_height_42 : decode cX9_height 42 = .ok (.putfield 15, 3) := by decide +kernel
theorem dX9_height_45 : decode cX9_height 45 = .ok (.aload_n 0, 1) := by decide +kernel
theorem dX9_height_46 : decode cX9_height 46 = .ok (.aload_n 0, 1) := by decide +kernel
theorem dX9_height_47 : decode cX9_height 47 = .ok (.getfield 37, 3) := by decide +kernel
theorem dX9_height_50 : decode cX9_height 50 = .ok (.bipush 32, 2) := by decide +kernel
theorem dX9_height_52 : decode cX9_height 52 = .ok (.iaload, 1) := by decide +kernel
theorem dX9_height_53 : decode cX9_height 53 = .ok (.iload_n 1, 1) := by decide +kernel
theorem dX9_height_54 : decode cX9_height 54 = .ok (.invokestatic 127, 3) := by decide +kernel
theorem dX9_height_57 : decode cX9_height 57 = .ok (.invokestatic 159, 3) := by decide +kernel
theorem dX9_height_60 : decode cX9_height 60 = .ok (.i2l, 1) := by decide +kernel
theorem dX9_height_61 : decode cX9_height 61 = .ok (.invokevirtual 327, 3) := by decide +kernel
theorem dX9_height_64 : decode cX9_height 64 = .ok (.aload_n 0, 1) := by decide +kernel
theorem dX9_height_65 : decode cX9_height 65 = .ok (.aload_n 0, 1) := by decide +kernel
theorem dX9_height_66 : decode cX9_height 66 = .ok (.getfield 37, 3) := by decide +kernel
theorem dX9_height_69 : decode cX9_height 69 = .ok (.bipush 16, 2) := by decide +kernel
theorem dX9_height_71 : decode cX9_height 71 = .ok (.iload_n 1, 1) := by decide +kernel
theorem dX9_height_72 : decode cX9_height 72 = .ok (.iadd, 1) := by decide +kernel
theorem dX9_height_73 : decode cX9_height 73 = .ok (.iaload, 1) := by decide +kernel
theorem dX9_height_74 : decode cX9_height 74 = .ok (.i2l, 1) := by decide +kernel
theorem dX9_height_75 : decode cX9_height 75 = .ok (.invokevirtual 327, 3) := by decide +kernel
theorem dX9_height_78 : decode cX9_height 78 = .ok (.aload_n 0, 1) := by decide +kernel
theorem dX9_height_79 : decode cX9_height 79 = .ok (.getfield 37, 3) := by decide +kernel
theorem dX9_height_82 : decode cX9_height 82 = .ok (.bipush 8, 2) := by decide +kernel
theorem dX9_height_84 : decode cX9_height 84 = .ok (.iload_n 1, 1) := by decide +kernel
theorem dX9_height_85 : decode cX9_height 85 = .ok (.iadd, 1) := by decide +kernel
theorem dX9_height_86 : decode cX9_height 86 = .ok (.iaload, 1) := by decide +kernel
theorem dX9_height_87 : decode cX9_height 87 = .ok (.ireturn, 1) := by decide +kernel
theorem dX9_gone_0 : decode cX9_gone 0 = .ok (.aload_n 0, 1) := by decide +kernel
theorem dX9_gone_1 : decode cX9_gone 1 = .ok (.iconst 0, 1) := by decide +kernel
theorem dX9_gone_2 : decode cX9_gone 2 = .ok (.putfield 3, 3) := by decide +kernel
theorem dX9_gone_5 : decode cX9_gone 5 = .ok (.aload_n 0, 1) := by decide +kernel
theorem dX9_gone_6 : decode cX9_gone 6 = .ok (.iload_n 1, 1) := by decide +kernel
theorem dX9_gone_7 : decode cX9_gone 7 = .ok (.invokevirtual 123, 3) := by decide +kernel
theorem dX9_gone_10 : decode cX9_gone 10 = .ok (.ifCond .ne 5, 3) := by decide +kernel
theorem dX9_gone_13 : decode cX9_gone 13 = .ok (.iconst (-1), 1) := by decide +kernel
theorem dX9_gone_14 : decode cX9_gone 14 = .ok (.ireturn, 1) := by decide +kernel
theorem dX9_gone_15 : decode cX9_gone 15 = .ok (.aload_n 0, 1) := by decide +kernel
theorem dX9_gone_16 : decode cX9_gone 16 = .ok (.invokevirtual 362, 3) := by decide +kernel
theorem dX9_gone_19 : decode cX9_gone 19 = .ok (.iconst 0, 1) := by decide +kernel
theorem dX9_gone_20 : decode cX9_gone 20 = .ok (.istore_n 2, 1) := by decide +kernel
theorem dX9_gone_21 : decode cX9_gone 21 = .ok (.iload_n 2, 1) := by decide +kernel
theorem dX9_gone_22 : decode cX9_gone 22 = .ok (.bipush 99, 2) := by decide +kernel
theorem dX9_gone_24 : decode cX9_gone 24 = .ok (.if_icmp .gt 55, 3) := by decide +kernel
theorem dX9_gone_27 : decode cX9_gone 27 = .ok (.aload_n 0, 1) := by decide +kernel
theorem dX9_gone_28 : decode cX9_gone 28 = .ok (.getfield 37, 3) := by decide +kernel
theorem dX9_gone_31 : decode cX9_gone 31 = .ok (.bipush 32, 2) := by decide +kernel
theorem dX9_gone_33 : decode cX9_gone 33 = .ok (.iaload, 1) := by decide +kernel
theorem dX9_gone_34 : decode cX9_gone 34 = .ok (.iload_n 1, 1) := by decide +kernel
theorem dX9_gone_35 : decode cX9_gone 35 = .ok (.invokestatic 127, 3) := by decide +kernel
theorem dX9_gone_38 : decode cX9_gone 38 = .ok (.ifCond .eq 27, 3) := by decide +kernel
theorem dX9_gone_41 : decode cX9_gone 41 = .ok (.aload_n 0, 1) := by decide +kernel
theorem dX9_gone_42 : decode cX9_gone 42 = .ok (.iconst 0, 1) := by decide +kernel
theorem dX9_gone_43 : decode cX9_gone 43 = .ok (.putfield 15, 3) := by decide +kernel
theorem dX9_gone_46 : decode cX9_gone 46 = .ok (.aload_n 0, 1) := by decide +kernel
theorem dX9_gone_47 : decode cX9_gone 47 = .ok (.aload_n 0, 1) := by decide +kernel
theorem dX9_gone_48 : decode cX9_gone 48 = .ok (.getfield 37, 3) := by decide +kernel
theorem dX9_gone_51 : decode cX9_gone 51 = .ok (.bipush 32, 2) := by decide +kernel
theorem dX9_gone_53 : decode cX9_gone 53 = .ok (.iaload, 1) := by decide +kernel
theorem dX9_gone_54 : decode cX9_gone 54 = .ok (.invokestatic 135, 3) := by decide +kernel
theorem dX9_gone_57 : decode cX9_gone 57 = .ok (.iconst 1, 1) := by decide +kernel
theorem dX9_gone_58 : decode cX9_gone 58 = .ok (.isub, 1) := by decide +kernel
theorem dX9_gone_59 : decode cX9_gone 59 = .ok (.i2l, 1) := by decide +kernel
theorem dX9_gone_60 : decode cX9_gone 60 = .ok (.invokevirtual 327, 3) := by decide +kernel
theorem dX9_gone_63 : decode cX9_gone 63 = .ok (.iload_n 2, 1) := by decide +kernel
theorem dX9_gone_64 : decode cX9_gone 64 = .ok (.ireturn, 1) := by decide +kernel
theorem dX9_gone_65 : decode cX9_gone 65 = .ok (.aload_n 0, 1) := by decide +kernel
theorem dX9_gone_66 : decode cX9_gone 66 = .ok (.aload_n 0, 1) := by decide +kernel
theorem dX9_gone_67 : decode cX9_gone 67 = .ok (.getfield 37, 3) := by decide +kernel
theorem dX9_gone_70 : decode cX9_gone 70 = .ok (.invokevirtual 313, 3) := by decide +kernel
theorem dX9_gone_73 : decode cX9_gone 73 = .ok (.iinc 2 1, 3) := by decide +kernel
theorem dX9_gone_76 : decode cX9_gone 76 = .ok (.goto (-55), 3) := by decide +kernel
theorem dX9_gone_79 : decode cX9_gone 79 = .ok (.bipush (-2), 2) := by decide +kernel
theorem dX9_gone_81 : decode cX9_gone 81 = .ok (.ireturn, 1) := by decide +kernel
theorem dX9_ahead_0 : decode cX9_ahead 0 = .ok (.aload_n 0, 1) := by decide +kernel
theorem dX9_ahead_1 : decode cX9_ahead 1 = .ok (.iconst 0, 1) := by decide +kernel
theorem dX9_ahead_2 : decode cX9_ahead 2 = .ok (.putfield 3, 3) := by decide +kernel
theorem dX9_ahead_5 : decode cX9_ahead 5 = .ok (.iload_n 1, 1) := by decide +kernel
theorem dX9_ahead_6 : decode cX9_ahead 6 = .ok (.i2l, 1) := by decide +kernel
theorem dX9_ahead_7 : decode cX9_ahead 7 = .ok (.lconst 0, 1) := by decide +kernel
theorem dX9_ahead_8 : decode cX9_ahead 8 = .ok (.ldc2_w 346, 3) := by decide +kernel
theorem dX9_ahead_11 : decode cX9_ahead 11 = .ok (.invokestatic 119, 3) := by decide +kernel
theorem dX9_ahead_14 : decode cX9_ahead 14 = .ok (.ifCond .ne 5, 3) := by decide +kernel
theorem dX9_ahead_17 : decode cX9_ahead 17 = .ok (.iconst (-1), 1) := by decide +kernel
theorem dX9_ahead_18 : decode cX9_ahead 18 = .ok (.ireturn, 1) := by decide +kernel
theorem dX9_ahead_19 : decode cX9_ahead 19 = .ok (.aload_n 0, 1) := by decide +kernel
theorem dX9_ahead_20 : decode cX9_ahead 20 = .ok (.invokevirtual 362, 3) := by decide +kernel
theorem dX9_ahead_23 : decode cX9_ahead 23 = .ok (.aload_n 0, 1) := by decide +kernel
theorem dX9_ahead_24 : decode cX9_ahead 24 = .ok (.aload_n 0, 1) := by decide +kernel
theorem dX9_ahead_25 : decode cX9_ahead 25 = .ok (.getfield 37, 3) := by decide +kernel
theorem dX9_ahead_28 : decode cX9_ahead 28 = .ok (.iload_n 1, 1) := by decide +kernel
theorem dX9_ahead_29 : decode cX9_ahead 29 = .ok (.invokevirtual 324, 3) := by decide +kernel
theorem dX9_ahead_32 : decode cX9_ahead 32 = .ok (.aload_n 0, 1) := by decide +kernel
theorem dX9_ahead_33 : decode cX9_ahead 33 = .ok (.iconst 0, 1) := by decide +kernel
theorem dX9_ahead_34 : decode cX9_ahead 34 = .ok (.putfield 15, 3) := by decide +kernel
theorem dX9_ahead_37 : decode cX9_ahead 37 = .ok (.iconst 0, 1) := by decide +kernel
theorem dX9_ahead_38 : decode cX9_ahead 38 = .ok (.istore_n 2, 1) := by decide +kernel
theorem dX9_ahead_39 : decode cX9_ahead 39 = .ok (.iload_n 2, 1) := by decide +kernel
theorem dX9_ahead_40 : decode cX9_ahead 40 = .ok (.aload_n 0, 1) := by decide +kernel
theorem dX9_ahead_41 : decode cX9_ahead 41 = .ok (.getfield 116, 3) := by decide +kernel
theorem dX9_ahead_44 : decode cX9_ahead 44 = .ok (.if_icmp .ge 20, 3) := by decide +kernel
theorem dX9_ahead_47 : decode cX9_ahead 47 = .ok (.aload_n 0, 1) := by decide +kernel
theorem dX9_ahead_48 : decode cX9_ahead 48 = .ok (.aload_n 0, 1) := by decide +kernel
theorem dX9_ahead_49 : decode cX9_ahead 49 = .ok (.getfield 37, 3) := by decide +kernel
theorem dX9_ahead_52 : decode cX9_ahead 52 = .ok (.iload_n 2, 1) := by decide +kernel
theorem dX9_ahead_53 : decode cX9_ahead 53 = .ok (.iaload, 1) := by decide +kernel
theorem dX9_ahead_54 : decode cX9_ahead 54 = .ok (.i2l, 1) := by decide +kernel
theorem dX9_ahead_55 : decode cX9_ahead 55 = .ok (.invokevirtual 327, 3) := by decide +kernel
theorem dX9_ahead_58 : decode cX9_ahead 58 = .ok (.iinc 2 1, 3) := by decide +kernel
theorem dX9_ahead_61 : decode cX9_ahead 61 = .ok (.goto (-22), 3) := by decide +kernel
theorem dX9_ahead_64 : decode cX9_ahead 64 = .ok (.aload_n 0, 1) := by decide +kernel
theorem dX9_ahead_65 : decode cX9_ahead 65 = .ok (.aload_n 0, 1) := by decide +kernel
theorem dX9_ahead_66 : decode cX9_ahead 66 = .ok (.getfield 37, 3) := by decide +kernel
theorem dX9_ahead_69 : decode cX9_ahead 69 = .ok (.iconst 0, 1) := by decide +kernel
theorem dX9_ahead_70 : decode cX9_ahead 70 = .ok (.aload_n 0, 1) := by decide +kernel
theorem dX9_ahead_71 : decode cX9_ahead 71 = .ok (.invokevirtual 131, 3) := by decide +kernel
theorem dX9_ahead_74 : decode cX9_ahead 74 = .ok (.invokevirtual 274, 3) := by decide +kernel
theorem dX9_ahead_77 : decode cX9_ahead 77 = .ok (.ireturn, 1) := by decide +kernel
theorem dX9_least_0 : decode cX9_least 0 = .ok (.aload_n 0, 1) := by decide +kernel
theorem dX9_least_1 : decode cX9_least 1 = .ok (.iconst 0, 1) := by decide +kernel
theorem dX9_least_2 : decode cX9_least 2 = .ok (.putfield 3, 3) := by decide +kernel
theorem dX9_least_5 : decode cX9_least 5 = .ok (.iload_n 1, 1) := by decide +kernel
theorem dX9_least_6 : decode cX9_least 6 = .ok (.i2l, 1) := by decide +kernel
theorem dX9_least_7 : decode cX9_least 7 = .ok (.lconst 0, 1) := by decide +kernel
theorem dX9_least_8 : decode cX9_least 8 = .ok (.aload_n 0, 1) := by decide +kernel
theorem dX9_least_9 : decode cX9_least 9 = .ok (.invokevirtual 131, 3) := by decide +kernel
theorem dX9_least_12 : decode cX9_least 12 = .ok (.i2l, 1) := by decide +kernel
theorem dX9_least_13 : decode cX9_least 13 = .ok (.invokestatic 119, 3) := by decide +kernel
theorem dX9_least_16 : decode cX9_least 16 = .ok (.ifCond .ne 5, 3) := by decide +kernel
theorem dX9_least_19 : decode cX9_least 19 = .ok (.iconst (-1), 1) := by decide +kernel
theorem dX9_least_20 : decode cX9_least 20 = .ok (.ireturn, 1) := by decide +kernel
theorem dX9_least_21 : decode cX9_least 21 = .ok (.iload_n 1, 1) := by decide +kernel
theorem dX9_least_22 : decode cX9_least 22 = .ok (.aload_n 0, 1) := by decide +kernel
theorem dX9_least_23 : decode cX9_least 23 = .ok (.getfield 34, 3) := by decide +kernel
theorem dX9_least_26 : decode cX9_least 26 = .ok (.bipush 32, 2) := by decide +kernel
theorem dX9_least_28 : decode cX9_least 28 = .ok (.iaload, 1) := by decide +kernel
theorem dX9_least_29 : decode cX9_least 29 = .ok (.iand, 1) := by decide +kernel
theorem dX9_least_30 : decode cX9_least 30 = .ok (.ifCond .eq 6, 3) := by decide +kernel
theorem dX9_least_33 : decode cX9_least 33 = .ok (.bipush (-2), 2) := by decide +kernel
theorem dX9_least_35 : decode cX9_least 35 = .ok (.ireturn, 1) := by decide +kernel
theorem dX9_least_36 : decode cX9_least 36 = .ok (.aload_n 0, 1) := by decide +kernel
theorem dX9_least_37 : decode cX9_least 37 = .ok (.aload_n 0, 1) := by decide +kernel
theorem dX9_least_38 : decode cX9_least 38 = .ok (.getfield 34, 3) := by decide +kernel
theorem dX9_least_41 : decode cX9_least 41 = .ok (.invokevirtual 359, 3) := by decide +kernel
theorem dX9_least_44 : decode cX9_least 44 = .ok (.aload_n 0, 1) := by decide +kernel
theorem dX9_least_45 : decode cX9_least 45 = .ok (.aload_n 0, 1) := by decide +kernel
theorem dX9_least_46 : decode cX9_least 46 = .ok (.getfield 34, 3) := by decide +kernel
theorem dX9_least_49 : decode cX9_least 49 = .ok (.invokevirtual 303, 3) := by decide +kernel
theorem dX9_least_52 : decode cX9_least 52 = .ok (.iand, 1) := by decide +kernel
theorem dX9_least_53 : decode cX9_least 53 = .ok (.istore_n 2, 1) := by decide +kernel
theorem dX9_least_54 : decode cX9_least 54 = .ok (.iconst 0, 1) := by decide +kernel
theorem dX9_least_55 : decode cX9_least 55 = .ok (.istore_n 3, 1) := by decide +kernel
theorem dX9_least_56 : decode cX9_least 56 = .ok (.iconst 0, 1) := by decide +kernel
theorem dX9_least_57 : decode cX9_least 57 = .ok (.istore 4, 2) := by decide +kernel
theorem dX9_least_59 : decode cX9_least 59 = .ok (.iconst 0, 1) := by decide +kernel
theorem dX9_least_60 : decode cX9_least 60 = .ok (.istore 5, 2) := by decide +kernel
theorem dX9_least_62 : decode cX9_least 62 = .ok (.iconst 0, 1) := by decide +kernel
theorem dX9_least_63 : decode cX9_least 63 = .ok (.istore 6, 2) := by decide +kernel
theorem dX9_least_65 : decode cX9_least 65 = .ok (.iload 6, 2) := by decide +kernel
theorem dX9_least_67 : decode cX9_least 67 = .ok (.aload_n 0, 1) := by decide +kernel
theorem dX9_least_68 : decode cX9_least 68 = .ok (.getfield 116, 3) := by decide +kernel
theorem dX9_least_71 : decode cX9_least 71 = .ok (.if_icmp .ge 97, 3) := by decide +kernel
theorem dX9_least_74 : decode cX9_least 74 = .ok (.iload_n 2, 1) := by decide +kernel
theorem dX9_least_75 : decode cX9_least 75 = .ok (.iload 6, 2) := by decide +kernel
theorem dX9_least_77 : decode cX9_least 77 = .ok (.invokestatic 127, 3) := by decide +kernel
theorem dX9_least_80 : decode cX9_least 80 = .ok (.ifCond .eq 16, 3) := by decide +kernel
theorem dX9_least_83 : decode cX9_least 83 = .ok (.aload_n 0, 1) := by decide +kernel
theorem dX9_least_84 : decode cX9_least 84 = .ok (.aload_n 0, 1) := by decide +kernel
theorem dX9_least_85 : decode cX9_least 85 = .ok (.getfield 34, 3) := by decide +kernel
theorem dX9_least_88 : decode cX9_least 88 = .ok (.iload 6, 2) := by decide +kernel
theorem dX9_least_90 : decode cX9_least 90 = .ok (.invokevirtual 281, 3) := by decide +kernel
theorem dX9_least_93 : decode cX9_least 93 = .ok (.goto 4, 3) := by decide +kernel
theorem dX9_least_96 : decode cX9_least 96 = .ok (.iconst 0, 1) := by decide +kernel
theorem dX9_least_97 : decode cX9_least 97 = .ok (.istore 7, 2) := by decide +kernel
theorem dX9_least_99 : decode cX9_least 99 = .ok (.iload 7, 2) := by decide +kernel
theorem dX9_least_101 : decode cX9_least 101 = .ok (.iload_n 1, 1) := by decide +kernel
theorem dX9_least_102 : decode cX9_least 102 = .ok (.iand, 1) := by decide +kernel
theorem dX9_least_103 : decode cX9_least 103 = .ok (.ifCond .eq 7, 3) := by decide +kernel
theorem dX9_least_106 : decode cX9_least 106 = .ok (.iconst 1, 1) := by decide +kernel
theorem dX9_least_107 : decode cX9_least 107 = .ok (.goto 4, 3) := by decide +kernel
theorem dX9_least_110 : decode cX9_least 110 = .ok (.iconst 0, 1) := by decide +kernel
theorem dX9_least_111 : decode cX9_least 111 = .ok (.istore 8, 2) := by decide +kernel
theorem dX9_least_113 : decode cX9_least 113 = .ok (.iload_n 3, 1) := by decide +kernel
theorem dX9_least_114 : decode cX9_least 114 = .ok (.iload 8, 2) := by decide +kernel
theorem dX9_least_116 : decode cX9_least 116 = .ok (.ifCond .eq 17, 3) := by decide +kernel
theorem dX9_least_119 : decode cX9_least 119 = .ok (.aload_n 0, 1) := by decide +kernel
theorem dX9_least_120 : decode cX9_least 120 = .ok (.aload_n 0, 1) := by decide +kernel
theorem dX9_least_121 : decode cX9_least 121 = .ok (.getfield 34, 3) := by decide +kernel
theorem dX9_least_124 : decode cX9_least 124 = .ok (.iload 7, 2) := by decide +kernel
theorem dX9_least_126 : decode cX9_least 126 = .ok (.invokevirtual 287, 3) := by decide +kernel
theorem dX9_least_129 : decode cX9_least 129 = .ok (.ineg, 1) := by decide +kernel
theorem dX9_least_130 : decode cX9_least 130 = .ok (.goto 4, 3) := by decide +kernel
theorem dX9_least_133 : decode cX9_least 133 = .ok (.iconst 0, 1) := by decide +kernel
theorem dX9_least_134 : decode cX9_least 134 = .ok (.iadd, 1) := by decide +kernel
theorem dX9_least_135 : decode cX9_least 135 = .ok (.istore_n 3, 1) := by decide +kernel
theorem dX9_least_136 : decode cX9_least 136 = .ok (.iload 4, 2) := by decide +kernel
theorem dX9_least_138 : decode cX9_least 138 = .ok (.iload 8, 2) := by decide +kernel
theorem dX9_least_140 : decode cX9_least 140 = .ok (.invokestatic 159, 3) := by decide +kernel
theorem dX9_least_143 : decode cX9_least 143 = .ok (.iadd, 1) := by decide +kernel
theorem dX9_least_144 : decode cX9_least 144 = .ok (.istore 4, 2) := by decide +kernel
theorem dX9_least_146 : decode cX9_least 146 = .ok (.iload 5, 2) := by decide +kernel
theorem dX9_least_148 : decode cX9_least 148 = .ok (.iload 8, 2) := by decide +kernel
theorem dX9_least_150 : decode cX9_least 150 = .ok (.ifCond .eq 8, 3) := by decide +kernel
theorem dX9_least_153 : decode cX9_least 153 = .ok (.iload 7, 2) := by decide +kernel
theorem dX9_least_155 : decode cX9_least 155 = .ok (.goto 4, 3) := by decide +kernel
theorem dX9_least_158 : decode cX9_least 158 = .ok (.iconst 0, 1) := by decide +kernel
theorem dX9_least_159 : decode cX9_least 159 = .ok (.ior, 1) := by decide +kernel
theorem dX9_least_160 : decode cX9_least 160 = .ok (.istore 5, 2) := by decide +kernel
theorem dX9_least_162 : decode cX9_least 162 = .ok (.iinc 6 1, 3) := by decide +kernel
theorem dX9_least_165 : decode cX9_least 165 = .ok (.goto (-100), 3) := by decide +kernel
theorem dX9_least_168 : decode cX9_least 168 = .ok (.aload_n 0, 1) := by decide +kernel
theorem dX9_least_169 : decode cX9_least 169 = .ok (.iconst 0, 1) := by decide +kernel
theorem dX9_least_170 : decode cX9_least 170 = .ok (.putfield 15, 3) := by decide +kernel
theorem dX9_least_173 : decode cX9_least 173 = .ok (.aload_n 0, 1) := by decide +kernel
theorem dX9_least_174 : decode cX9_least 174 = .ok (.iload 4, 2) := by decide +kernel
theorem dX9_least_176 : decode cX9_least 176 = .ok (.i2l, 1) := by decide +kernel
theorem dX9_least_177 : decode cX9_least 177 = .ok (.invokevirtual 327, 3) := by decide +kernel
theorem dX9_least_180 : decode cX9_least 180 = .ok (.aload_n 0, 1) := by decide +kernel
theorem dX9_least_181 : decode cX9_least 181 = .ok (.iload 5, 2) := by decide +kernel
theorem dX9_least_183 : decode cX9_least 183 = .ok (.i2l, 1) := by decide +kernel
theorem dX9_least_184 : decode cX9_least 184 = .ok (.invokevirtual 327, 3) := by decide +kernel
theorem dX9_least_187 : decode cX9_least 187 = .ok (.iload_n 3, 1) := by decide +kernel
theorem dX9_least_188 : decode cX9_least 188 = .ok (.ireturn, 1) := by decide +kernel
theorem dX9_surplus_0 : decode cX9_surplus 0 = .ok (.aload_n 0, 1) := by decide +kernel
theorem dX9_surplus_1 : decode cX9_surplus 1 = .ok (.iconst 0, 1) := by decide +kernel
theorem dX9_surplus_2 : decode cX9_surplus 2 = .ok (.putfield 3, 3) := by decide +kernel
theorem dX9_surplus_5 : decode cX9_surplus 5 = .ok (.aload_n 0, 1) := by decide +kernel
theorem dX9_surplus_6 : decode cX9_surplus 6 = .ok (.aload_n 0, 1) := by decide +kernel
theorem dX9_surplus_7 : decode cX9_surplus 7 = .ok (.getfield 34, 3) := by decide +kernel
theorem dX9_surplus_10 : decode cX9_surplus 10 = .ok (.invokevirtual 359, 3) := by decide +kernel
theorem dX9_surplus_13 : decode cX9_surplus 13 = .ok (.aload_n 0, 1) := by decide +kernel
theorem dX9_surplus_14 : decode cX9_surplus 14 = .ok (.aload_n 0, 1) := by decide +kernel
theorem dX9_surplus_15 : decode cX9_surplus 15 = .ok (.getfield 34, 3) := by decide +kernel
theorem dX9_surplus_18 : decode cX9_surplus 18 = .ok (.invokevirtual 303, 3) := by decide +kernel
theorem dX9_surplus_21 : decode cX9_surplus 21 = .ok (.iconst (-1), 1) := by decide +kernel
theorem dX9_surplus_22 : decode cX9_surplus 22 = .ok (.ixor, 1) := by decide +kernel
theorem dX9_surplus_23 : decode cX9_surplus 23 = .ok (.iand, 1) := by decide +kernel
theorem dX9_surplus_24 : decode cX9_surplus 24 = .ok (.istore_n 1, 1) := by decide +kernel
theorem dX9_surplus_25 : decode cX9_surplus 25 = .ok (.iconst 0, 1) := by decide +kernel
theorem dX9_surplus_26 : decode cX9_surplus 26 = .ok (.istore_n 2, 1) := by decide +kernel
theorem dX9_surplus_27 : decode cX9_surplus 27 = .ok (.iconst 0, 1) := by decide +kernel
theorem dX9_surplus_28 : decode cX9_surplus 28 = .ok (.istore_n 3, 1) := by decide +kernel
theorem dX9_surplus_29 : decode cX9_surplus 29 = .ok (.iload_n 3, 1) := by decide +kernel
theorem dX9_surplus_30 : decode cX9_surplus 30 = .ok (.aload_n 0, 1) := by decide +kernel
theorem dX9_surplus_31 : decode cX9_surplus 31 = .ok (.getfield 116, 3) := by decide +kernel
theorem dX9_surplus_34 : decode cX9_surplus 34 = .ok (.if_icmp .ge 16, 3) := by decide +kernel
theorem dX9_surplus_37 : decode cX9_surplus 37 = .ok (.aload_n 0, 1) := by decide +kernel
theorem dX9_surplus_38 : decode cX9_surplus 38 = .ok (.getfield 70, 3) := by decide +kernel
theorem dX9_surplus_41 : decode cX9_surplus 41 = .ok (.iload_n 3, 1) := by decide +kernel
theorem dX9_surplus_42 : decode cX9_surplus 42 = .ok (.iconst 0, 1) := by decide +kernel
theorem dX9_surplus_43 : decode cX9_surplus 43 = .ok (.iastore, 1) := by decide +kernel
theorem dX9_surplus_44 : decode cX9_surplus 44 = .ok (.iinc 3 1, 3) := by decide +kernel
theorem dX9_surplus_47 : decode cX9_surplus 47 = .ok (.goto (-18), 3) := by decide +kernel
theorem dX9_surplus_50 : decode cX9_surplus 50 = .ok (.iconst 0, 1) := by decide +kernel
theorem dX9_surplus_51 : decode cX9_surplus 51 = .ok (.istore_n 3, 1) := by decide +kernel
theorem dX9_surplus_52 : decode cX9_surplus 52 = .ok (.iload_n 3, 1) := by decide +kernel
theorem dX9_surplus_53 : decode cX9_surplus 53 = .ok (.aload_n 0, 1) := by decide +kernel
theorem dX9_surplus_54 : decode cX9_surplus 54 = .ok (.getfield 116, 3) := by decide +kernel
theorem dX9_surplus_57 : decode cX9_surplus 57 = .ok (.if_icmp .ge 114, 3) := by decide +kernel
theorem dX9_surplus_60 : decode cX9_surplus 60 = .ok (.iload_n 1, 1) := by decide +kernel
theorem dX9_surplus_61 : decode cX9_surplus 61 = .ok (.iload_n 3, 1) := by decide +kernel
theorem dX9_surplus_62 : decode cX9_surplus 62 = .ok (.invokestatic 127, 3) := by decide +kernel
theorem dX9_surplus_65 : decode cX9_surplus 65 = .ok (.ifCond .eq 15, 3) := by decide +kernel
theorem dX9_surplus_68 : decode cX9_surplus 68 = .ok (.aload_n 0, 1) := by decide +kernel
theorem dX9_surplus_69 : decode cX9_surplus 69 = .ok (.aload_n 0, 1) := by decide +kernel
theorem dX9_surplus_70 : decode cX9_surplus 70 = .ok (.getfield 34, 3) := by decide +kernel
theorem dX9_surplus_73 : decode cX9_surplus 73 = .ok (.iload_n 3, 1) := by decide +kernel
theorem dX9_surplus_74 : decode cX9_surplus 74 = .ok (.invokevirtual 281, 3) := by decide +kernel
theorem dX9_surplus_77 : decode cX9_surplus 77 = .ok (.goto 4, 3) := by decide +kernel
theorem dX9_surplus_80 : decode cX9_surplus 80 = .ok (.iconst 0, 1) := by decide +kernel
theorem dX9_surplus_81 : decode cX9_surplus 81 = .ok (.istore 4, 2) := by decide +kernel
theorem dX9_surplus_83 : decode cX9_surplus 83 = .ok (.aload_n 0, 1) := by decide +kernel
theorem dX9_surplus_84 : decode cX9_surplus 84 = .ok (.aload_n 0, 1) := by decide +kernel
theorem dX9_surplus_85 : decode cX9_surplus 85 = .ok (.getfield 34, 3) := by decide +kernel
theorem dX9_surplus_88 : decode cX9_surplus 88 = .ok (.iload 4, 2) := by decide +kernel
theorem dX9_surplus_90 : decode cX9_surplus 90 = .ok (.invokevirtual 287, 3) := by decide +kernel
theorem dX9_surplus_93 : decode cX9_surplus 93 = .ok (.istore 5, 2) := by decide +kernel
theorem dX9_surplus_95 : decode cX9_surplus 95 = .ok (.iload_n 2, 1) := by decide +kernel
theorem dX9_surplus_96 : decode cX9_surplus 96 = .ok (.iload 5, 2) := by decide +kernel
theorem dX9_surplus_98 : decode cX9_surplus 98 = .ok (.iadd, 1) := by decide +kernel
theorem dX9_surplus_99 : decode cX9_surplus 99 = .ok (.istore_n 2, 1) := by decide +kernel
theorem dX9_surplus_100 : decode cX9_surplus 100 = .ok (.iconst 0, 1) := by decide +kernel
theorem dX9_surplus_101 : decode cX9_surplus 101 = .ok (.istore 6, 2) := by decide +kernel
theorem dX9_surplus_103 : decode cX9_surplus 103 = .ok (.iload 6, 2) := by decide +kernel
theorem dX9_surplus_105 : decode cX9_surplus 105 = .ok (.aload_n 0, 1) := by decide +kernel
theorem dX9_surplus_106 : decode cX9_surplus 106 = .ok (.getfield 116, 3) := by decide +kernel
theorem dX9_surplus_109 : decode cX9_surplus 109 = .ok (.if_icmp .ge 56, 3) := by decide +kernel
theorem dX9_surplus_112 : decode cX9_surplus 112 = .ok (.iload 4, 2) := by decide +kernel
theorem dX9_surplus_114 : decode cX9_surplus 114 = .ok (.iload 6, 2) := by decide +kernel
theorem dX9_surplus_116 : decode cX9_surplus 116 = .ok (.invokestatic 127, 3) := by decide +kernel
theorem dX9_surplus_119 : decode cX9_surplus 119 = .ok (.ifCond .eq 18, 3) := by decide +kernel
theorem dX9_surplus_122 : decode cX9_surplus 122 = .ok (.iload 5, 2) := by decide +kernel
theorem dX9_surplus_124 : decode cX9_surplus 124 = .ok (.aload_n 0, 1) := by decide +kernel
theorem dX9_surplus_125 : decode cX9_surplus 125 = .ok (.getfield 34, 3) := by decide +kernel
theorem dX9_surplus_128 : decode cX9_surplus 128 = .ok (.iload 6, 2) := by decide +kernel
theorem dX9_surplus_130 : decode cX9_surplus 130 = .ok (.iaload, 1) := by decide +kernel
theorem dX9_surplus_131 : decode cX9_surplus 131 = .ok (.invokestatic 150, 3) := by decide +kernel
theorem dX9_surplus_134 : decode cX9_surplus 134 = .ok (.goto 4, 3) := by decide +kernel
theorem dX9_surplus_137 : decode cX9_surplus 137 = .ok (.iconst 0, 1) := by decide +kernel
theorem dX9_surplus_138 : decode cX9_surplus 138 = .ok (.istore 7, 2) := by decide +kernel
theorem dX9_surplus_140 : decode cX9_surplus 140 = .ok (.aload_n 0, 1) := by decide +kernel
theorem dX9_surplus_141 : decode cX9_surplus 141 = .ok (.getfield 70, 3) := by decide +kernel
theorem dX9_surplus_144 : decode cX9_surplus 144 = .ok (.iload 6, 2) := by decide +kernel
theorem dX9_surplus_146 : decode cX9_surplus 146 = .ok (.dup2, 1) := by decide +kernel
theorem dX9_surplus_147 : decode cX9_surplus 147 = .ok (.iaload, 1) := by decide +kernel
theorem dX9_surplus_148 : decode cX9_surplus 148 = .ok (.iload 7, 2) := by decide +kernel
theorem dX9_surplus_150 : decode cX9_surplus 150 = .ok (.iadd, 1) := by decide +kernel
theorem dX9_surplus_151 : decode cX9_surplus 151 = .ok (.iastore, 1) := by decide +kernel
theorem dX9_surplus_152 : decode cX9_surplus 152 = .ok (.iload 5, 2) := by decide +kernel
theorem dX9_surplus_154 : decode cX9_surplus 154 = .ok (.iload 7, 2) := by decide +kernel
theorem dX9_surplus_156 : decode cX9_surplus 156 = .ok (.isub, 1) := by decide +kernel
theorem dX9_surplus_157 : decode cX9_surplus 157 = .ok (.istore 5, 2) := by decide +kernel
theorem dX9_surplus_159 : decode cX9_surplus 159 = .ok (.iinc 6 1, 3) := by decide +kernel
theorem dX9_surplus_162 : decode cX9_surplus 162 = .ok (.goto (-59), 3) := by decide +kernel
theorem dX9_surplus_165 : decode cX9_surplus 165 = .ok (.iinc 3 1, 3) := by decide +kernel
theorem dX9_surplus_168 : decode cX9_surplus 168 = .ok (.goto (-116), 3) := by decide +kernel
theorem dX9_surplus_171 : decode cX9_surplus 171 = .ok (.aload_n 0, 1) := by decide +kernel
theorem dX9_surplus_172 : decode cX9_surplus 172 = .ok (.iconst 0, 1) := by decide +kernel
theorem dX9_surplus_173 : decode cX9_surplus 173 = .ok (.putfield 15, 3) := by decide +kernel
theorem dX9_surplus_176 : decode cX9_surplus 176 = .ok (.iconst 0, 1) := by decide +kernel
theorem dX9_surplus_177 : decode cX9_surplus 177 = .ok (.istore_n 3, 1) := by decide +kernel
theorem dX9_surplus_178 : decode cX9_surplus 178 = .ok (.iload_n 3, 1) := by decide +kernel
theorem dX9_surplus_179 : decode cX9_surplus 179 = .ok (.aload_n 0, 1) := by decide +kernel
theorem dX9_surplus_180 : decode cX9_surplus 180 = .ok (.getfield 116, 3) := by decide +kernel
theorem dX9_surplus_183 : decode cX9_surplus 183 = .ok (.if_icmp .ge 20, 3) := by decide +kernel
theorem dX9_surplus_186 : decode cX9_surplus 186 = .ok (.aload_n 0, 1) := by decide +kernel
theorem dX9_surplus_187 : decode cX9_surplus 187 = .ok (.aload_n 0, 1) := by decide +kernel
theorem dX9_surplus_188 : decode cX9_surplus 188 = .ok (.getfield 70, 3) := by decide +kernel
theorem dX9_surplus_191 : decode cX9_surplus 191 = .ok (.iload_n 3, 1) := by decide +kernel
theorem dX9_surplus_192 : decode cX9_surplus 192 = .ok (.iaload, 1) := by decide +kernel
theorem dX9_surplus_193 : decode cX9_surplus 193 = .ok (.i2l, 1) := by decide +kernel
theorem dX9_surplus_194 : decode cX9_surplus 194 = .ok (.invokevirtual 327, 3) := by decide +kernel
theorem dX9_surplus_197 : decode cX9_surplus 197 = .ok (.iinc 3 1, 3) := by decide +kernel
theorem dX9_surplus_200 : decode cX9_surplus 200 = .ok (.goto (-22), 3) := by decide +kernel
theorem dX9_surplus_203 : decode cX9_surplus 203 = .ok (.iload_n 2, 1) := by decide +kernel
theorem dX9_surplus_204 : decode cX9_surplus 204 = .ok (.ireturn, 1) := by decide +kernel
theorem dX9_vital_0 : decode cX9_vital 0 = .ok (.aload_n 0, 1) := by decide +kernel
theorem dX9_vital_1 : decode cX9_vital 1 = .ok (.iconst 0, 1) := by decide +kernel
theorem dX9_vital_2 : decode cX9_vital 2 = .ok (.putfield 3, 3) := by decide +kernel
theorem dX9_vital_5 : decode cX9_vital 5 = .ok (.aload_n 0, 1) := by decide +kernel
theorem dX9_vital_6 : decode cX9_vital 6 = .ok (.aload_n 0, 1) := by decide +kernel
theorem dX9_vital_7 : decode cX9_vital 7 = .ok (.getfield 34, 3) := by decide +kernel
theorem dX9_vital_10 : decode cX9_vital 10 = .ok (.invokevirtual 307, 3) := by decide +kernel
theorem dX9_vital_13 : decode cX9_vital 13 = .ok (.aload_n 0, 1) := by decide +kernel
theorem dX9_vital_14 : decode cX9_vital 14 = .ok (.aload_n 0, 1) := by decide +kernel
theorem dX9_vital_15 : decode cX9_vital 15 = .ok (.getfield 34, 3) := by decide +kernel
theorem dX9_vital_18 : decode cX9_vital 18 = .ok (.invokevirtual 303, 3) := by decide +kernel
theorem dX9_vital_21 : decode cX9_vital 21 = .ok (.iconst (-1), 1) := by decide +kernel
theorem dX9_vital_22 : decode cX9_vital 22 = .ok (.ixor, 1) := by decide +kernel
theorem dX9_vital_23 : decode cX9_vital 23 = .ok (.iand, 1) := by decide +kernel
theorem dX9_vital_24 : decode cX9_vital 24 = .ok (.istore_n 1, 1) := by decide +kernel
theorem dX9_vital_25 : decode cX9_vital 25 = .ok (.iconst 0, 1) := by decide +kernel
theorem dX9_vital_26 : decode cX9_vital 26 = .ok (.istore_n 2, 1) := by decide +kernel
theorem dX9_vital_27 : decode cX9_vital 27 = .ok (.iconst (-1), 1) := by decide +kernel
theorem dX9_vital_28 : decode cX9_vital 28 = .ok (.istore_n 3, 1) := by decide +kernel
theorem dX9_vital_29 : decode cX9_vital 29 = .ok (.iconst (-1), 1) := by decide +kernel
theorem dX9_vital_30 : decode cX9_vital 30 = .ok (.istore 4, 2) := by decide +kernel
theorem dX9_vital_32 : decode cX9_vital 32 = .ok (.iconst 0, 1) := by decide +kernel
theorem dX9_vital_33 : decode cX9_vital 33 = .ok (.istore 5, 2) := by decide +kernel
theorem dX9_vital_35 : decode cX9_vital 35 = .ok (.iload 5, 2) := by decide +kernel
theorem dX9_vital_37 : decode cX9_vital 37 = .ok (.aload_n 0, 1) := by decide +kernel
theorem dX9_vital_38 : decode cX9_vital 38 = .ok (.getfield 116, 3) := by decide +kernel
theorem dX9_vital_41 : decode cX9_vital 41 = .ok (.if_icmp .ge 125, 3) := by decide +kernel
theorem dX9_vital_44 : decode cX9_vital 44 = .ok (.iload 5, 2) := by decide +kernel
theorem dX9_vital_46 : decode cX9_vital 46 = .ok (.iconst 1, 1) := by decide +kernel
theorem dX9_vital_47 : decode cX9_vital 47 = .ok (.iadd, 1) := by decide +kernel
theorem dX9_vital_48 : decode cX9_vital 48 = .ok (.istore 6, 2) := by decide +kernel
theorem dX9_vital_50 : decode cX9_vital 50 = .ok (.iload 6, 2) := by decide +kernel
theorem dX9_vital_52 : decode cX9_vital 52 = .ok (.aload_n 0, 1) := by decide +kernel
theorem dX9_vital_53 : decode cX9_vital 53 = .ok (.getfield 116, 3) := by decide +kernel
theorem dX9_vital_56 : decode cX9_vital 56 = .ok (.if_icmp .ge 104, 3) := by decide +kernel
theorem dX9_vital_59 : decode cX9_vital 59 = .ok (.aload_n 0, 1) := by decide +kernel
theorem dX9_vital_60 : decode cX9_vital 60 = .ok (.getfield 34, 3) := by decide +kernel
theorem dX9_vital_63 : decode cX9_vital 63 = .ok (.bipush 24, 2) := by decide +kernel
theorem dX9_vital_65 : decode cX9_vital 65 = .ok (.iload 5, 2) := by decide +kernel
theorem dX9_vital_67 : decode cX9_vital 67 = .ok (.iadd, 1) := by decide +kernel
theorem dX9_vital_68 : decode cX9_vital 68 = .ok (.iaload, 1) := by decide +kernel
theorem dX9_vital_69 : decode cX9_vital 69 = .ok (.iload 6, 2) := by decide +kernel
theorem dX9_vital_71 : decode cX9_vital 71 = .ok (.invokestatic 127, 3) := by decide +kernel
theorem dX9_vital_74 : decode cX9_vital 74 = .ok (.ifCond .eq 80, 3) := by decide +kernel
theorem dX9_vital_77 : decode cX9_vital 77 = .ok (.aload_n 0, 1) := by decide +kernel
theorem dX9_vital_78 : decode cX9_vital 78 = .ok (.invokevirtual 362, 3) := by decide +kernel
theorem dX9_vital_81 : decode cX9_vital 81 = .ok (.aload_n 0, 1) := by decide +kernel
theorem dX9_vital_82 : decode cX9_vital 82 = .ok (.getfield 37, 3) := by decide +kernel
theorem dX9_vital_85 : decode cX9_vital 85 = .ok (.iload 5, 2) := by decide +kernel
theorem dX9_vital_87 : decode cX9_vital 87 = .ok (.iload 6, 2) := by decide +kernel
theorem dX9_vital_89 : decode cX9_vital 89 = .ok (.invokestatic 212, 3) := by decide +kernel
theorem dX9_vital_92 : decode cX9_vital 92 = .ok (.aload_n 0, 1) := by decide +kernel
theorem dX9_vital_93 : decode cX9_vital 93 = .ok (.aload_n 0, 1) := by decide +kernel
theorem dX9_vital_94 : decode cX9_vital 94 = .ok (.getfield 37, 3) := by decide +kernel
theorem dX9_vital_97 : decode cX9_vital 97 = .ok (.invokevirtual 303, 3) := by decide +kernel
theorem dX9_vital_100 : decode cX9_vital 100 = .ok (.iload_n 1, 1) := by decide +kernel
theorem dX9_vital_101 : decode cX9_vital 101 = .ok (.iand, 1) := by decide +kernel
theorem dX9_vital_102 : decode cX9_vital 102 = .ok (.ifCond .eq 7, 3) := by decide +kernel
theorem dX9_vital_105 : decode cX9_vital 105 = .ok (.iconst 1, 1) := by decide +kernel
theorem dX9_vital_106 : decode cX9_vital 106 = .ok (.goto 4, 3) := by decide +kernel
theorem dX9_vital_109 : decode cX9_vital 109 = .ok (.iconst 0, 1) := by decide +kernel
theorem dX9_vital_110 : decode cX9_vital 110 = .ok (.istore 7, 2) := by decide +kernel
theorem dX9_vital_112 : decode cX9_vital 112 = .ok (.iload 7, 2) := by decide +kernel
theorem dX9_vital_114 : decode cX9_vital 114 = .ok (.ifCond .eq 12, 3) := by decide +kernel
theorem dX9_vital_117 : decode cX9_vital 117 = .ok (.iload_n 2, 1) := by decide +kernel
theorem dX9_vital_118 : decode cX9_vital 118 = .ok (.ifCond .ne 8, 3) := by decide +kernel
theorem dX9_vital_121 : decode cX9_vital 121 = .ok (.iload 5, 2) := by decide +kernel
theorem dX9_vital_123 : decode cX9_vital 123 = .ok (.goto 4, 3) := by decide +kernel
theorem dX9_vital_126 : decode cX9_vital 126 = .ok (.iload_n 3, 1) := by decide +kernel
theorem dX9_vital_127 : decode cX9_vital 127 = .ok (.istore_n 3, 1) := by decide +kernel
theorem dX9_vital_128 : decode cX9_vital 128 = .ok (.iload 7, 2) := by decide +kernel
theorem dX9_vital_130 : decode cX9_vital 130 = .ok (.ifCond .eq 12, 3) := by decide +kernel
theorem dX9_vital_133 : decode cX9_vital 133 = .ok (.iload_n 2, 1) := by decide +kernel
theorem dX9_vital_134 : decode cX9_vital 134 = .ok (.ifCond .ne 8, 3) := by decide +kernel
theorem dX9_vital_137 : decode cX9_vital 137 = .ok (.iload 6, 2) := by decide +kernel
theorem dX9_vital_139 : decode cX9_vital 139 = .ok (.goto 5, 3) := by decide +kernel
theorem dX9_vital_142 : decode cX9_vital 142 = .ok (.iload 4, 2) := by decide +kernel
theorem dX9_vital_144 : decode cX9_vital 144 = .ok (.istore 4, 2) := by decide +kernel
theorem dX9_vital_146 : decode cX9_vital 146 = .ok (.iload_n 2, 1) := by decide +kernel
theorem dX9_vital_147 : decode cX9_vital 147 = .ok (.iload 7, 2) := by decide +kernel
theorem dX9_vital_149 : decode cX9_vital 149 = .ok (.invokestatic 159, 3) := by decide +kernel
theorem dX9_vital_152 : decode cX9_vital 152 = .ok (.iadd, 1) := by decide +kernel
theorem dX9_vital_153 : decode cX9_vital 153 = .ok (.istore_n 2, 1) := by decide +kernel
theorem dX9_vital_154 : decode cX9_vital 154 = .ok (.iinc 6 1, 3) := by decide +kernel
theorem dX9_vital_157 : decode cX9_vital 157 = .ok (.goto (-107), 3) := by decide +kernel
theorem dX9_vital_160 : decode cX9_vital 160 = .ok (.iinc 5 1, 3) := by decide +kernel
theorem dX9_vital_163 : decode cX9_vital 163 = .ok (.goto (-128), 3) := by decide +kernel
theorem dX9_vital_166 : decode cX9_vital 166 = .ok (.aload_n 0, 1) := by decide +kernel
theorem dX9_vital_167 : decode cX9_vital 167 = .ok (.iconst 0, 1) := by decide +kernel
theorem dX9_vital_168 : decode cX9_vital 168 = .ok (.putfield 15, 3) := by decide +kernel
theorem dX9_vital_171 : decode cX9_vital 171 = .ok (.aload_n 0, 1) := by decide +kernel
theorem dX9_vital_172 : decode cX9_vital 172 = .ok (.aload_n 0, 1) := by decide +kernel
theorem dX9_vital_173 : decode cX9_vital 173 = .ok (.aload_n 0, 1) := by decide +kernel
theorem dX9_vital_174 : decode cX9_vital 174 = .ok (.getfield 34, 3) := by decide +kernel
theorem dX9_vital_177 : decode cX9_vital 177 = .ok (.invokevirtual 319, 3) := by decide +kernel
theorem dX9_vital_180 : decode cX9_vital 180 = .ok (.i2l, 1) := by decide +kernel
theorem dX9_vital_181 : decode cX9_vital 181 = .ok (.invokevirtual 327, 3) := by decide +kernel
theorem dX9_vital_184 : decode cX9_vital 184 = .ok (.iload_n 2, 1) := by decide +kernel
theorem dX9_vital_185 : decode cX9_vital 185 = .ok (.ifCond .le 16, 3) := by decide +kernel
theorem dX9_vital_188 : decode cX9_vital 188 = .ok (.aload_n 0, 1) := by decide +kernel
theorem dX9_vital_189 : decode cX9_vital 189 = .ok (.iload_n 3, 1) := by decide +kernel
theorem dX9_vital_190 : decode cX9_vital 190 = .ok (.i2l, 1) := by decide +kernel
theorem dX9_vital_191 : decode cX9_vital 191 = .ok (.invokevirtual 327, 3) := by decide +kernel
theorem dX9_vital_194 : decode cX9_vital 194 = .ok (.aload_n 0, 1) := by decide +kernel
theorem dX9_vital_195 : decode cX9_vital 195 = .ok (.iload 4, 2) := by decide +kernel
theorem dX9_vital_197 : decode cX9_vital 197 = .ok (.i2l, 1) := by decide +kernel
theorem dX9_vital_198 : decode cX9_vital 198 = .ok (.invokevirtual 327, 3) := by decide +kernel
theorem dX9_vital_201 : decode cX9_vital 201 = .ok (.iload_n 2, 1) := by decide +kernel
theorem dX9_vital_202 : decode cX9_vital 202 = .ok (.ireturn, 1) := by decide +kernel
theorem dX9_tie_0 : decode cX9_tie 0 = .ok (.aload_n 0, 1) := by decide +kernel
theorem dX9_tie_1 : decode cX9_tie 1 = .ok (.iconst 0, 1) := by decide +kernel
theorem dX9_tie_2 : decode cX9_tie 2 = .ok (.putfield 3, 3) := by decide +kernel
theorem dX9_tie_5 : decode cX9_tie 5 = .ok (.iconst (-1), 1) := by decide +kernel
theorem dX9_tie_6 : decode cX9_tie 6 = .ok (.istore_n 1, 1) := by decide +kernel
theorem dX9_tie_7 : decode cX9_tie 7 = .ok (.iconst (-1), 1) := by decide +kernel
theorem dX9_tie_8 : decode cX9_tie 8 = .ok (.istore_n 2, 1) := by decide +kernel
theorem dX9_tie_9 : decode cX9_tie 9 = .ok (.ldc_w 365, 3) := by decide +kernel
theorem dX9_tie_12 : decode cX9_tie 12 = .ok (.istore_n 3, 1) := by decide +kernel
theorem dX9_tie_13 : decode cX9_tie 13 = .ok (.iconst 0, 1) := by decide +kernel
theorem dX9_tie_14 : decode cX9_tie 14 = .ok (.istore 4, 2) := by decide +kernel
theorem dX9_tie_16 : decode cX9_tie 16 = .ok (.iload 4, 2) := by decide +kernel
theorem dX9_tie_18 : decode cX9_tie 18 = .ok (.aload_n 0, 1) := by decide +kernel
theorem dX9_tie_19 : decode cX9_tie 19 = .ok (.getfield 116, 3) := by decide +kernel
theorem dX9_tie_22 : decode cX9_tie 22 = .ok (.if_icmp .ge 135, 3) := by decide +kernel
theorem dX9_tie_25 : decode cX9_tie 25 = .ok (.iload 4, 2) := by decide +kernel
theorem dX9_tie_27 : decode cX9_tie 27 = .ok (.iconst 1, 1) := by decide +kernel
theorem dX9_tie_28 : decode cX9_tie 28 = .ok (.iadd, 1) := by decide +kernel
theorem dX9_tie_29 : decode cX9_tie 29 = .ok (.istore 5, 2) := by decide +kernel
theorem dX9_tie_31 : decode cX9_tie 31 = .ok (.iload 5, 2) := by decide +kernel
theorem dX9_tie_33 : decode cX9_tie 33 = .ok (.aload_n 0, 1) := by decide +kernel
theorem dX9_tie_34 : decode cX9_tie 34 = .ok (.getfield 116, 3) := by decide +kernel
theorem dX9_tie_37 : decode cX9_tie 37 = .ok (.if_icmp .ge 114, 3) := by decide +kernel
theorem dX9_tie_40 : decode cX9_tie 40 = .ok (.aload_n 0, 1) := by decide +kernel
theorem dX9_tie_41 : decode cX9_tie 41 = .ok (.aload_n 0, 1) := by decide +kernel
theorem dX9_tie_42 : decode cX9_tie 42 = .ok (.getfield 34, 3) := by decide +kernel
theorem dX9_tie_45 : decode cX9_tie 45 = .ok (.iload 4, 2) := by decide +kernel
theorem dX9_tie_47 : decode cX9_tie 47 = .ok (.invokevirtual 202, 3) := by decide +kernel
theorem dX9_tie_50 : decode cX9_tie 50 = .ok (.ifCond .eq 95, 3) := by decide +kernel
theorem dX9_tie_53 : decode cX9_tie 53 = .ok (.aload_n 0, 1) := by decide +kernel
theorem dX9_tie_54 : decode cX9_tie 54 = .ok (.aload_n 0, 1) := by decide +kernel
theorem dX9_tie_55 : decode cX9_tie 55 = .ok (.getfield 34, 3) := by decide +kernel
theorem dX9_tie_58 : decode cX9_tie 58 = .ok (.iload 5, 2) := by decide +kernel
theorem dX9_tie_60 : decode cX9_tie 60 = .ok (.invokevirtual 202, 3) := by decide +kernel
theorem dX9_tie_63 : decode cX9_tie 63 = .ok (.ifCond .eq 82, 3) := by decide +kernel
theorem dX9_tie_66 : decode cX9_tie 66 = .ok (.aload_n 0, 1) := by decide +kernel
theorem dX9_tie_67 : decode cX9_tie 67 = .ok (.getfield 34, 3) := by decide +kernel
theorem dX9_tie_70 : decode cX9_tie 70 = .ok (.bipush 24, 2) := by decide +kernel
theorem dX9_tie_72 : decode cX9_tie 72 = .ok (.iload 4, 2) := by decide +kernel
theorem dX9_tie_74 : decode cX9_tie 74 = .ok (.iadd, 1) := by decide +kernel
theorem dX9_tie_75 : decode cX9_tie 75 = .ok (.iaload, 1) := by decide +kernel
theorem dX9_tie_76 : decode cX9_tie 76 = .ok (.iload 5, 2) := by decide +kernel
theorem dX9_tie_78 : decode cX9_tie 78 = .ok (.invokestatic 127, 3) := by decide +kernel
theorem dX9_tie_81 : decode cX9_tie 81 = .ok (.ifCond .ne 64, 3) := by decide +kernel
theorem dX9_tie_84 : decode cX9_tie 84 = .ok (.aload_n 0, 1) := by decide +kernel
theorem dX9_tie_85 : decode cX9_tie 85 = .ok (.invokevirtual 362, 3) := by decide +kernel
theorem dX9_tie_88 : decode cX9_tie 88 = .ok (.aload_n 0, 1) := by decide +kernel
theorem dX9_tie_89 : decode cX9_tie 89 = .ok (.getfield 37, 3) := by decide +kernel
theorem dX9_tie_92 : decode cX9_tie 92 = .ok (.iload 4, 2) := by decide +kernel
theorem dX9_tie_94 : decode cX9_tie 94 = .ok (.iload 5, 2) := by decide +kernel
theorem dX9_tie_96 : decode cX9_tie 96 = .ok (.invokestatic 212, 3) := by decide +kernel
theorem dX9_tie_99 : decode cX9_tie 99 = .ok (.aload_n 0, 1) := by decide +kernel
theorem dX9_tie_100 : decode cX9_tie 100 = .ok (.aload_n 0, 1) := by decide +kernel
theorem dX9_tie_101 : decode cX9_tie 101 = .ok (.getfield 37, 3) := by decide +kernel
theorem dX9_tie_104 : decode cX9_tie 104 = .ok (.invokevirtual 303, 3) := by decide +kernel
theorem dX9_tie_107 : decode cX9_tie 107 = .ok (.invokestatic 135, 3) := by decide +kernel
theorem dX9_tie_110 : decode cX9_tie 110 = .ok (.istore 6, 2) := by decide +kernel
theorem dX9_tie_112 : decode cX9_tie 112 = .ok (.iload 6, 2) := by decide +kernel
theorem dX9_tie_114 : decode cX9_tie 114 = .ok (.iload_n 3, 1) := by decide +kernel
theorem dX9_tie_115 : decode cX9_tie 115 = .ok (.if_icmp .ge 8, 3) := by decide +kernel
theorem dX9_tie_118 : decode cX9_tie 118 = .ok (.iload 4, 2) := by decide +kernel
theorem dX9_tie_120 : decode cX9_tie 120 = .ok (.goto 4, 3) := by decide +kernel
theorem dX9_tie_123 : decode cX9_tie 123 = .ok (.iload_n 1, 1) := by decide +kernel
theorem dX9_tie_124 : decode cX9_tie 124 = .ok (.istore_n 1, 1) := by decide +kernel
theorem dX9_tie_125 : decode cX9_tie 125 = .ok (.iload 6, 2) := by decide +kernel
theorem dX9_tie_127 : decode cX9_tie 127 = .ok (.iload_n 3, 1) := by decide +kernel
theorem dX9_tie_128 : decode cX9_tie 128 = .ok (.if_icmp .ge 8, 3) := by decide +kernel
theorem dX9_tie_131 : decode cX9_tie 131 = .ok (.iload 5, 2) := by decide +kernel
theorem dX9_tie_133 : decode cX9_tie 133 = .ok (.goto 4, 3) := by decide +kernel
theorem dX9_tie_136 : decode cX9_tie 136 = .ok (.iload_n 2, 1) := by decide +kernel
theorem dX9_tie_137 : decode cX9_tie 137 = .ok (.istore_n 2, 1) := by decide +kernel
theorem dX9_tie_138 : decode cX9_tie 138 = .ok (.iload_n 3, 1) := by decide +kernel
theorem dX9_tie_139 : decode cX9_tie 139 = .ok (.iload 6, 2) := by decide +kernel
theorem dX9_tie_141 : decode cX9_tie 141 = .ok (.invokestatic 150, 3) := by decide +kernel
theorem dX9_tie_144 : decode cX9_tie 144 = .ok (.istore_n 3, 1) := by decide +kernel
theorem dX9_tie_145 : decode cX9_tie 145 = .ok (.iinc 5 1, 3) := by decide +kernel
theorem dX9_tie_148 : decode cX9_tie 148 = .ok (.goto (-117), 3) := by decide +kernel
theorem dX9_tie_151 : decode cX9_tie 151 = .ok (.iinc 4 1, 3) := by decide +kernel
theorem dX9_tie_154 : decode cX9_tie 154 = .ok (.goto (-138), 3) := by decide +kernel
theorem dX9_tie_157 : decode cX9_tie 157 = .ok (.iload_n 1, 1) := by decide +kernel
theorem dX9_tie_158 : decode cX9_tie 158 = .ok (.ifCond .ge 6, 3) := by decide +kernel
theorem dX9_tie_161 : decode cX9_tie 161 = .ok (.bipush (-2), 2) := by decide +kernel
theorem dX9_tie_163 : decode cX9_tie 163 = .ok (.ireturn, 1) := by decide +kernel
theorem dX9_tie_164 : decode cX9_tie 164 = .ok (.aload_n 0, 1) := by decide +kernel
theorem dX9_tie_165 : decode cX9_tie 165 = .ok (.iconst 0, 1) := by decide +kernel
theorem dX9_tie_166 : decode cX9_tie 166 = .ok (.putfield 15, 3) := by decide +kernel
theorem dX9_tie_169 : decode cX9_tie 169 = .ok (.aload_n 0, 1) := by decide +kernel
theorem dX9_tie_170 : decode cX9_tie 170 = .ok (.iload_n 1, 1) := by decide +kernel
theorem dX9_tie_171 : decode cX9_tie 171 = .ok (.i2l, 1) := by decide +kernel
theorem dX9_tie_172 : decode cX9_tie 172 = .ok (.invokevirtual 327, 3) := by decide +kernel
theorem dX9_tie_175 : decode cX9_tie 175 = .ok (.aload_n 0, 1) := by decide +kernel
theorem dX9_tie_176 : decode cX9_tie 176 = .ok (.iload_n 2, 1) := by decide +kernel
theorem dX9_tie_177 : decode cX9_tie 177 = .ok (.i2l, 1) := by decide +kernel
theorem dX9_tie_178 : decode cX9_tie 178 = .ok (.invokevirtual 327, 3) := by decide +kernel
theorem dX9_tie_181 : decode cX9_tie 181 = .ok (.aload_n 0, 1) := by decide +kernel
theorem dX9_tie_182 : decode cX9_tie 182 = .ok (.aload_n 0, 1) := by decide +kernel
theorem dX9_tie_183 : decode cX9_tie 183 = .ok (.aload_n 0, 1) := by decide +kernel
theorem dX9_tie_184 : decode cX9_tie 184 = .ok (.getfield 34, 3) := by decide +kernel
theorem dX9_tie_187 : decode cX9_tie 187 = .ok (.invokevirtual 303, 3) := by decide +kernel
theorem dX9_tie_190 : decode cX9_tie 190 = .ok (.invokestatic 135, 3) := by decide +kernel
theorem dX9_tie_193 : decode cX9_tie 193 = .ok (.i2l, 1) := by decide +kernel
theorem dX9_tie_194 : decode cX9_tie 194 = .ok (.invokevirtual 327, 3) := by decide +kernel
theorem dX9_tie_197 : decode cX9_tie 197 = .ok (.iload_n 3, 1) := by decide +kernel
theorem dX9_tie_198 : decode cX9_tie 198 = .ok (.ireturn, 1) := by decide +kernel
theorem dX9_spareOf_0 : decode cX9_spareOf 0 = .ok (.iconst 0, 1) := by decide +kernel
theorem dX9_spareOf_1 : decode cX9_spareOf 1 = .ok (.istore_n 2, 1) := by decide +kernel
theorem dX9_spareOf_2 : decode cX9_spareOf 2 = .ok (.iconst 0, 1) := by decide +kernel
theorem dX9_spareOf_3 : decode cX9_spareOf 3 = .ok (.istore_n 3, 1) := by decide +kernel
theorem dX9_spareOf_4 : decode cX9_spareOf 4 = .ok (.iload_n 3, 1) := by decide +kernel
theorem dX9_spareOf_5 : decode cX9_spareOf 5 = .ok (.bipush 8, 2) := by decide +kernel
theorem dX9_spareOf_7 : decode cX9_spareOf 7 = .ok (.if_icmp .ge 30, 3) := by decide +kernel
theorem dX9_spareOf_10 : decode cX9_spareOf 10 = .ok (.iload_n 2, 1) := by decide +kernel
theorem dX9_spareOf_11 : decode cX9_spareOf 11 = .ok (.iload_n 1, 1) := by decide +kernel
theorem dX9_spareOf_12 : decode cX9_spareOf 12 = .ok (.iload_n 3, 1) := by decide +kernel
theorem dX9_spareOf_13 : decode cX9_spareOf 13 = .ok (.invokestatic 127, 3) := by decide +kernel
theorem dX9_spareOf_16 : decode cX9_spareOf 16 = .ok (.ifCond .eq 12, 3) := by decide +kernel
theorem dX9_spareOf_19 : decode cX9_spareOf 19 = .ok (.aload_n 0, 1) := by decide +kernel
theorem dX9_spareOf_20 : decode cX9_spareOf 20 = .ok (.getfield 76, 3) := by decide +kernel
theorem dX9_spareOf_23 : decode cX9_spareOf 23 = .ok (.iload_n 3, 1) := by decide +kernel
theorem dX9_spareOf_24 : decode cX9_spareOf 24 = .ok (.iaload, 1) := by decide +kernel
theorem dX9_spareOf_25 : decode cX9_spareOf 25 = .ok (.goto 4, 3) := by decide +kernel
theorem dX9_spareOf_28 : decode cX9_spareOf 28 = .ok (.iconst 0, 1) := by decide +kernel
theorem dX9_spareOf_29 : decode cX9_spareOf 29 = .ok (.iadd, 1) := by decide +kernel
theorem dX9_spareOf_30 : decode cX9_spareOf 30 = .ok (.istore_n 2, 1) := by decide +kernel
theorem dX9_spareOf_31 : decode cX9_spareOf 31 = .ok (.iinc 3 1, 3) := by decide +kernel
theorem dX9_spareOf_34 : decode cX9_spareOf 34 = .ok (.goto (-30), 3) := by decide +kernel
theorem dX9_spareOf_37 : decode cX9_spareOf 37 = .ok (.iload_n 2, 1) := by decide +kernel
theorem dX9_spareOf_38 : decode cX9_spareOf 38 = .ok (.ireturn, 1) := by decide +kernel
theorem dX9_binds_0 : decode cX9_binds 0 = .ok (.aload_n 0, 1) := by decide +kernel
theorem dX9_binds_1 : decode cX9_binds 1 = .ok (.iconst 0, 1) := by decide +kernel
theorem dX9_binds_2 : decode cX9_binds 2 = .ok (.putfield 3, 3) := by decide +kernel
theorem dX9_binds_5 : decode cX9_binds 5 = .ok (.aload_n 0, 1) := by decide +kernel
theorem dX9_binds_6 : decode cX9_binds 6 = .ok (.aload_n 0, 1) := by decide +kernel
theorem dX9_binds_7 : decode cX9_binds 7 = .ok (.getfield 34, 3) := by decide +kernel
theorem dX9_binds_10 : decode cX9_binds 10 = .ok (.invokevirtual 359, 3) := by decide +kernel
theorem dX9_binds_13 : decode cX9_binds 13 = .ok (.istore_n 1, 1) := by decide +kernel
theorem dX9_binds_14 : decode cX9_binds 14 = .ok (.aload_n 0, 1) := by decide +kernel
theorem dX9_binds_15 : decode cX9_binds 15 = .ok (.aload_n 0, 1) := by decide +kernel
theorem dX9_binds_16 : decode cX9_binds 16 = .ok (.getfield 34, 3) := by decide +kernel
theorem dX9_binds_19 : decode cX9_binds 19 = .ok (.aload_n 0, 1) := by decide +kernel
theorem dX9_binds_20 : decode cX9_binds 20 = .ok (.aload_n 0, 1) := by decide +kernel
theorem dX9_binds_21 : decode cX9_binds 21 = .ok (.getfield 34, 3) := by decide +kernel
theorem dX9_binds_24 : decode cX9_binds 24 = .ok (.invokevirtual 307, 3) := by decide +kernel
theorem dX9_binds_27 : decode cX9_binds 27 = .ok (.invokevirtual 287, 3) := by decide +kernel
theorem dX9_binds_30 : decode cX9_binds 30 = .ok (.ifCond .ge 6, 3) := by decide +kernel
theorem dX9_binds_33 : decode cX9_binds 33 = .ok (.bipush (-2), 2) := by decide +kernel
theorem dX9_binds_35 : decode cX9_binds 35 = .ok (.ireturn, 1) := by decide +kernel
theorem dX9_binds_36 : decode cX9_binds 36 = .ok (.iconst 0, 1) := by decide +kernel
theorem dX9_binds_37 : decode cX9_binds 37 = .ok (.istore_n 2, 1) := by decide +kernel
theorem dX9_binds_38 : decode cX9_binds 38 = .ok (.iload_n 2, 1) := by decide +kernel
theorem dX9_binds_39 : decode cX9_binds 39 = .ok (.bipush 8, 2) := by decide +kernel
theorem dX9_binds_41 : decode cX9_binds 41 = .ok (.if_icmp .ge 44, 3) := by decide +kernel
theorem dX9_binds_44 : decode cX9_binds 44 = .ok (.aload_n 0, 1) := by decide +kernel
theorem dX9_binds_45 : decode cX9_binds 45 = .ok (.getfield 76, 3) := by decide +kernel
theorem dX9_binds_48 : decode cX9_binds 48 = .ok (.iload_n 2, 1) := by decide +kernel
theorem dX9_binds_49 : decode cX9_binds 49 = .ok (.iload_n 1, 1) := by decide +kernel
theorem dX9_binds_50 : decode cX9_binds 50 = .ok (.iload_n 2, 1) := by decide +kernel
theorem dX9_binds_51 : decode cX9_binds 51 = .ok (.invokestatic 127, 3) := by decide +kernel
theorem dX9_binds_54 : decode cX9_binds 54 = .ok (.ifCond .eq 23, 3) := by decide +kernel
theorem dX9_binds_57 : decode cX9_binds 57 = .ok (.aload_n 0, 1) := by decide +kernel
theorem dX9_binds_58 : decode cX9_binds 58 = .ok (.aload_n 0, 1) := by decide +kernel
theorem dX9_binds_59 : decode cX9_binds 59 = .ok (.getfield 34, 3) := by decide +kernel
theorem dX9_binds_62 : decode cX9_binds 62 = .ok (.aload_n 0, 1) := by decide +kernel
theorem dX9_binds_63 : decode cX9_binds 63 = .ok (.aload_n 0, 1) := by decide +kernel
theorem dX9_binds_64 : decode cX9_binds 64 = .ok (.getfield 34, 3) := by decide +kernel
theorem dX9_binds_67 : decode cX9_binds 67 = .ok (.iload_n 2, 1) := by decide +kernel
theorem dX9_binds_68 : decode cX9_binds 68 = .ok (.invokevirtual 281, 3) := by decide +kernel
theorem dX9_binds_71 : decode cX9_binds 71 = .ok (.invokevirtual 287, 3) := by decide +kernel
theorem dX9_binds_74 : decode cX9_binds 74 = .ok (.goto 4, 3) := by decide +kernel
theorem dX9_binds_77 : decode cX9_binds 77 = .ok (.iconst 0, 1) := by decide +kernel
theorem dX9_binds_78 : decode cX9_binds 78 = .ok (.iastore, 1) := by decide +kernel
theorem dX9_binds_79 : decode cX9_binds 79 = .ok (.iinc 2 1, 3) := by decide +kernel
theorem dX9_binds_82 : decode cX9_binds 82 = .ok (.goto (-44), 3) := by decide +kernel
theorem dX9_binds_85 : decode cX9_binds 85 = .ok (.aload_n 0, 1) := by decide +kernel
theorem dX9_binds_86 : decode cX9_binds 86 = .ok (.getfield 73, 3) := by decide +kernel
theorem dX9_binds_89 : decode cX9_binds 89 = .ok (.iconst 0, 1) := by decide +kernel
theorem dX9_binds_90 : decode cX9_binds 90 = .ok (.iconst 0, 1) := by decide +kernel
theorem dX9_binds_91 : decode cX9_binds 91 = .ok (.iastore, 1) := by decide +kernel
theorem dX9_binds_92 : decode cX9_binds 92 = .ok (.iconst 1, 1) := by decide +kernel
theorem dX9_binds_93 : decode cX9_binds 93 = .ok (.istore_n 2, 1) := by decide +kernel
theorem dX9_binds_94 : decode cX9_binds 94 = .ok (.iload_n 2, 1) := by decide +kernel
theorem dX9_binds_95 : decode cX9_binds 95 = .ok (.iload_n 1, 1) := by decide +kernel
theorem dX9_binds_96 : decode cX9_binds 96 = .ok (.if_icmp .gt 97, 3) := by decide +kernel
theorem dX9_binds_99 : decode cX9_binds 99 = .ok (.aload_n 0, 1) := by decide +kernel
theorem dX9_binds_100 : decode cX9_binds 100 = .ok (.getfield 73, 3) := by decide +kernel
theorem dX9_binds_103 : decode cX9_binds 103 = .ok (.iload_n 2, 1) := by decide +kernel
theorem dX9_binds_104 : decode cX9_binds 104 = .ok (.ldc_w 366, 3) := by decide +kernel
theorem dX9_binds_107 : decode cX9_binds 107 = .ok (.iastore, 1) := by decide +kernel
theorem dX9_binds_108 : decode cX9_binds 108 = .ok (.iload_n 2, 1) := by decide +kernel
theorem dX9_binds_109 : decode cX9_binds 109 = .ok (.iload_n 1, 1) := by decide +kernel
theorem dX9_binds_110 : decode cX9_binds 110 = .ok (.iconst (-1), 1) := by decide +kernel
theorem dX9_binds_111 : decode cX9_binds 111 = .ok (.ixor, 1) := by decide +kernel
theorem dX9_binds_112 : decode cX9_binds 112 = .ok (.iand, 1) := by decide +kernel
theorem dX9_binds_113 : decode cX9_binds 113 = .ok (.ifCond .ne 7, 3) := by decide +kernel
theorem dX9_binds_116 : decode cX9_binds 116 = .ok (.iconst 1, 1) := by decide +kernel
theorem dX9_binds_117 : decode cX9_binds 117 = .ok (.goto 4, 3) := by decide +kernel
theorem dX9_binds_120 : decode cX9_binds 120 = .ok (.iconst 0, 1) := by decide +kernel
theorem dX9_binds_121 : decode cX9_binds 121 = .ok (.istore_n 3, 1) := by decide +kernel
theorem dX9_binds_122 : decode cX9_binds 122 = .ok (.iconst 1, 1) := by decide +kernel
theorem dX9_binds_123 : decode cX9_binds 123 = .ok (.istore 4, 2) := by decide +kernel
theorem dX9_binds_125 : decode cX9_binds 125 = .ok (.iload 4, 2) := by decide +kernel
theorem dX9_binds_127 : decode cX9_binds 127 = .ok (.iload_n 2, 1) := by decide +kernel
theorem dX9_binds_128 : decode cX9_binds 128 = .ok (.if_icmp .gt 59, 3) := by decide +kernel
theorem dX9_binds_131 : decode cX9_binds 131 = .ok (.iload_n 3, 1) := by decide +kernel
theorem dX9_binds_132 : decode cX9_binds 132 = .ok (.ifCond .eq 55, 3) := by decide +kernel
theorem dX9_binds_135 : decode cX9_binds 135 = .ok (.iload 4, 2) := by decide +kernel
theorem dX9_binds_137 : decode cX9_binds 137 = .ok (.iload_n 2, 1) := by decide +kernel
theorem dX9_binds_138 : decode cX9_binds 138 = .ok (.iconst (-1), 1) := by decide +kernel
theorem dX9_binds_139 : decode cX9_binds 139 = .ok (.ixor, 1) := by decide +kernel
theorem dX9_binds_140 : decode cX9_binds 140 = .ok (.iand, 1) := by decide +kernel
theorem dX9_binds_141 : decode cX9_binds 141 = .ok (.ifCond .ne 40, 3) := by decide +kernel
theorem dX9_binds_144 : decode cX9_binds 144 = .ok (.aload_n 0, 1) := by decide +kernel
theorem dX9_binds_145 : decode cX9_binds 145 = .ok (.iload 4, 2) := by decide +kernel
theorem dX9_binds_147 : decode cX9_binds 147 = .ok (.invokevirtual 367, 3) := by decide +kernel
theorem dX9_binds_150 : decode cX9_binds 150 = .ok (.ifCond .lt 31, 3) := by decide +kernel
theorem dX9_binds_153 : decode cX9_binds 153 = .ok (.aload_n 0, 1) := by decide +kernel
theorem dX9_binds_154 : decode cX9_binds 154 = .ok (.getfield 73, 3) := by decide +kernel
theorem dX9_binds_157 : decode cX9_binds 157 = .ok (.iload_n 2, 1) := by decide +kernel
theorem dX9_binds_158 : decode cX9_binds 158 = .ok (.aload_n 0, 1) := by decide +kernel
theorem dX9_binds_159 : decode cX9_binds 159 = .ok (.getfield 73, 3) := by decide +kernel
theorem dX9_binds_162 : decode cX9_binds 162 = .ok (.iload_n 2, 1) := by decide +kernel
theorem dX9_binds_163 : decode cX9_binds 163 = .ok (.iaload, 1) := by decide +kernel
theorem dX9_binds_164 : decode cX9_binds 164 = .ok (.aload_n 0, 1) := by decide +kernel
theorem dX9_binds_165 : decode cX9_binds 165 = .ok (.getfield 73, 3) := by decide +kernel
theorem dX9_binds_168 : decode cX9_binds 168 = .ok (.iload_n 2, 1) := by decide +kernel
theorem dX9_binds_169 : decode cX9_binds 169 = .ok (.iload 4, 2) := by decide +kernel
theorem dX9_binds_171 : decode cX9_binds 171 = .ok (.iconst (-1), 1) := by decide +kernel
theorem dX9_binds_172 : decode cX9_binds 172 = .ok (.ixor, 1) := by decide +kernel
theorem dX9_binds_173 : decode cX9_binds 173 = .ok (.iand, 1) := by decide +kernel
theorem dX9_binds_174 : decode cX9_binds 174 = .ok (.iaload, 1) := by decide +kernel
theorem dX9_binds_175 : decode cX9_binds 175 = .ok (.iconst 1, 1) := by decide +kernel
theorem dX9_binds_176 : decode cX9_binds 176 = .ok (.iadd, 1) := by decide +kernel
theorem dX9_binds_177 : decode cX9_binds 177 = .ok (.invokestatic 267, 3) := by decide +kernel
theorem dX9_binds_180 : decode cX9_binds 180 = .ok (.iastore, 1) := by decide +kernel
theorem dX9_binds_181 : decode cX9_binds 181 = .ok (.iinc 4 1, 3) := by decide +kernel
theorem dX9_binds_184 : decode cX9_binds 184 = .ok (.goto (-59), 3) := by decide +kernel
theorem dX9_binds_187 : decode cX9_binds 187 = .ok (.iinc 2 1, 3) := by decide +kernel
theorem dX9_binds_190 : decode cX9_binds 190 = .ok (.goto (-96), 3) := by decide +kernel
theorem dX9_binds_193 : decode cX9_binds 193 = .ok (.aload_n 0, 1) := by decide +kernel
theorem dX9_binds_194 : decode cX9_binds 194 = .ok (.iconst 0, 1) := by decide +kernel
theorem dX9_binds_195 : decode cX9_binds 195 = .ok (.putfield 15, 3) := by decide +kernel
theorem dX9_binds_198 : decode cX9_binds 198 = .ok (.aload_n 0, 1) := by decide +kernel
theorem dX9_binds_199 : decode cX9_binds 199 = .ok (.aload_n 0, 1) := by decide +kernel
theorem dX9_binds_200 : decode cX9_binds 200 = .ok (.getfield 73, 3) := by decide +kernel
theorem dX9_binds_203 : decode cX9_binds 203 = .ok (.iload_n 1, 1) := by decide +kernel
theorem dX9_binds_204 : decode cX9_binds 204 = .ok (.iaload, 1) := by decide +kernel
theorem dX9_binds_205 : decode cX9_binds 205 = .ok (.i2l, 1) := by decide +kernel
theorem dX9_binds_206 : decode cX9_binds 206 = .ok (.invokevirtual 327, 3) := by decide +kernel
theorem dX9_binds_209 : decode cX9_binds 209 = .ok (.iload_n 1, 1) := by decide +kernel
theorem dX9_binds_210 : decode cX9_binds 210 = .ok (.invokestatic 135, 3) := by decide +kernel
theorem dX9_binds_213 : decode cX9_binds 213 = .ok (.aload_n 0, 1) := by decide +kernel
theorem dX9_binds_214 : decode cX9_binds 214 = .ok (.getfield 73, 3) := by decide +kernel
theorem dX9_binds_217 : decode cX9_binds 217 = .ok (.iload_n 1, 1) := by decide +kernel
theorem dX9_binds_218 : decode cX9_binds 218 = .ok (.iaload, 1) := by decide +kernel
theorem dX9_binds_219 : decode cX9_binds 219 = .ok (.isub, 1) := by decide +kernel
theorem dX9_binds_220 : decode cX9_binds 220 = .ok (.ireturn, 1) := by decide +kernel
theorem dX9_way_0 : decode cX9_way 0 = .ok (.aload_n 0, 1) := by decide +kernel
theorem dX9_way_1 : decode cX9_way 1 = .ok (.iconst 0, 1) := by decide +kernel
theorem dX9_way_2 : decode cX9_way 2 = .ok (.putfield 3, 3) := by decide +kernel
theorem dX9_way_5 : decode cX9_way 5 = .ok (.aload_n 0, 1) := by decide +kernel
theorem dX9_way_6 : decode cX9_way 6 = .ok (.iload_n 1, 1) := by decide +kernel
theorem dX9_way_7 : decode cX9_way 7 = .ok (.invokevirtual 123, 3) := by decide +kernel
theorem dX9_way_10 : decode cX9_way 10 = .ok (.ifCond .eq 11, 3) := by decide +kernel
theorem dX9_way_13 : decode cX9_way 13 = .ok (.aload_n 0, 1) := by decide +kernel
theorem dX9_way_14 : decode cX9_way 14 = .ok (.iload_n 2, 1) := by decide +kernel
theorem dX9_way_15 : decode cX9_way 15 = .ok (.invokevirtual 123, 3) := by decide +kernel
theorem dX9_way_18 : decode cX9_way 18 = .ok (.ifCond .ne 5, 3) := by decide +kernel
theorem dX9_way_21 : decode cX9_way 21 = .ok (.iconst (-1), 1) := by decide +kernel
theorem dX9_way_22 : decode cX9_way 22 = .ok (.ireturn, 1) := by decide +kernel
theorem dX9_way_23 : decode cX9_way 23 = .ok (.iconst 0, 1) := by decide +kernel
theorem dX9_way_24 : decode cX9_way 24 = .ok (.istore_n 3, 1) := by decide +kernel
theorem dX9_way_25 : decode cX9_way 25 = .ok (.iload_n 3, 1) := by decide +kernel
theorem dX9_way_26 : decode cX9_way 26 = .ok (.aload_n 0, 1) := by decide +kernel
theorem dX9_way_27 : decode cX9_way 27 = .ok (.getfield 116, 3) := by decide +kernel
theorem dX9_way_30 : decode cX9_way 30 = .ok (.if_icmp .ge 27, 3) := by decide +kernel
theorem dX9_way_33 : decode cX9_way 33 = .ok (.aload_n 0, 1) := by decide +kernel
theorem dX9_way_34 : decode cX9_way 34 = .ok (.getfield 79, 3) := by decide +kernel
theorem dX9_way_37 : decode cX9_way 37 = .ok (.iload_n 3, 1) := by decide +kernel
theorem dX9_way_38 : decode cX9_way 38 = .ok (.iload_n 3, 1) := by decide +kernel
theorem dX9_way_39 : decode cX9_way 39 = .ok (.iload_n 2, 1) := by decide +kernel
theorem dX9_way_40 : decode cX9_way 40 = .ok (.if_icmp .ne 7, 3) := by decide +kernel
theorem dX9_way_43 : decode cX9_way 43 = .ok (.iconst 0, 1) := by decide +kernel
theorem dX9_way_44 : decode cX9_way 44 = .ok (.goto 6, 3) := by decide +kernel
theorem dX9_way_47 : decode cX9_way 47 = .ok (.ldc_w 365, 3) := by decide +kernel
theorem dX9_way_50 : decode cX9_way 50 = .ok (.iastore, 1) := by decide +kernel
theorem dX9_way_51 : decode cX9_way 51 = .ok (.iinc 3 1, 3) := by decide +kernel
theorem dX9_way_54 : decode cX9_way 54 = .ok (.goto (-29), 3) := by decide +kernel
theorem dX9_way_57 : decode cX9_way 57 = .ok (.iconst 0, 1) := by decide +kernel
theorem dX9_way_58 : decode cX9_way 58 = .ok (.istore_n 3, 1) := by decide +kernel
theorem dX9_way_59 : decode cX9_way 59 = .ok (.iload_n 3, 1) := by decide +kernel
theorem dX9_way_60 : decode cX9_way 60 = .ok (.aload_n 0, 1) := by decide +kernel
theorem dX9_way_61 : decode cX9_way 61 = .ok (.getfield 116, 3) := by decide +kernel
theorem dX9_way_64 : decode cX9_way 64 = .ok (.if_icmp .ge 99, 3) := by decide +kernel
theorem dX9_way_67 : decode cX9_way 67 = .ok (.iconst 0, 1) := by decide +kernel
theorem dX9_way_68 : decode cX9_way 68 = .ok (.istore 4, 2) := by decide +kernel
theorem dX9_way_70 : decode cX9_way 70 = .ok (.iload 4, 2) := by decide +kernel
theorem dX9_way_72 : decode cX9_way 72 = .ok (.aload_n 0, 1) := by decide +kernel
theorem dX9_way_73 : decode cX9_way 73 = .ok (.getfield 116, 3) := by decide +kernel
theorem dX9_way_76 : decode cX9_way 76 = .ok (.if_icmp .ge 81, 3) := by decide +kernel
theorem dX9_way_79 : decode cX9_way 79 = .ok (.iconst 0, 1) := by decide +kernel
theorem dX9_way_80 : decode cX9_way 80 = .ok (.istore 5, 2) := by decide +kernel
theorem dX9_way_82 : decode cX9_way 82 = .ok (.iload 5, 2) := by decide +kernel
theorem dX9_way_84 : decode cX9_way 84 = .ok (.aload_n 0, 1) := by decide +kernel
theorem dX9_way_85 : decode cX9_way 85 = .ok (.getfield 116, 3) := by decide +kernel
theorem dX9_way_88 : decode cX9_way 88 = .ok (.if_icmp .ge 63, 3) := by decide +kernel
theorem dX9_way_91 : decode cX9_way 91 = .ok (.aload_n 0, 1) := by decide +kernel
theorem dX9_way_92 : decode cX9_way 92 = .ok (.getfield 79, 3) := by decide +kernel
theorem dX9_way_95 : decode cX9_way 95 = .ok (.iload 4, 2) := by decide +kernel
theorem dX9_way_97 : decode cX9_way 97 = .ok (.aload_n 0, 1) := by decide +kernel
theorem dX9_way_98 : decode cX9_way 98 = .ok (.getfield 34, 3) := by decide +kernel
theorem dX9_way_101 : decode cX9_way 101 = .ok (.bipush 24, 2) := by decide +kernel
theorem dX9_way_103 : decode cX9_way 103 = .ok (.iload 4, 2) := by decide +kernel
theorem dX9_way_105 : decode cX9_way 105 = .ok (.iadd, 1) := by decide +kernel
theorem dX9_way_106 : decode cX9_way 106 = .ok (.iaload, 1) := by decide +kernel
theorem dX9_way_107 : decode cX9_way 107 = .ok (.iload 5, 2) := by decide +kernel
theorem dX9_way_109 : decode cX9_way 109 = .ok (.invokestatic 127, 3) := by decide +kernel
theorem dX9_way_112 : decode cX9_way 112 = .ok (.ifCond .eq 25, 3) := by decide +kernel
theorem dX9_way_115 : decode cX9_way 115 = .ok (.aload_n 0, 1) := by decide +kernel
theorem dX9_way_116 : decode cX9_way 116 = .ok (.getfield 79, 3) := by decide +kernel
theorem dX9_way_119 : decode cX9_way 119 = .ok (.iload 4, 2) := by decide +kernel
theorem dX9_way_121 : decode cX9_way 121 = .ok (.iaload, 1) := by decide +kernel
theorem dX9_way_122 : decode cX9_way 122 = .ok (.aload_n 0, 1) := by decide +kernel
theorem dX9_way_123 : decode cX9_way 123 = .ok (.getfield 79, 3) := by decide +kernel
theorem dX9_way_126 : decode cX9_way 126 = .ok (.iload 5, 2) := by decide +kernel
theorem dX9_way_128 : decode cX9_way 128 = .ok (.iaload, 1) := by decide +kernel
theorem dX9_way_129 : decode cX9_way 129 = .ok (.iconst 1, 1) := by decide +kernel
theorem dX9_way_130 : decode cX9_way 130 = .ok (.iadd, 1) := by decide +kernel
theorem dX9_way_131 : decode cX9_way 131 = .ok (.invokestatic 150, 3) := by decide +kernel
theorem dX9_way_134 : decode cX9_way 134 = .ok (.goto 10, 3) := by decide +kernel
theorem dX9_way_137 : decode cX9_way 137 = .ok (.aload_n 0, 1) := by decide +kernel
theorem dX9_way_138 : decode cX9_way 138 = .ok (.getfield 79, 3) := by decide +kernel
theorem dX9_way_141 : decode cX9_way 141 = .ok (.iload 4, 2) := by decide +kernel
theorem dX9_way_143 : decode cX9_way 143 = .ok (.iaload, 1) := by decide +kernel
theorem dX9_way_144 : decode cX9_way 144 = .ok (.iastore, 1) := by decide +kernel
theorem dX9_way_145 : decode cX9_way 145 = .ok (.iinc 5 1, 3) := by decide +kernel
theorem dX9_way_148 : decode cX9_way 148 = .ok (.goto (-66), 3) := by decide +kernel
theorem dX9_way_151 : decode cX9_way 151 = .ok (.iinc 4 1, 3) := by decide +kernel
theorem dX9_way_154 : decode cX9_way 154 = .ok (.goto (-84), 3) := by decide +kernel
theorem dX9_way_157 : decode cX9_way 157 = .ok (.iinc 3 1, 3) := by decide +kernel
theorem dX9_way_160 : decode cX9_way 160 = .ok (.goto (-101), 3) := by decide +kernel
theorem dX9_way_163 : decode cX9_way 163 = .ok (.aload_n 0, 1) := by decide +kernel
theorem dX9_way_164 : decode cX9_way 164 = .ok (.getfield 79, 3) := by decide +kernel
theorem dX9_way_167 : decode cX9_way 167 = .ok (.iload_n 1, 1) := by decide +kernel
theorem dX9_way_168 : decode cX9_way 168 = .ok (.iaload, 1) := by decide +kernel
theorem dX9_way_169 : decode cX9_way 169 = .ok (.ldc_w 365, 3) := by decide +kernel
theorem dX9_way_172 : decode cX9_way 172 = .ok (.if_icmp .ge 27, 3) := by decide +kernel
theorem dX9_way_175 : decode cX9_way 175 = .ok (.aload_n 0, 1) := by decide +kernel
theorem dX9_way_176 : decode cX9_way 176 = .ok (.aload_n 0, 1) := by decide +kernel
theorem dX9_way_177 : decode cX9_way 177 = .ok (.getfield 34, 3) := by decide +kernel
theorem dX9_way_180 : decode cX9_way 180 = .ok (.iload_n 1, 1) := by decide +kernel
theorem dX9_way_181 : decode cX9_way 181 = .ok (.invokevirtual 202, 3) := by decide +kernel
theorem dX9_way_184 : decode cX9_way 184 = .ok (.ifCond .eq 15, 3) := by decide +kernel
theorem dX9_way_187 : decode cX9_way 187 = .ok (.aload_n 0, 1) := by decide +kernel
theorem dX9_way_188 : decode cX9_way 188 = .ok (.aload_n 0, 1) := by decide +kernel
theorem dX9_way_189 : decode cX9_way 189 = .ok (.getfield 34, 3) := by decide +kernel
theorem dX9_way_192 : decode cX9_way 192 = .ok (.iload_n 2, 1) := by decide +kernel
theorem dX9_way_193 : decode cX9_way 193 = .ok (.invokevirtual 202, 3) := by decide +kernel
theorem dX9_way_196 : decode cX9_way 196 = .ok (.ifCond .ne 6, 3) := by decide +kernel
theorem dX9_way_199 : decode cX9_way 199 = .ok (.bipush (-2), 2) := by decide +kernel
theorem dX9_way_201 : decode cX9_way 201 = .ok (.ireturn, 1) := by decide +kernel
theorem dX9_way_202 : decode cX9_way 202 = .ok (.aload_n 0, 1) := by decide +kernel
theorem dX9_way_203 : decode cX9_way 203 = .ok (.iconst 0, 1) := by decide +kernel
theorem dX9_way_204 : decode cX9_way 204 = .ok (.putfield 15, 3) := by decide +kernel
theorem dX9_way_207 : decode cX9_way 207 = .ok (.iload_n 1, 1) := by decide +kernel
theorem dX9_way_208 : decode cX9_way 208 = .ok (.istore_n 3, 1) := by decide +kernel
theorem dX9_way_209 : decode cX9_way 209 = .ok (.aload_n 0, 1) := by decide +kernel
theorem dX9_way_210 : decode cX9_way 210 = .ok (.iload_n 3, 1) := by decide +kernel
theorem dX9_way_211 : decode cX9_way 211 = .ok (.i2l, 1) := by decide +kernel
theorem dX9_way_212 : decode cX9_way 212 = .ok (.invokevirtual 327, 3) := by decide +kernel
theorem dX9_way_215 : decode cX9_way 215 = .ok (.iload_n 3, 1) := by decide +kernel
theorem dX9_way_216 : decode cX9_way 216 = .ok (.iload_n 2, 1) := by decide +kernel
theorem dX9_way_217 : decode cX9_way 217 = .ok (.if_icmp .eq 59, 3) := by decide +kernel
theorem dX9_way_220 : decode cX9_way 220 = .ok (.iconst 0, 1) := by decide +kernel
theorem dX9_way_221 : decode cX9_way 221 = .ok (.istore 4, 2) := by decide +kernel
theorem dX9_way_223 : decode cX9_way 223 = .ok (.aload_n 0, 1) := by decide +kernel
theorem dX9_way_224 : decode cX9_way 224 = .ok (.getfield 34, 3) := by decide +kernel
theorem dX9_way_227 : decode cX9_way 227 = .ok (.bipush 24, 2) := by decide +kernel
theorem dX9_way_229 : decode cX9_way 229 = .ok (.iload_n 3, 1) := by decide +kernel
theorem dX9_way_230 : decode cX9_way 230 = .ok (.iadd, 1) := by decide +kernel
theorem dX9_way_231 : decode cX9_way 231 = .ok (.iaload, 1) := by decide +kernel
theorem dX9_way_232 : decode cX9_way 232 = .ok (.iload 4, 2) := by decide +kernel
theorem dX9_way_234 : decode cX9_way 234 = .ok (.invokestatic 127, 3) := by decide +kernel
theorem dX9_way_237 : decode cX9_way 237 = .ok (.ifCond .eq 21, 3) := by decide +kernel
theorem dX9_way_240 : decode cX9_way 240 = .ok (.aload_n 0, 1) := by decide +kernel
theorem dX9_way_241 : decode cX9_way 241 = .ok (.getfield 79, 3) := by decide +kernel
theorem dX9_way_244 : decode cX9_way 244 = .ok (.iload 4, 2) := by decide +kernel
theorem dX9_way_246 : decode cX9_way 246 = .ok (.iaload, 1) := by decide +kernel
theorem dX9_way_247 : decode cX9_way 247 = .ok (.aload_n 0, 1) := by decide +kernel
theorem dX9_way_248 : decode cX9_way 248 = .ok (.getfield 79, 3) := by decide +kernel
theorem dX9_way_251 : decode cX9_way 251 = .ok (.iload_n 3, 1) := by decide +kernel
theorem dX9_way_252 : decode cX9_way 252 = .ok (.iaload, 1) := by decide +kernel
theorem dX9_way_253 : decode cX9_way 253 = .ok (.iconst 1, 1) := by decide +kernel
theorem dX9_way_254 : decode cX9_way 254 = .ok (.isub, 1) := by decide +kernel
theorem dX9_way_255 : decode cX9_way 255 = .ok (.if_icmp .eq 9, 3) := by decide +kernel
theorem dX9_way_258 : decode cX9_way 258 = .ok (.iinc 4 1, 3) := by decide +kernel
theorem dX9_way_261 : decode cX9_way 261 = .ok (.goto (-38), 3) := by decide +kernel
theorem dX9_way_264 : decode cX9_way 264 = .ok (.iload 4, 2) := by decide +kernel
theorem dX9_way_266 : decode cX9_way 266 = .ok (.istore_n 3, 1) := by decide +kernel
theorem dX9_way_267 : decode cX9_way 267 = .ok (.aload_n 0, 1) := by decide +kernel
theorem dX9_way_268 : decode cX9_way 268 = .ok (.iload_n 3, 1) := by decide +kernel
theorem dX9_way_269 : decode cX9_way 269 = .ok (.i2l, 1) := by decide +kernel
theorem dX9_way_270 : decode cX9_way 270 = .ok (.invokevirtual 327, 3) := by decide +kernel
theorem dX9_way_273 : decode cX9_way 273 = .ok (.goto (-58), 3) := by decide +kernel
theorem dX9_way_276 : decode cX9_way 276 = .ok (.aload_n 0, 1) := by decide +kernel
theorem dX9_way_277 : decode cX9_way 277 = .ok (.getfield 79, 3) := by decide +kernel
theorem dX9_way_280 : decode cX9_way 280 = .ok (.iload_n 1, 1) := by decide +kernel
theorem dX9_way_281 : decode cX9_way 281 = .ok (.iaload, 1) := by decide +kernel
theorem dX9_way_282 : decode cX9_way 282 = .ok (.ireturn, 1) := by decide +kernel
theorem dX9_readsRequest_0 : decode cX9_readsRequest 0 = .ok (.aload_n 0, 1) := by decide +kernel
theorem dX9_readsRequest_1 : decode cX9_readsRequest 1 = .ok (.getfield 183, 3) := by decide +kernel
theorem dX9_readsRequest_4 : decode cX9_readsRequest 4 = .ok (.bipush 8, 2) := by decide +kernel
theorem dX9_readsRequest_6 : decode cX9_readsRequest 6 = .ok (.if_icmp .ne 5, 3) := by decide +kernel
theorem dX9_readsRequest_9 : decode cX9_readsRequest 9 = .ok (.iconst 0, 1) := by decide +kernel
theorem dX9_readsRequest_10 : decode cX9_readsRequest 10 = .ok (.ireturn, 1) := by decide +kernel
theorem dX9_readsRequest_11 : decode cX9_readsRequest 11 = .ok (.iconst 4, 1) := by decide +kernel
theorem dX9_readsRequest_12 : decode cX9_readsRequest 12 = .ok (.aload_n 0, 1) := by decide +kernel
theorem dX9_readsRequest_13 : decode cX9_readsRequest 13 = .ok (.getfield 183, 3) := by decide +kernel
theorem dX9_readsRequest_16 : decode cX9_readsRequest 16 = .ok (.imul, 1) := by decide +kernel
theorem dX9_readsRequest_17 : decode cX9_readsRequest 17 = .ok (.istore_n 1, 1) := by decide +kernel
theorem dX9_readsRequest_18 : decode cX9_readsRequest 18 = .ok (.aload_n 0, 1) := by decide +kernel
theorem dX9_readsRequest_19 : decode cX9_readsRequest 19 = .ok (.getfield 43, 3) := by decide +kernel
theorem dX9_readsRequest_22 : decode cX9_readsRequest 22 = .ok (.iload_n 1, 1) := by decide +kernel
theorem dX9_readsRequest_23 : decode cX9_readsRequest 23 = .ok (.aload_n 0, 1) := by decide +kernel
theorem dX9_readsRequest_24 : decode cX9_readsRequest 24 = .ok (.iconst 1, 1) := by decide +kernel
theorem dX9_readsRequest_25 : decode cX9_readsRequest 25 = .ok (.invokevirtual 219, 3) := by decide +kernel
theorem dX9_readsRequest_28 : decode cX9_readsRequest 28 = .ok (.iastore, 1) := by decide +kernel
theorem dX9_readsRequest_29 : decode cX9_readsRequest 29 = .ok (.aload_n 0, 1) := by decide +kernel
theorem dX9_readsRequest_30 : decode cX9_readsRequest 30 = .ok (.getfield 43, 3) := by decide +kernel
theorem dX9_readsRequest_33 : decode cX9_readsRequest 33 = .ok (.iload_n 1, 1) := by decide +kernel
theorem dX9_readsRequest_34 : decode cX9_readsRequest 34 = .ok (.iconst 1, 1) := by decide +kernel
theorem dX9_readsRequest_35 : decode cX9_readsRequest 35 = .ok (.iadd, 1) := by decide +kernel
theorem dX9_readsRequest_36 : decode cX9_readsRequest 36 = .ok (.aload_n 0, 1) := by decide +kernel
theorem dX9_readsRequest_37 : decode cX9_readsRequest 37 = .ok (.getfield 43, 3) := by decide +kernel
theorem dX9_readsRequest_40 : decode cX9_readsRequest 40 = .ok (.iload_n 1, 1) := by decide +kernel
theorem dX9_readsRequest_41 : decode cX9_readsRequest 41 = .ok (.iaload, 1) := by decide +kernel
theorem dX9_readsRequest_42 : decode cX9_readsRequest 42 = .ok (.ifCond .ge 7, 3) := by decide +kernel
theorem dX9_readsRequest_45 : decode cX9_readsRequest 45 = .ok (.iconst (-1), 1) := by decide +kernel
theorem dX9_readsRequest_46 : decode cX9_readsRequest 46 = .ok (.goto 15, 3) := by decide +kernel
theorem dX9_readsRequest_49 : decode cX9_readsRequest 49 = .ok (.aload_n 0, 1) := by decide +kernel
theorem dX9_readsRequest_50 : decode cX9_readsRequest 50 = .ok (.aload_n 0, 1) := by decide +kernel
theorem dX9_readsRequest_51 : decode cX9_readsRequest 51 = .ok (.getfield 43, 3) := by decide +kernel
theorem dX9_readsRequest_54 : decode cX9_readsRequest 54 = .ok (.iload_n 1, 1) := by decide +kernel
theorem dX9_readsRequest_55 : decode cX9_readsRequest 55 = .ok (.iaload, 1) := by decide +kernel
theorem dX9_readsRequest_56 : decode cX9_readsRequest 56 = .ok (.bipush 9, 2) := by decide +kernel
theorem dX9_readsRequest_58 : decode cX9_readsRequest 58 = .ok (.invokevirtual 186, 3) := by decide +kernel
theorem dX9_readsRequest_61 : decode cX9_readsRequest 61 = .ok (.iastore, 1) := by decide +kernel
theorem dX9_readsRequest_62 : decode cX9_readsRequest 62 = .ok (.aload_n 0, 1) := by decide +kernel
theorem dX9_readsRequest_63 : decode cX9_readsRequest 63 = .ok (.getfield 43, 3) := by decide +kernel
theorem dX9_readsRequest_66 : decode cX9_readsRequest 66 = .ok (.iload_n 1, 1) := by decide +kernel
theorem dX9_readsRequest_67 : decode cX9_readsRequest 67 = .ok (.iconst 2, 1) := by decide +kernel
theorem dX9_readsRequest_68 : decode cX9_readsRequest 68 = .ok (.iadd, 1) := by decide +kernel
theorem dX9_readsRequest_69 : decode cX9_readsRequest 69 = .ok (.aload_n 0, 1) := by decide +kernel
theorem dX9_readsRequest_70 : decode cX9_readsRequest 70 = .ok (.getfield 43, 3) := by decide +kernel
theorem dX9_readsRequest_73 : decode cX9_readsRequest 73 = .ok (.iload_n 1, 1) := by decide +kernel
theorem dX9_readsRequest_74 : decode cX9_readsRequest 74 = .ok (.iconst 1, 1) := by decide +kernel
theorem dX9_readsRequest_75 : decode cX9_readsRequest 75 = .ok (.iadd, 1) := by decide +kernel
theorem dX9_readsRequest_76 : decode cX9_readsRequest 76 = .ok (.iaload, 1) := by decide +kernel
theorem dX9_readsRequest_77 : decode cX9_readsRequest 77 = .ok (.ifCond .ge 7, 3) := by decide +kernel
theorem dX9_readsRequest_80 : decode cX9_readsRequest 80 = .ok (.iconst (-1), 1) := by decide +kernel
theorem dX9_readsRequest_81 : decode cX9_readsRequest 81 = .ok (.goto 10, 3) := by decide +kernel
theorem dX9_readsRequest_84 : decode cX9_readsRequest 84 = .ok (.aload_n 0, 1) := by decide +kernel
theorem dX9_readsRequest_85 : decode cX9_readsRequest 85 = .ok (.iconst 1, 1) := by decide +kernel
theorem dX9_readsRequest_86 : decode cX9_readsRequest 86 = .ok (.bipush 9, 2) := by decide +kernel
theorem dX9_readsRequest_88 : decode cX9_readsRequest 88 = .ok (.invokevirtual 186, 3) := by decide +kernel
theorem dX9_readsRequest_91 : decode cX9_readsRequest 91 = .ok (.iastore, 1) := by decide +kernel
theorem dX9_readsRequest_92 : decode cX9_readsRequest 92 = .ok (.aload_n 0, 1) := by decide +kernel
theorem dX9_readsRequest_93 : decode cX9_readsRequest 93 = .ok (.getfield 43, 3) := by decide +kernel
theorem dX9_readsRequest_96 : decode cX9_readsRequest 96 = .ok (.iload_n 1, 1) := by decide +kernel
theorem dX9_readsRequest_97 : decode cX9_readsRequest 97 = .ok (.iconst 3, 1) := by decide +kernel
theorem dX9_readsRequest_98 : decode cX9_readsRequest 98 = .ok (.iadd, 1) := by decide +kernel
theorem dX9_readsRequest_99 : decode cX9_readsRequest 99 = .ok (.aload_n 0, 1) := by decide +kernel
theorem dX9_readsRequest_100 : decode cX9_readsRequest 100 = .ok (.getfield 43, 3) := by decide +kernel
theorem dX9_readsRequest_103 : decode cX9_readsRequest 103 = .ok (.iload_n 1, 1) := by decide +kernel
theorem dX9_readsRequest_104 : decode cX9_readsRequest 104 = .ok (.iconst 2, 1) := by decide +kernel
theorem dX9_readsRequest_105 : decode cX9_readsRequest 105 = .ok (.iadd, 1) := by decide +kernel
theorem dX9_readsRequest_106 : decode cX9_readsRequest 106 = .ok (.iaload, 1) := by decide +kernel
theorem dX9_readsRequest_107 : decode cX9_readsRequest 107 = .ok (.ifCond .ge 7, 3) := by decide +kernel
theorem dX9_readsRequest_110 : decode cX9_readsRequest 110 = .ok (.iconst (-1), 1) := by decide +kernel
theorem dX9_readsRequest_111 : decode cX9_readsRequest 111 = .ok (.goto 8, 3) := by decide +kernel
theorem dX9_readsRequest_114 : decode cX9_readsRequest 114 = .ok (.aload_n 0, 1) := by decide +kernel
theorem dX9_readsRequest_115 : decode cX9_readsRequest 115 = .ok (.iconst 1, 1) := by decide +kernel
theorem dX9_readsRequest_116 : decode cX9_readsRequest 116 = .ok (.invokevirtual 219, 3) := by decide +kernel
theorem dX9_readsRequest_119 : decode cX9_readsRequest 119 = .ok (.iastore, 1) := by decide +kernel
theorem dX9_readsRequest_120 : decode cX9_readsRequest 120 = .ok (.aload_n 0, 1) := by decide +kernel
theorem dX9_readsRequest_121 : decode cX9_readsRequest 121 = .ok (.dup, 1) := by decide +kernel
theorem dX9_readsRequest_122 : decode cX9_readsRequest 122 = .ok (.getfield 183, 3) := by decide +kernel
theorem dX9_readsRequest_125 : decode cX9_readsRequest 125 = .ok (.iconst 1, 1) := by decide +kernel
theorem dX9_readsRequest_126 : decode cX9_readsRequest 126 = .ok (.iadd, 1) := by decide +kernel
theorem dX9_readsRequest_127 : decode cX9_readsRequest 127 = .ok (.putfield 183, 3) := by decide +kernel
theorem dX9_readsRequest_130 : decode cX9_readsRequest 130 = .ok (.aload_n 0, 1) := by decide +kernel
theorem dX9_readsRequest_131 : decode cX9_readsRequest 131 = .ok (.getfield 43, 3) := by decide +kernel
theorem dX9_readsRequest_134 : decode cX9_readsRequest 134 = .ok (.iload_n 1, 1) := by decide +kernel
theorem dX9_readsRequest_135 : decode cX9_readsRequest 135 = .ok (.iconst 3, 1) := by decide +kernel
theorem dX9_readsRequest_136 : decode cX9_readsRequest 136 = .ok (.iadd, 1) := by decide +kernel
theorem dX9_readsRequest_137 : decode cX9_readsRequest 137 = .ok (.iaload, 1) := by decide +kernel
theorem dX9_readsRequest_138 : decode cX9_readsRequest 138 = .ok (.ifCond .lt 7, 3) := by decide +kernel
theorem dX9_readsRequest_141 : decode cX9_readsRequest 141 = .ok (.iconst 1, 1) := by decide +kernel
theorem dX9_readsRequest_142 : decode cX9_readsRequest 142 = .ok (.goto 4, 3) := by decide +kernel
theorem dX9_readsRequest_145 : decode cX9_readsRequest 145 = .ok (.iconst 0, 1) := by decide +kernel
theorem dX9_readsRequest_146 : decode cX9_readsRequest 146 = .ok (.ireturn, 1) := by decide +kernel
theorem dX9_canServe_0 : decode cX9_canServe 0 = .ok (.iconst 1, 1) := by decide +kernel
theorem dX9_canServe_1 : decode cX9_canServe 1 = .ok (.istore_n 2, 1) := by decide +kernel
theorem dX9_canServe_2 : decode cX9_canServe 2 = .ok (.iconst 0, 1) := by decide +kernel
theorem dX9_canServe_3 : decode cX9_canServe 3 = .ok (.istore_n 3, 1) := by decide +kernel
theorem dX9_canServe_4 : decode cX9_canServe 4 = .ok (.iload_n 3, 1) := by decide +kernel
theorem dX9_canServe_5 : decode cX9_canServe 5 = .ok (.bipush 9, 2) := by decide +kernel
theorem dX9_canServe_7 : decode cX9_canServe 7 = .ok (.if_icmp .gt 111, 3) := by decide +kernel
theorem dX9_canServe_10 : decode cX9_canServe 10 = .ok (.iconst 0, 1) := by decide +kernel
theorem dX9_canServe_11 : decode cX9_canServe 11 = .ok (.istore 4, 2) := by decide +kernel
theorem dX9_canServe_13 : decode cX9_canServe 13 = .ok (.iconst 0, 1) := by decide +kernel
theorem dX9_canServe_14 : decode cX9_canServe 14 = .ok (.istore 5, 2) := by decide +kernel
theorem dX9_canServe_16 : decode cX9_canServe 16 = .ok (.iload 5, 2) := by decide +kernel
theorem dX9_canServe_18 : decode cX9_canServe 18 = .ok (.aload_n 0, 1) := by decide +kernel
theorem dX9_canServe_19 : decode cX9_canServe 19 = .ok (.getfield 183, 3) := by decide +kernel
theorem dX9_canServe_22 : decode cX9_canServe 22 = .ok (.if_icmp .ge 68, 3) := by decide +kernel
theorem dX9_canServe_25 : decode cX9_canServe 25 = .ok (.iload 4, 2) := by decide +kernel
theorem dX9_canServe_27 : decode cX9_canServe 27 = .ok (.iload_n 1, 1) := by decide +kernel
theorem dX9_canServe_28 : decode cX9_canServe 28 = .ok (.iload 5, 2) := by decide +kernel
theorem dX9_canServe_30 : decode cX9_canServe 30 = .ok (.invokestatic 127, 3) := by decide +kernel
theorem dX9_canServe_33 : decode cX9_canServe 33 = .ok (.ifCond .eq 47, 3) := by decide +kernel
theorem dX9_canServe_36 : decode cX9_canServe 36 = .ok (.iload_n 3, 1) := by decide +kernel
theorem dX9_canServe_37 : decode cX9_canServe 37 = .ok (.i2l, 1) := by decide +kernel
theorem dX9_canServe_38 : decode cX9_canServe 38 = .ok (.aload_n 0, 1) := by decide +kernel
theorem dX9_canServe_39 : decode cX9_canServe 39 = .ok (.getfield 43, 3) := by decide +kernel
theorem dX9_canServe_42 : decode cX9_canServe 42 = .ok (.iconst 4, 1) := by decide +kernel
theorem dX9_canServe_43 : decode cX9_canServe 43 = .ok (.iload 5, 2) := by decide +kernel
theorem dX9_canServe_45 : decode cX9_canServe 45 = .ok (.imul, 1) := by decide +kernel
theorem dX9_canServe_46 : decode cX9_canServe 46 = .ok (.iaload, 1) := by decide +kernel
theorem dX9_canServe_47 : decode cX9_canServe 47 = .ok (.i2l, 1) := by decide +kernel
theorem dX9_canServe_48 : decode cX9_canServe 48 = .ok (.aload_n 0, 1) := by decide +kernel
theorem dX9_canServe_49 : decode cX9_canServe 49 = .ok (.getfield 43, 3) := by decide +kernel
theorem dX9_canServe_52 : decode cX9_canServe 52 = .ok (.iconst 4, 1) := by decide +kernel
theorem dX9_canServe_53 : decode cX9_canServe 53 = .ok (.iload 5, 2) := by decide +kernel
theorem dX9_canServe_55 : decode cX9_canServe 55 = .ok (.imul, 1) := by decide +kernel
theorem dX9_canServe_56 : decode cX9_canServe 56 = .ok (.iconst 1, 1) := by decide +kernel
theorem dX9_canServe_57 : decode cX9_canServe 57 = .ok (.iadd, 1) := by decide +kernel
theorem dX9_canServe_58 : decode cX9_canServe 58 = .ok (.iaload, 1) := by decide +kernel
theorem dX9_canServe_59 : decode cX9_canServe 59 = .ok (.i2l, 1) := by decide +kernel
theorem dX9_canServe_60 : decode cX9_canServe 60 = .ok (.invokestatic 119, 3) := by decide +kernel
theorem dX9_canServe_63 : decode cX9_canServe 63 = .ok (.ifCond .eq 17, 3) := by decide +kernel
theorem dX9_canServe_66 : decode cX9_canServe 66 = .ok (.aload_n 0, 1) := by decide +kernel
theorem dX9_canServe_67 : decode cX9_canServe 67 = .ok (.getfield 43, 3) := by decide +kernel
theorem dX9_canServe_70 : decode cX9_canServe 70 = .ok (.iconst 4, 1) := by decide +kernel
theorem dX9_canServe_71 : decode cX9_canServe 71 = .ok (.iload 5, 2) := by decide +kernel
theorem dX9_canServe_73 : decode cX9_canServe 73 = .ok (.imul, 1) := by decide +kernel
theorem dX9_canServe_74 : decode cX9_canServe 74 = .ok (.iconst 2, 1) := by decide +kernel
theorem dX9_canServe_75 : decode cX9_canServe 75 = .ok (.iadd, 1) := by decide +kernel
theorem dX9_canServe_76 : decode cX9_canServe 76 = .ok (.iaload, 1) := by decide +kernel
theorem dX9_canServe_77 : decode cX9_canServe 77 = .ok (.goto 4, 3) := by decide +kernel
theorem dX9_canServe_80 : decode cX9_canServe 80 = .ok (.iconst 0, 1) := by decide +kernel
theorem dX9_canServe_81 : decode cX9_canServe 81 = .ok (.iadd, 1) := by decide +kernel
theorem dX9_canServe_82 : decode cX9_canServe 82 = .ok (.istore 4, 2) := by decide +kernel
theorem dX9_canServe_84 : decode cX9_canServe 84 = .ok (.iinc 5 1, 3) := by decide +kernel
theorem dX9_canServe_87 : decode cX9_canServe 87 = .ok (.goto (-71), 3) := by decide +kernel
theorem dX9_canServe_90 : decode cX9_canServe 90 = .ok (.iload_n 2, 1) := by decide +kernel
theorem dX9_canServe_91 : decode cX9_canServe 91 = .ok (.ifCond .eq 19, 3) := by decide +kernel
theorem dX9_canServe_94 : decode cX9_canServe 94 = .ok (.iload 4, 2) := by decide +kernel
theorem dX9_canServe_96 : decode cX9_canServe 96 = .ok (.aload_n 0, 1) := by decide +kernel
theorem dX9_canServe_97 : decode cX9_canServe 97 = .ok (.getfield 34, 3) := by decide +kernel
theorem dX9_canServe_100 : decode cX9_canServe 100 = .ok (.bipush 33, 2) := by decide +kernel
theorem dX9_canServe_102 : decode cX9_canServe 102 = .ok (.iaload, 1) := by decide +kernel
theorem dX9_canServe_103 : decode cX9_canServe 103 = .ok (.if_icmp .gt 7, 3) := by decide +kernel
theorem dX9_canServe_106 : decode cX9_canServe 106 = .ok (.iconst 1, 1) := by decide +kernel
theorem dX9_canServe_107 : decode cX9_canServe 107 = .ok (.goto 4, 3) := by decide +kernel
theorem dX9_canServe_110 : decode cX9_canServe 110 = .ok (.iconst 0, 1) := by decide +kernel
theorem dX9_canServe_111 : decode cX9_canServe 111 = .ok (.istore_n 2, 1) := by decide +kernel
theorem dX9_canServe_112 : decode cX9_canServe 112 = .ok (.iinc 3 1, 3) := by decide +kernel
theorem dX9_canServe_115 : decode cX9_canServe 115 = .ok (.goto (-111), 3) := by decide +kernel
theorem dX9_canServe_118 : decode cX9_canServe 118 = .ok (.iload_n 2, 1) := by decide +kernel
theorem dX9_canServe_119 : decode cX9_canServe 119 = .ok (.ireturn, 1) := by decide +kernel
theorem dX9_priceOf_0 : decode cX9_priceOf 0 = .ok (.iconst 0, 1) := by decide +kernel
theorem dX9_priceOf_1 : decode cX9_priceOf 1 = .ok (.istore_n 2, 1) := by decide +kernel
theorem dX9_priceOf_2 : decode cX9_priceOf 2 = .ok (.iconst 0, 1) := by decide +kernel
theorem dX9_priceOf_3 : decode cX9_priceOf 3 = .ok (.istore_n 3, 1) := by decide +kernel
theorem dX9_priceOf_4 : decode cX9_priceOf 4 = .ok (.iload_n 3, 1) := by decide +kernel
theorem dX9_priceOf_5 : decode cX9_priceOf 5 = .ok (.aload_n 0, 1) := by decide +kernel
theorem dX9_priceOf_6 : decode cX9_priceOf 6 = .ok (.getfield 183, 3) := by decide +kernel
theorem dX9_priceOf_9 : decode cX9_priceOf 9 = .ok (.if_icmp .ge 34, 3) := by decide +kernel
theorem dX9_priceOf_12 : decode cX9_priceOf 12 = .ok (.iload_n 2, 1) := by decide +kernel
theorem dX9_priceOf_13 : decode cX9_priceOf 13 = .ok (.iload_n 1, 1) := by decide +kernel
theorem dX9_priceOf_14 : decode cX9_priceOf 14 = .ok (.iload_n 3, 1) := by decide +kernel
theorem dX9_priceOf_15 : decode cX9_priceOf 15 = .ok (.invokestatic 127, 3) := by decide +kernel
theorem dX9_priceOf_18 : decode cX9_priceOf 18 = .ok (.ifCond .eq 16, 3) := by decide +kernel
theorem dX9_priceOf_21 : decode cX9_priceOf 21 = .ok (.aload_n 0, 1) := by decide +kernel
theorem dX9_priceOf_22 : decode cX9_priceOf 22 = .ok (.getfield 43, 3) := by decide +kernel
theorem dX9_priceOf_25 : decode cX9_priceOf 25 = .ok (.iconst 4, 1) := by decide +kernel
theorem dX9_priceOf_26 : decode cX9_priceOf 26 = .ok (.iload_n 3, 1) := by decide +kernel
theorem dX9_priceOf_27 : decode cX9_priceOf 27 = .ok (.imul, 1) := by decide +kernel
theorem dX9_priceOf_28 : decode cX9_priceOf 28 = .ok (.iconst 3, 1) := by decide +kernel
theorem dX9_priceOf_29 : decode cX9_priceOf 29 = .ok (.iadd, 1) := by decide +kernel
theorem dX9_priceOf_30 : decode cX9_priceOf 30 = .ok (.iaload, 1) := by decide +kernel
theorem dX9_priceOf_31 : decode cX9_priceOf 31 = .ok (.goto 4, 3) := by decide +kernel
theorem dX9_priceOf_34 : decode cX9_priceOf 34 = .ok (.iconst 0, 1) := by decide +kernel
theorem dX9_priceOf_35 : decode cX9_priceOf 35 = .ok (.iadd, 1) := by decide +kernel
theorem dX9_priceOf_36 : decode cX9_priceOf 36 = .ok (.istore_n 2, 1) := by decide +kernel
theorem dX9_priceOf_37 : decode cX9_priceOf 37 = .ok (.iinc 3 1, 3) := by decide +kernel
theorem dX9_priceOf_40 : decode cX9_priceOf 40 = .ok (.goto (-36), 3) := by decide +kernel
theorem dX9_priceOf_43 : decode cX9_priceOf 43 = .ok (.iload_n 2, 1) := by decide +kernel
theorem dX9_priceOf_44 : decode cX9_priceOf 44 = .ok (.ireturn, 1) := by decide +kernel
theorem dX9_serves_0 : decode cX9_serves 0 = .ok (.aload_n 0, 1) := by decide +kernel
theorem dX9_serves_1 : decode cX9_serves 1 = .ok (.iconst 0, 1) := by decide +kernel
theorem dX9_serves_2 : decode cX9_serves 2 = .ok (.putfield 3, 3) := by decide +kernel
theorem dX9_serves_5 : decode cX9_serves 5 = .ok (.aload_n 0, 1) := by decide +kernel
theorem dX9_serves_6 : decode cX9_serves 6 = .ok (.bipush 80, 2) := by decide +kernel
theorem dX9_serves_8 : decode cX9_serves 8 = .ok (.invokevirtual 180, 3) := by decide +kernel
theorem dX9_serves_11 : decode cX9_serves 11 = .ok (.pop, 1) := by decide +kernel
theorem dX9_serves_12 : decode cX9_serves 12 = .ok (.aload_n 0, 1) := by decide +kernel
theorem dX9_serves_13 : decode cX9_serves 13 = .ok (.iconst 0, 1) := by decide +kernel
theorem dX9_serves_14 : decode cX9_serves 14 = .ok (.putfield 183, 3) := by decide +kernel
theorem dX9_serves_17 : decode cX9_serves 17 = .ok (.iconst 1, 1) := by decide +kernel
theorem dX9_serves_18 : decode cX9_serves 18 = .ok (.istore_n 1, 1) := by decide +kernel
theorem dX9_serves_19 : decode cX9_serves 19 = .ok (.iconst 1, 1) := by decide +kernel
theorem dX9_serves_20 : decode cX9_serves 20 = .ok (.istore_n 2, 1) := by decide +kernel
theorem dX9_serves_21 : decode cX9_serves 21 = .ok (.iload_n 2, 1) := by decide +kernel
theorem dX9_serves_22 : decode cX9_serves 22 = .ok (.ifCond .eq 30, 3) := by decide +kernel
theorem dX9_serves_25 : decode cX9_serves 25 = .ok (.aload_n 0, 1) := by decide +kernel
theorem dX9_serves_26 : decode cX9_serves 26 = .ok (.invokevirtual 370, 3) := by decide +kernel
theorem dX9_serves_29 : decode cX9_serves 29 = .ok (.istore_n 1, 1) := by decide +kernel
theorem dX9_serves_30 : decode cX9_serves 30 = .ok (.iload_n 1, 1) := by decide +kernel
theorem dX9_serves_31 : decode cX9_serves 31 = .ok (.ifCond .eq 16, 3) := by decide +kernel
theorem dX9_serves_34 : decode cX9_serves 34 = .ok (.aload_n 0, 1) := by decide +kernel
theorem dX9_serves_35 : decode cX9_serves 35 = .ok (.bipush 59, 2) := by decide +kernel
theorem dX9_serves_37 : decode cX9_serves 37 = .ok (.invokevirtual 189, 3) := by decide +kernel
theorem dX9_serves_40 : decode cX9_serves 40 = .ok (.ifCond .eq 7, 3) := by decide +kernel
theorem dX9_serves_43 : decode cX9_serves 43 = .ok (.iconst 1, 1) := by decide +kernel
theorem dX9_serves_44 : decode cX9_serves 44 = .ok (.goto 4, 3) := by decide +kernel
theorem dX9_serves_47 : decode cX9_serves 47 = .ok (.iconst 0, 1) := by decide +kernel
theorem dX9_serves_48 : decode cX9_serves 48 = .ok (.istore_n 2, 1) := by decide +kernel
theorem dX9_serves_49 : decode cX9_serves 49 = .ok (.goto (-28), 3) := by decide +kernel
theorem dX9_serves_52 : decode cX9_serves 52 = .ok (.iload_n 1, 1) := by decide +kernel
theorem dX9_serves_53 : decode cX9_serves 53 = .ok (.ifCond .eq 14, 3) := by decide +kernel
theorem dX9_serves_56 : decode cX9_serves 56 = .ok (.aload_n 0, 1) := by decide +kernel
theorem dX9_serves_57 : decode cX9_serves 57 = .ok (.getfield 144, 3) := by decide +kernel
theorem dX9_serves_60 : decode cX9_serves 60 = .ok (.aload_n 0, 1) := by decide +kernel
theorem dX9_serves_61 : decode cX9_serves 61 = .ok (.getfield 156, 3) := by decide +kernel
theorem dX9_serves_64 : decode cX9_serves 64 = .ok (.if_icmp .ge 10, 3) := by decide +kernel
theorem dX9_serves_67 : decode cX9_serves 67 = .ok (.iconst (-1), 1) := by decide +kernel
theorem dX9_serves_68 : decode cX9_serves 68 = .ok (.aload_n 0, 1) := by decide +kernel
theorem dX9_serves_69 : decode cX9_serves 69 = .ok (.getfield 144, 3) := by decide +kernel
theorem dX9_serves_72 : decode cX9_serves 72 = .ok (.isub, 1) := by decide +kernel
theorem dX9_serves_73 : decode cX9_serves 73 = .ok (.ireturn, 1) := by decide +kernel
theorem dX9_serves_74 : decode cX9_serves 74 = .ok (.iconst 0, 1) := by decide +kernel
theorem dX9_serves_75 : decode cX9_serves 75 = .ok (.istore_n 3, 1) := by decide +kernel
theorem dX9_serves_76 : decode cX9_serves 76 = .ok (.iconst 1, 1) := by decide +kernel
theorem dX9_serves_77 : decode cX9_serves 77 = .ok (.istore 4, 2) := by decide +kernel
theorem dX9_serves_79 : decode cX9_serves 79 = .ok (.iload 4, 2) := by decide +kernel
theorem dX9_serves_81 : decode cX9_serves 81 = .ok (.iconst 1, 1) := by decide +kernel
theorem dX9_serves_82 : decode cX9_serves 82 = .ok (.aload_n 0, 1) := by decide +kernel
theorem dX9_serves_83 : decode cX9_serves 83 = .ok (.getfield 183, 3) := by decide +kernel
theorem dX9_serves_86 : decode cX9_serves 86 = .ok (.ishl, 1) := by decide +kernel
theorem dX9_serves_87 : decode cX9_serves 87 = .ok (.if_icmp .ge 73, 3) := by decide +kernel
theorem dX9_serves_90 : decode cX9_serves 90 = .ok (.aload_n 0, 1) := by decide +kernel
theorem dX9_serves_91 : decode cX9_serves 91 = .ok (.iload 4, 2) := by decide +kernel
theorem dX9_serves_93 : decode cX9_serves 93 = .ok (.invokevirtual 373, 3) := by decide +kernel
theorem dX9_serves_96 : decode cX9_serves 96 = .ok (.aload_n 0, 1) := by decide +kernel
theorem dX9_serves_97 : decode cX9_serves 97 = .ok (.iload_n 3, 1) := by decide +kernel
theorem dX9_serves_98 : decode cX9_serves 98 = .ok (.invokevirtual 373, 3) := by decide +kernel
theorem dX9_serves_101 : decode cX9_serves 101 = .ok (.isub, 1) := by decide +kernel
theorem dX9_serves_102 : decode cX9_serves 102 = .ok (.istore 5, 2) := by decide +kernel
theorem dX9_serves_104 : decode cX9_serves 104 = .ok (.iload 5, 2) := by decide +kernel
theorem dX9_serves_106 : decode cX9_serves 106 = .ok (.ifCond .gt 20, 3) := by decide +kernel
theorem dX9_serves_109 : decode cX9_serves 109 = .ok (.iload 5, 2) := by decide +kernel
theorem dX9_serves_111 : decode cX9_serves 111 = .ok (.ifCond .ne 19, 3) := by decide +kernel
theorem dX9_serves_114 : decode cX9_serves 114 = .ok (.iload 4, 2) := by decide +kernel
theorem dX9_serves_116 : decode cX9_serves 116 = .ok (.invokestatic 135, 3) := by decide +kernel
theorem dX9_serves_119 : decode cX9_serves 119 = .ok (.iload_n 3, 1) := by decide +kernel
theorem dX9_serves_120 : decode cX9_serves 120 = .ok (.invokestatic 135, 3) := by decide +kernel
theorem dX9_serves_123 : decode cX9_serves 123 = .ok (.if_icmp .ge 7, 3) := by decide +kernel
theorem dX9_serves_126 : decode cX9_serves 126 = .ok (.iconst 1, 1) := by decide +kernel
theorem dX9_serves_127 : decode cX9_serves 127 = .ok (.goto 4, 3) := by decide +kernel
theorem dX9_serves_130 : decode cX9_serves 130 = .ok (.iconst 0, 1) := by decide +kernel
theorem dX9_serves_131 : decode cX9_serves 131 = .ok (.istore 6, 2) := by decide +kernel
theorem dX9_serves_133 : decode cX9_serves 133 = .ok (.iload 6, 2) := by decide +kernel
theorem dX9_serves_135 : decode cX9_serves 135 = .ok (.ifCond .eq 17, 3) := by decide +kernel
theorem dX9_serves_138 : decode cX9_serves 138 = .ok (.aload_n 0, 1) := by decide +kernel
theorem dX9_serves_139 : decode cX9_serves 139 = .ok (.iload 4, 2) := by decide +kernel
theorem dX9_serves_141 : decode cX9_serves 141 = .ok (.invokevirtual 376, 3) := by decide +kernel
theorem dX9_serves_144 : decode cX9_serves 144 = .ok (.ifCond .eq 8, 3) := by decide +kernel
theorem dX9_serves_147 : decode cX9_serves 147 = .ok (.iload 4, 2) := by decide +kernel
theorem dX9_serves_149 : decode cX9_serves 149 = .ok (.goto 4, 3) := by decide +kernel
theorem dX9_serves_152 : decode cX9_serves 152 = .ok (.iload_n 3, 1) := by decide +kernel
theorem dX9_serves_153 : decode cX9_serves 153 = .ok (.istore_n 3, 1) := by decide +kernel
theorem dX9_serves_154 : decode cX9_serves 154 = .ok (.iinc 4 1, 3) := by decide +kernel
theorem dX9_serves_157 : decode cX9_serves 157 = .ok (.goto (-78), 3) := by decide +kernel
theorem dX9_serves_160 : decode cX9_serves 160 = .ok (.aload_n 0, 1) := by decide +kernel
theorem dX9_serves_161 : decode cX9_serves 161 = .ok (.iconst 0, 1) := by decide +kernel
theorem dX9_serves_162 : decode cX9_serves 162 = .ok (.putfield 15, 3) := by decide +kernel
theorem dX9_serves_165 : decode cX9_serves 165 = .ok (.aload_n 0, 1) := by decide +kernel
theorem dX9_serves_166 : decode cX9_serves 166 = .ok (.iload_n 3, 1) := by decide +kernel
theorem dX9_serves_167 : decode cX9_serves 167 = .ok (.i2l, 1) := by decide +kernel
theorem dX9_serves_168 : decode cX9_serves 168 = .ok (.invokevirtual 327, 3) := by decide +kernel
theorem dX9_serves_171 : decode cX9_serves 171 = .ok (.aload_n 0, 1) := by decide +kernel
theorem dX9_serves_172 : decode cX9_serves 172 = .ok (.iload_n 3, 1) := by decide +kernel
theorem dX9_serves_173 : decode cX9_serves 173 = .ok (.invokevirtual 373, 3) := by decide +kernel
theorem dX9_serves_176 : decode cX9_serves 176 = .ok (.ireturn, 1) := by decide +kernel
theorem dX9_owes_0 : decode cX9_owes 0 = .ok (.aload_n 0, 1) := by decide +kernel
theorem dX9_owes_1 : decode cX9_owes 1 = .ok (.iconst 0, 1) := by decide +kernel
theorem dX9_owes_2 : decode cX9_owes 2 = .ok (.putfield 3, 3) := by decide +kernel
theorem dX9_owes_5 : decode cX9_owes 5 = .ok (.iload_n 1, 1) := by decide +kernel
theorem dX9_owes_6 : decode cX9_owes 6 = .ok (.i2l, 1) := by decide +kernel
theorem dX9_owes_7 : decode cX9_owes 7 = .ok (.lconst 0, 1) := by decide +kernel
theorem dX9_owes_8 : decode cX9_owes 8 = .ok (.ldc2_w 346, 3) := by decide +kernel
theorem dX9_owes_11 : decode cX9_owes 11 = .ok (.invokestatic 119, 3) := by decide +kernel
theorem dX9_owes_14 : decode cX9_owes 14 = .ok (.ifCond .ne 5, 3) := by decide +kernel
theorem dX9_owes_17 : decode cX9_owes 17 = .ok (.iconst (-1), 1) := by decide +kernel
theorem dX9_owes_18 : decode cX9_owes 18 = .ok (.ireturn, 1) := by decide +kernel
theorem dX9_owes_19 : decode cX9_owes 19 = .ok (.aload_n 0, 1) := by decide +kernel
theorem dX9_owes_20 : decode cX9_owes 20 = .ok (.getfield 116, 3) := by decide +kernel
theorem dX9_owes_23 : decode cX9_owes 23 = .ok (.ifCond .ne 6, 3) := by decide +kernel
theorem dX9_owes_26 : decode cX9_owes 26 = .ok (.bipush (-2), 2) := by decide +kernel
theorem dX9_owes_28 : decode cX9_owes 28 = .ok (.ireturn, 1) := by decide +kernel
theorem dX9_owes_29 : decode cX9_owes 29 = .ok (.aload_n 0, 1) := by decide +kernel
theorem dX9_owes_30 : decode cX9_owes 30 = .ok (.invokevirtual 362, 3) := by decide +kernel
theorem dX9_owes_33 : decode cX9_owes 33 = .ok (.aload_n 0, 1) := by decide +kernel
theorem dX9_owes_34 : decode cX9_owes 34 = .ok (.aload_n 0, 1) := by decide +kernel
theorem dX9_owes_35 : decode cX9_owes 35 = .ok (.getfield 37, 3) := by decide +kernel
theorem dX9_owes_38 : decode cX9_owes 38 = .ok (.iload_n 1, 1) := by decide +kernel
theorem dX9_owes_39 : decode cX9_owes 39 = .ok (.invokevirtual 324, 3) := by decide +kernel
theorem dX9_owes_42 : decode cX9_owes 42 = .ok (.iconst 0, 1) := by decide +kernel
theorem dX9_owes_43 : decode cX9_owes 43 = .ok (.istore_n 2, 1) := by decide +kernel
theorem dX9_owes_44 : decode cX9_owes 44 = .ok (.iconst 1, 1) := by decide +kernel
theorem dX9_owes_45 : decode cX9_owes 45 = .ok (.istore_n 3, 1) := by decide +kernel
theorem dX9_owes_46 : decode cX9_owes 46 = .ok (.iload_n 3, 1) := by decide +kernel
theorem dX9_owes_47 : decode cX9_owes 47 = .ok (.aload_n 0, 1) := by decide +kernel
theorem dX9_owes_48 : decode cX9_owes 48 = .ok (.getfield 116, 3) := by decide +kernel
theorem dX9_owes_51 : decode cX9_owes 51 = .ok (.if_icmp .ge 36, 3) := by decide +kernel
theorem dX9_owes_54 : decode cX9_owes 54 = .ok (.aload_n 0, 1) := by decide +kernel
theorem dX9_owes_55 : decode cX9_owes 55 = .ok (.getfield 37, 3) := by decide +kernel
theorem dX9_owes_58 : decode cX9_owes 58 = .ok (.bipush 16, 2) := by decide +kernel
theorem dX9_owes_60 : decode cX9_owes 60 = .ok (.iload_n 3, 1) := by decide +kernel
theorem dX9_owes_61 : decode cX9_owes 61 = .ok (.iadd, 1) := by decide +kernel
theorem dX9_owes_62 : decode cX9_owes 62 = .ok (.iaload, 1) := by decide +kernel
theorem dX9_owes_63 : decode cX9_owes 63 = .ok (.aload_n 0, 1) := by decide +kernel
theorem dX9_owes_64 : decode cX9_owes 64 = .ok (.getfield 37, 3) := by decide +kernel
theorem dX9_owes_67 : decode cX9_owes 67 = .ok (.bipush 16, 2) := by decide +kernel
theorem dX9_owes_69 : decode cX9_owes 69 = .ok (.iload_n 2, 1) := by decide +kernel
theorem dX9_owes_70 : decode cX9_owes 70 = .ok (.iadd, 1) := by decide +kernel
theorem dX9_owes_71 : decode cX9_owes 71 = .ok (.iaload, 1) := by decide +kernel
theorem dX9_owes_72 : decode cX9_owes 72 = .ok (.if_icmp .le 7, 3) := by decide +kernel
theorem dX9_owes_75 : decode cX9_owes 75 = .ok (.iload_n 3, 1) := by decide +kernel
theorem dX9_owes_76 : decode cX9_owes 76 = .ok (.goto 4, 3) := by decide +kernel
theorem dX9_owes_79 : decode cX9_owes 79 = .ok (.iload_n 2, 1) := by decide +kernel
theorem dX9_owes_80 : decode cX9_owes 80 = .ok (.istore_n 2, 1) := by decide +kernel
theorem dX9_owes_81 : decode cX9_owes 81 = .ok (.iinc 3 1, 3) := by decide +kernel
theorem dX9_owes_84 : decode cX9_owes 84 = .ok (.goto (-38), 3) := by decide +kernel
theorem dX9_owes_87 : decode cX9_owes 87 = .ok (.aload_n 0, 1) := by decide +kernel
theorem dX9_owes_88 : decode cX9_owes 88 = .ok (.iconst 0, 1) := by decide +kernel
theorem dX9_owes_89 : decode cX9_owes 89 = .ok (.putfield 15, 3) := by decide +kernel
theorem dX9_owes_92 : decode cX9_owes 92 = .ok (.aload_n 0, 1) := by decide +kernel
theorem dX9_owes_93 : decode cX9_owes 93 = .ok (.aload_n 0, 1) := by decide +kernel
theorem dX9_owes_94 : decode cX9_owes 94 = .ok (.getfield 37, 3) := by decide +kernel
theorem dX9_owes_97 : decode cX9_owes 97 = .ok (.bipush 16, 2) := by decide +kernel
theorem dX9_owes_99 : decode cX9_owes 99 = .ok (.iload_n 2, 1) := by decide +kernel
theorem dX9_owes_100 : decode cX9_owes 100 = .ok (.iadd, 1) := by decide +kernel
theorem dX9_owes_101 : decode cX9_owes 101 = .ok (.iaload, 1) := by decide +kernel
theorem dX9_owes_102 : decode cX9_owes 102 = .ok (.i2l, 1) := by decide +kernel
theorem dX9_owes_103 : decode cX9_owes 103 = .ok (.invokevirtual 327, 3) := by decide +kernel
theorem dX9_owes_106 : decode cX9_owes 106 = .ok (.aload_n 0, 1) := by decide +kernel
theorem dX9_owes_107 : decode cX9_owes 107 = .ok (.aload_n 0, 1) := by decide +kernel
theorem dX9_owes_108 : decode cX9_owes 108 = .ok (.aload_n 0, 1) := by decide +kernel
theorem dX9_owes_109 : decode cX9_owes 109 = .ok (.getfield 37, 3) := by decide +kernel
theorem dX9_owes_112 : decode cX9_owes 112 = .ok (.bipush 16, 2) := by decide +kernel
theorem dX9_owes_114 : decode cX9_owes 114 = .ok (.aload_n 0, 1) := by decide +kernel
theorem dX9_owes_115 : decode cX9_owes 115 = .ok (.invokevirtual 131, 3) := by decide +kernel
theorem dX9_owes_118 : decode cX9_owes 118 = .ok (.invokevirtual 274, 3) := by decide +kernel
theorem dX9_owes_121 : decode cX9_owes 121 = .ok (.i2l, 1) := by decide +kernel
theorem dX9_owes_122 : decode cX9_owes 122 = .ok (.invokevirtual 327, 3) := by decide +kernel
theorem dX9_owes_125 : decode cX9_owes 125 = .ok (.iload_n 2, 1) := by decide +kernel
theorem dX9_owes_126 : decode cX9_owes 126 = .ok (.ireturn, 1) := by decide +kernel
theorem dX9_seen_0 : decode cX9_seen 0 = .ok (.aload_n 0, 1) := by decide +kernel
theorem dX9_seen_1 : decode cX9_seen 1 = .ok (.iconst 0, 1) := by decide +kernel
theorem dX9_seen_2 : decode cX9_seen 2 = .ok (.putfield 3, 3) := by decide +kernel
theorem dX9_seen_5 : decode cX9_seen 5 = .ok (.aload_n 0, 1) := by decide +kernel
theorem dX9_seen_6 : decode cX9_seen 6 = .ok (.iload_n 1, 1) := by decide +kernel
theorem dX9_seen_7 : decode cX9_seen 7 = .ok (.invokevirtual 123, 3) := by decide +kernel
theorem dX9_seen_10 : decode cX9_seen 10 = .ok (.ifCond .eq 34, 3) := by decide +kernel
theorem dX9_seen_13 : decode cX9_seen 13 = .ok (.iload_n 2, 1) := by decide +kernel
theorem dX9_seen_14 : decode cX9_seen 14 = .ok (.i2l, 1) := by decide +kernel
theorem dX9_seen_15 : decode cX9_seen 15 = .ok (.lconst 0, 1) := by decide +kernel
theorem dX9_seen_16 : decode cX9_seen 16 = .ok (.ldc2_w 379, 3) := by decide +kernel
theorem dX9_seen_19 : decode cX9_seen 19 = .ok (.invokestatic 119, 3) := by decide +kernel
theorem dX9_seen_22 : decode cX9_seen 22 = .ok (.ifCond .eq 22, 3) := by decide +kernel
theorem dX9_seen_25 : decode cX9_seen 25 = .ok (.iload_n 3, 1) := by decide +kernel
theorem dX9_seen_26 : decode cX9_seen 26 = .ok (.i2l, 1) := by decide +kernel
theorem dX9_seen_27 : decode cX9_seen 27 = .ok (.lconst 0, 1) := by decide +kernel
theorem dX9_seen_28 : decode cX9_seen 28 = .ok (.lconst 1, 1) := by decide +kernel
theorem dX9_seen_29 : decode cX9_seen 29 = .ok (.invokestatic 119, 3) := by decide +kernel
theorem dX9_seen_32 : decode cX9_seen 32 = .ok (.ifCond .eq 12, 3) := by decide +kernel
theorem dX9_seen_35 : decode cX9_seen 35 = .ok (.aload_n 0, 1) := by decide +kernel
theorem dX9_seen_36 : decode cX9_seen 36 = .ok (.getfield 381, 3) := by decide +kernel
theorem dX9_seen_39 : decode cX9_seen 39 = .ok (.bipush 10, 2) := by decide +kernel
theorem dX9_seen_41 : decode cX9_seen 41 = .ok (.if_icmp .ne 5, 3) := by decide +kernel
theorem dX9_seen_44 : decode cX9_seen 44 = .ok (.iconst (-1), 1) := by decide +kernel
theorem dX9_seen_45 : decode cX9_seen 45 = .ok (.ireturn, 1) := by decide +kernel
theorem dX9_seen_46 : decode cX9_seen 46 = .ok (.aload_n 0, 1) := by decide +kernel
theorem dX9_seen_47 : decode cX9_seen 47 = .ok (.getfield 82, 3) := by decide +kernel
theorem dX9_seen_50 : decode cX9_seen 50 = .ok (.aload_n 0, 1) := by decide +kernel
theorem dX9_seen_51 : decode cX9_seen 51 = .ok (.getfield 381, 3) := by decide +kernel
theorem dX9_seen_54 : decode cX9_seen 54 = .ok (.iload_n 1, 1) := by decide +kernel
theorem dX9_seen_55 : decode cX9_seen 55 = .ok (.iastore, 1) := by decide +kernel
theorem dX9_seen_56 : decode cX9_seen 56 = .ok (.aload_n 0, 1) := by decide +kernel
theorem dX9_seen_57 : decode cX9_seen 57 = .ok (.getfield 85, 3) := by decide +kernel
theorem dX9_seen_60 : decode cX9_seen 60 = .ok (.aload_n 0, 1) := by decide +kernel
theorem dX9_seen_61 : decode cX9_seen 61 = .ok (.getfield 381, 3) := by decide +kernel
theorem dX9_seen_64 : decode cX9_seen 64 = .ok (.iload_n 2, 1) := by decide +kernel
theorem dX9_seen_65 : decode cX9_seen 65 = .ok (.iastore, 1) := by decide +kernel
theorem dX9_seen_66 : decode cX9_seen 66 = .ok (.aload_n 0, 1) := by decide +kernel
theorem dX9_seen_67 : decode cX9_seen 67 = .ok (.getfield 88, 3) := by decide +kernel
theorem dX9_seen_70 : decode cX9_seen 70 = .ok (.aload_n 0, 1) := by decide +kernel
theorem dX9_seen_71 : decode cX9_seen 71 = .ok (.getfield 381, 3) := by decide +kernel
theorem dX9_seen_74 : decode cX9_seen 74 = .ok (.iload_n 3, 1) := by decide +kernel
theorem dX9_seen_75 : decode cX9_seen 75 = .ok (.iastore, 1) := by decide +kernel
theorem dX9_seen_76 : decode cX9_seen 76 = .ok (.aload_n 0, 1) := by decide +kernel
theorem dX9_seen_77 : decode cX9_seen 77 = .ok (.dup, 1) := by decide +kernel
theorem dX9_seen_78 : decode cX9_seen 78 = .ok (.getfield 381, 3) := by decide +kernel
theorem dX9_seen_81 : decode cX9_seen 81 = .ok (.iconst 1, 1) := by decide +kernel
theorem dX9_seen_82 : decode cX9_seen 82 = .ok (.iadd, 1) := by decide +kernel
theorem dX9_seen_83 : decode cX9_seen 83 = .ok (.putfield 381, 3) := by decide +kernel
theorem dX9_seen_86 : decode cX9_seen 86 = .ok (.aload_n 0, 1) := by decide +kernel
theorem dX9_seen_87 : decode cX9_seen 87 = .ok (.getfield 381, 3) := by decide +kernel
theorem dX9_seen_90 : decode cX9_seen 90 = .ok (.ireturn, 1) := by decide +kernel
theorem dX9_forget_0 : decode cX9_forget 0 = .ok (.aload_n 0, 1) := by decide +kernel
theorem dX9_forget_1 : decode cX9_forget 1 = .ok (.iconst 0, 1) := by decide +kernel
theorem dX9_forget_2 : decode cX9_forget 2 = .ok (.putfield 3, 3) := by decide +kernel
theorem dX9_forget_5 : decode cX9_forget 5 = .ok (.aload_n 0, 1) := by decide +kernel
theorem dX9_forget_6 : decode cX9_forget 6 = .ok (.getfield 381, 3) := by decide +kernel
theorem dX9_forget_9 : decode cX9_forget 9 = .ok (.istore_n 1, 1) := by decide +kernel
theorem dX9_forget_10 : decode cX9_forget 10 = .ok (.aload_n 0, 1) := by decide +kernel
theorem dX9_forget_11 : decode cX9_forget 11 = .ok (.iconst 0, 1) := by decide +kernel
theorem dX9_forget_12 : decode cX9_forget 12 = .ok (.putfield 381, 3) := by decide +kernel
theorem dX9_forget_15 : decode cX9_forget 15 = .ok (.iload_n 1, 1) := by decide +kernel
theorem dX9_forget_16 : decode cX9_forget 16 = .ok (.ireturn, 1) := by decide +kernel
theorem dX9_place_0 : decode cX9_place 0 = .ok (.bipush 21, 2) := by decide +kernel
theorem dX9_place_2 : decode cX9_place 2 = .ok (.iload_n 0, 1) := by decide +kernel
theorem dX9_place_3 : decode cX9_place 3 = .ok (.imul, 1) := by decide +kernel
theorem dX9_place_4 : decode cX9_place 4 = .ok (.iload_n 1, 1) := by decide +kernel
theorem dX9_place_5 : decode cX9_place 5 = .ok (.iadd, 1) := by decide +kernel
theorem dX9_place_6 : decode cX9_place 6 = .ok (.ireturn, 1) := by decide +kernel
theorem dX9_isAsSeen_0 : decode cX9_isAsSeen 0 = .ok (.aload_n 0, 1) := by decide +kernel
theorem dX9_isAsSeen_1 : decode cX9_isAsSeen 1 = .ok (.invokevirtual 362, 3) := by decide +kernel
theorem dX9_isAsSeen_4 : decode cX9_isAsSeen 4 = .ok (.iload_n 1, 1) := by decide +kernel
theorem dX9_isAsSeen_5 : decode cX9_isAsSeen 5 = .ok (.bipush 8, 2) := by decide +kernel
theorem dX9_isAsSeen_7 : decode cX9_isAsSeen 7 = .ok (.if_icmp .ge 13, 3) := by decide +kernel
theorem dX9_isAsSeen_10 : decode cX9_isAsSeen 10 = .ok (.aload_n 0, 1) := by decide +kernel
theorem dX9_isAsSeen_11 : decode cX9_isAsSeen 11 = .ok (.getfield 37, 3) := by decide +kernel
theorem dX9_isAsSeen_14 : decode cX9_isAsSeen 14 = .ok (.iload_n 1, 1) := by decide +kernel
theorem dX9_isAsSeen_15 : decode cX9_isAsSeen 15 = .ok (.dup2, 1) := by decide +kernel
theorem dX9_isAsSeen_16 : decode cX9_isAsSeen 16 = .ok (.iaload, 1) := by decide +kernel
theorem dX9_isAsSeen_17 : decode cX9_isAsSeen 17 = .ok (.iconst 1, 1) := by decide +kernel
theorem dX9_isAsSeen_18 : decode cX9_isAsSeen 18 = .ok (.iadd, 1) := by decide +kernel
theorem dX9_isAsSeen_19 : decode cX9_isAsSeen 19 = .ok (.iastore, 1) := by decide +kernel
theorem dX9_isAsSeen_20 : decode cX9_isAsSeen 20 = .ok (.iconst 0, 1) := by decide +kernel
theorem dX9_isAsSeen_21 : decode cX9_isAsSeen 21 = .ok (.istore_n 2, 1) := by decide +kernel
theorem dX9_isAsSeen_22 : decode cX9_isAsSeen 22 = .ok (.iload_n 2, 1) := by decide +kernel
theorem dX9_isAsSeen_23 : decode cX9_isAsSeen 23 = .ok (.bipush 20, 2) := by decide +kernel
theorem dX9_isAsSeen_25 : decode cX9_isAsSeen 25 = .ok (.if_icmp .gt 35, 3) := by decide +kernel
theorem dX9_isAsSeen_28 : decode cX9_isAsSeen 28 = .ok (.aload_n 0, 1) := by decide +kernel
theorem dX9_isAsSeen_29 : decode cX9_isAsSeen 29 = .ok (.getfield 91, 3) := by decide +kernel
theorem dX9_isAsSeen_32 : decode cX9_isAsSeen 32 = .ok (.iload_n 1, 1) := by decide +kernel
theorem dX9_isAsSeen_33 : decode cX9_isAsSeen 33 = .ok (.iload_n 2, 1) := by decide +kernel
theorem dX9_isAsSeen_34 : decode cX9_isAsSeen 34 = .ok (.invokestatic 384, 3) := by decide +kernel
theorem dX9_isAsSeen_37 : decode cX9_isAsSeen 37 = .ok (.aload_n 0, 1) := by decide +kernel
theorem dX9_isAsSeen_38 : decode cX9_isAsSeen 38 = .ok (.aload_n 0, 1) := by decide +kernel
theorem dX9_isAsSeen_39 : decode cX9_isAsSeen 39 = .ok (.getfield 37, 3) := by decide +kernel
theorem dX9_isAsSeen_42 : decode cX9_isAsSeen 42 = .ok (.invokevirtual 303, 3) := by decide +kernel
theorem dX9_isAsSeen_45 : decode cX9_isAsSeen 45 = .ok (.iastore, 1) := by decide +kernel
theorem dX9_isAsSeen_46 : decode cX9_isAsSeen 46 = .ok (.aload_n 0, 1) := by decide +kernel
theorem dX9_isAsSeen_47 : decode cX9_isAsSeen 47 = .ok (.aload_n 0, 1) := by decide +kernel
theorem dX9_isAsSeen_48 : decode cX9_isAsSeen 48 = .ok (.getfield 37, 3) := by decide +kernel
theorem dX9_isAsSeen_51 : decode cX9_isAsSeen 51 = .ok (.invokevirtual 313, 3) := by decide +kernel
theorem dX9_isAsSeen_54 : decode cX9_isAsSeen 54 = .ok (.iinc 2 1, 3) := by decide +kernel
theorem dX9_isAsSeen_57 : decode cX9_isAsSeen 57 = .ok (.goto (-35), 3) := by decide +kernel
theorem dX9_isAsSeen_60 : decode cX9_isAsSeen 60 = .ok (.iconst 1, 1) := by decide +kernel
theorem dX9_isAsSeen_61 : decode cX9_isAsSeen 61 = .ok (.istore_n 2, 1) := by decide +kernel
theorem dX9_isAsSeen_62 : decode cX9_isAsSeen 62 = .ok (.iconst 0, 1) := by decide +kernel
theorem dX9_isAsSeen_63 : decode cX9_isAsSeen 63 = .ok (.istore_n 3, 1) := by decide +kernel
theorem dX9_isAsSeen_64 : decode cX9_isAsSeen 64 = .ok (.iload_n 3, 1) := by decide +kernel
theorem dX9_isAsSeen_65 : decode cX9_isAsSeen 65 = .ok (.aload_n 0, 1) := by decide +kernel
theorem dX9_isAsSeen_66 : decode cX9_isAsSeen 66 = .ok (.getfield 381, 3) := by decide +kernel
theorem dX9_isAsSeen_69 : decode cX9_isAsSeen 69 = .ok (.if_icmp .ge 55, 3) := by decide +kernel
theorem dX9_isAsSeen_72 : decode cX9_isAsSeen 72 = .ok (.iload_n 2, 1) := by decide +kernel
theorem dX9_isAsSeen_73 : decode cX9_isAsSeen 73 = .ok (.ifCond .eq 43, 3) := by decide +kernel
theorem dX9_isAsSeen_76 : decode cX9_isAsSeen 76 = .ok (.aload_n 0, 1) := by decide +kernel
theorem dX9_isAsSeen_77 : decode cX9_isAsSeen 77 = .ok (.getfield 91, 3) := by decide +kernel
theorem dX9_isAsSeen_80 : decode cX9_isAsSeen 80 = .ok (.iload_n 1, 1) := by decide +kernel
theorem dX9_isAsSeen_81 : decode cX9_isAsSeen 81 = .ok (.aload_n 0, 1) := by decide +kernel
theorem dX9_isAsSeen_82 : decode cX9_isAsSeen 82 = .ok (.getfield 85, 3) := by decide +kernel
theorem dX9_isAsSeen_85 : decode cX9_isAsSeen 85 = .ok (.iload_n 3, 1) := by decide +kernel
theorem dX9_isAsSeen_86 : decode cX9_isAsSeen 86 = .ok (.iaload, 1) := by decide +kernel
theorem dX9_isAsSeen_87 : decode cX9_isAsSeen 87 = .ok (.invokestatic 384, 3) := by decide +kernel
theorem dX9_isAsSeen_90 : decode cX9_isAsSeen 90 = .ok (.iaload, 1) := by decide +kernel
theorem dX9_isAsSeen_91 : decode cX9_isAsSeen 91 = .ok (.aload_n 0, 1) := by decide +kernel
theorem dX9_isAsSeen_92 : decode cX9_isAsSeen 92 = .ok (.getfield 82, 3) := by decide +kernel
theorem dX9_isAsSeen_95 : decode cX9_isAsSeen 95 = .ok (.iload_n 3, 1) := by decide +kernel
theorem dX9_isAsSeen_96 : decode cX9_isAsSeen 96 = .ok (.iaload, 1) := by decide +kernel
theorem dX9_isAsSeen_97 : decode cX9_isAsSeen 97 = .ok (.invokestatic 127, 3) := by decide +kernel
theorem dX9_isAsSeen_100 : decode cX9_isAsSeen 100 = .ok (.invokestatic 159, 3) := by decide +kernel
theorem dX9_isAsSeen_103 : decode cX9_isAsSeen 103 = .ok (.aload_n 0, 1) := by decide +kernel
theorem dX9_isAsSeen_104 : decode cX9_isAsSeen 104 = .ok (.getfield 88, 3) := by decide +kernel
theorem dX9_isAsSeen_107 : decode cX9_isAsSeen 107 = .ok (.iload_n 3, 1) := by decide +kernel
theorem dX9_isAsSeen_108 : decode cX9_isAsSeen 108 = .ok (.iaload, 1) := by decide +kernel
theorem dX9_isAsSeen_109 : decode cX9_isAsSeen 109 = .ok (.if_icmp .ne 7, 3) := by decide +kernel
theorem dX9_isAsSeen_112 : decode cX9_isAsSeen 112 = .ok (.iconst 1, 1) := by decide +kernel
theorem dX9_isAsSeen_113 : decode cX9_isAsSeen 113 = .ok (.goto 4, 3) := by decide +kernel
theorem dX9_isAsSeen_116 : decode cX9_isAsSeen 116 = .ok (.iconst 0, 1) := by decide +kernel
theorem dX9_isAsSeen_117 : decode cX9_isAsSeen 117 = .ok (.istore_n 2, 1) := by decide +kernel
theorem dX9_isAsSeen_118 : decode cX9_isAsSeen 118 = .ok (.iinc 3 1, 3) := by decide +kernel
theorem dX9_isAsSeen_121 : decode cX9_isAsSeen 121 = .ok (.goto (-57), 3) := by decide +kernel
theorem dX9_isAsSeen_124 : decode cX9_isAsSeen 124 = .ok (.iload_n 2, 1) := by decide +kernel
theorem dX9_isAsSeen_125 : decode cX9_isAsSeen 125 = .ok (.ireturn, 1) := by decide +kernel
theorem dX9_fitting_0 : decode cX9_fitting 0 = .ok (.iconst 0, 1) := by decide +kernel
theorem dX9_fitting_1 : decode cX9_fitting 1 = .ok (.istore_n 1, 1) := by decide +kernel
theorem dX9_fitting_2 : decode cX9_fitting 2 = .ok (.iconst 0, 1) := by decide +kernel
theorem dX9_fitting_3 : decode cX9_fitting 3 = .ok (.istore_n 2, 1) := by decide +kernel
theorem dX9_fitting_4 : decode cX9_fitting 4 = .ok (.iload_n 2, 1) := by decide +kernel
theorem dX9_fitting_5 : decode cX9_fitting 5 = .ok (.aload_n 0, 1) := by decide +kernel
theorem dX9_fitting_6 : decode cX9_fitting 6 = .ok (.getfield 116, 3) := by decide +kernel
theorem dX9_fitting_9 : decode cX9_fitting 9 = .ok (.if_icmp .ge 39, 3) := by decide +kernel
theorem dX9_fitting_12 : decode cX9_fitting 12 = .ok (.iload_n 1, 1) := by decide +kernel
theorem dX9_fitting_13 : decode cX9_fitting 13 = .ok (.aload_n 0, 1) := by decide +kernel
theorem dX9_fitting_14 : decode cX9_fitting 14 = .ok (.aload_n 0, 1) := by decide +kernel
theorem dX9_fitting_15 : decode cX9_fitting 15 = .ok (.getfield 34, 3) := by decide +kernel
theorem dX9_fitting_18 : decode cX9_fitting 18 = .ok (.iload_n 2, 1) := by decide +kernel
theorem dX9_fitting_19 : decode cX9_fitting 19 = .ok (.invokevirtual 202, 3) := by decide +kernel
theorem dX9_fitting_22 : decode cX9_fitting 22 = .ok (.ifCond .eq 17, 3) := by decide +kernel
theorem dX9_fitting_25 : decode cX9_fitting 25 = .ok (.aload_n 0, 1) := by decide +kernel
theorem dX9_fitting_26 : decode cX9_fitting 26 = .ok (.iload_n 2, 1) := by decide +kernel
theorem dX9_fitting_27 : decode cX9_fitting 27 = .ok (.invokevirtual 387, 3) := by decide +kernel
theorem dX9_fitting_30 : decode cX9_fitting 30 = .ok (.ifCond .eq 9, 3) := by decide +kernel
theorem dX9_fitting_33 : decode cX9_fitting 33 = .ok (.iconst 1, 1) := by decide +kernel
theorem dX9_fitting_34 : decode cX9_fitting 34 = .ok (.iload_n 2, 1) := by decide +kernel
theorem dX9_fitting_35 : decode cX9_fitting 35 = .ok (.ishl, 1) := by decide +kernel
theorem dX9_fitting_36 : decode cX9_fitting 36 = .ok (.goto 4, 3) := by decide +kernel
theorem dX9_fitting_39 : decode cX9_fitting 39 = .ok (.iconst 0, 1) := by decide +kernel
theorem dX9_fitting_40 : decode cX9_fitting 40 = .ok (.ior, 1) := by decide +kernel
theorem dX9_fitting_41 : decode cX9_fitting 41 = .ok (.istore_n 1, 1) := by decide +kernel
theorem dX9_fitting_42 : decode cX9_fitting 42 = .ok (.iinc 2 1, 3) := by decide +kernel
theorem dX9_fitting_45 : decode cX9_fitting 45 = .ok (.goto (-41), 3) := by decide +kernel
theorem dX9_fitting_48 : decode cX9_fitting 48 = .ok (.iload_n 1, 1) := by decide +kernel
theorem dX9_fitting_49 : decode cX9_fitting 49 = .ok (.ireturn, 1) := by decide +kernel
theorem dX9_fits_0 : decode cX9_fits 0 = .ok (.aload_n 0, 1) := by decide +kernel
theorem dX9_fits_1 : decode cX9_fits 1 = .ok (.iconst 0, 1) := by decide +kernel
theorem dX9_fits_2 : decode cX9_fits 2 = .ok (.putfield 3, 3) := by decide +kernel
theorem dX9_fits_5 : decode cX9_fits 5 = .ok (.aload_n 0, 1) := by decide +kernel
theorem dX9_fits_6 : decode cX9_fits 6 = .ok (.invokevirtual 390, 3) := by decide +kernel
theorem dX9_fits_9 : decode cX9_fits 9 = .ok (.istore_n 1, 1) := by decide +kernel
theorem dX9_fits_10 : decode cX9_fits 10 = .ok (.aload_n 0, 1) := by decide +kernel
theorem dX9_fits_11 : decode cX9_fits 11 = .ok (.iconst 0, 1) := by decide +kernel
theorem dX9_fits_12 : decode cX9_fits 12 = .ok (.putfield 15, 3) := by decide +kernel
theorem dX9_fits_15 : decode cX9_fits 15 = .ok (.aload_n 0, 1) := by decide +kernel
theorem dX9_fits_16 : decode cX9_fits 16 = .ok (.iload_n 1, 1) := by decide +kernel
theorem dX9_fits_17 : decode cX9_fits 17 = .ok (.invokestatic 135, 3) := by decide +kernel
theorem dX9_fits_20 : decode cX9_fits 20 = .ok (.i2l, 1) := by decide +kernel
theorem dX9_fits_21 : decode cX9_fits 21 = .ok (.invokevirtual 327, 3) := by decide +kernel
theorem dX9_fits_24 : decode cX9_fits 24 = .ok (.aload_n 0, 1) := by decide +kernel
theorem dX9_fits_25 : decode cX9_fits 25 = .ok (.aload_n 0, 1) := by decide +kernel
theorem dX9_fits_26 : decode cX9_fits 26 = .ok (.bipush 8, 2) := by decide +kernel
theorem dX9_fits_28 : decode cX9_fits 28 = .ok (.invokevirtual 387, 3) := by decide +kernel
theorem dX9_fits_31 : decode cX9_fits 31 = .ok (.invokestatic 159, 3) := by decide +kernel
theorem dX9_fits_34 : decode cX9_fits 34 = .ok (.i2l, 1) := by decide +kernel
theorem dX9_fits_35 : decode cX9_fits 35 = .ok (.invokevirtual 327, 3) := by decide +kernel
theorem dX9_fits_38 : decode cX9_fits 38 = .ok (.iload_n 1, 1) := by decide +kernel
theorem dX9_fits_39 : decode cX9_fits 39 = .ok (.ireturn, 1) := by decide +kernel
theorem dX9_looks_0 : decode cX9_looks 0 = .ok (.aload_n 0, 1) := by decide +kernel
theorem dX9_looks_1 : decode cX9_looks 1 = .ok (.iconst 0, 1) := by decide +kernel
theorem dX9_looks_2 : decode cX9_looks 2 = .ok (.putfield 3, 3) := by decide +kernel
theorem dX9_looks_5 : decode cX9_looks 5 = .ok (.aload_n 0, 1) := by decide +kernel
theorem dX9_looks_6 : decode cX9_looks 6 = .ok (.invokevirtual 390, 3) := by decide +kernel
theorem dX9_looks_9 : decode cX9_looks 9 = .ok (.istore_n 1, 1) := by decide +kernel
theorem dX9_looks_10 : decode cX9_looks 10 = .ok (.iload_n 1, 1) := by decide +kernel
theorem dX9_looks_11 : decode cX9_looks 11 = .ok (.ifCond .ne 6, 3) := by decide +kernel
theorem dX9_looks_14 : decode cX9_looks 14 = .ok (.bipush (-2), 2) := by decide +kernel
theorem dX9_looks_16 : decode cX9_looks 16 = .ok (.ireturn, 1) := by decide +kernel
theorem dX9_looks_17 : decode cX9_looks 17 = .ok (.iconst (-1), 1) := by decide +kernel
theorem dX9_looks_18 : decode cX9_looks 18 = .ok (.istore_n 2, 1) := by decide +kernel
theorem dX9_looks_19 : decode cX9_looks 19 = .ok (.ldc_w 365, 3) := by decide +kernel
theorem dX9_looks_22 : decode cX9_looks 22 = .ok (.istore_n 3, 1) := by decide +kernel
theorem dX9_looks_23 : decode cX9_looks 23 = .ok (.iconst 0, 1) := by decide +kernel
theorem dX9_looks_24 : decode cX9_looks 24 = .ok (.istore 4, 2) := by decide +kernel
theorem dX9_looks_26 : decode cX9_looks 26 = .ok (.iload 4, 2) := by decide +kernel
theorem dX9_looks_28 : decode cX9_looks 28 = .ok (.aload_n 0, 1) := by decide +kernel
theorem dX9_looks_29 : decode cX9_looks 29 = .ok (.getfield 116, 3) := by decide +kernel
theorem dX9_looks_32 : decode cX9_looks 32 = .ok (.if_icmp .ge 128, 3) := by decide +kernel
theorem dX9_looks_35 : decode cX9_looks 35 = .ok (.iconst 0, 1) := by decide +kernel
theorem dX9_looks_36 : decode cX9_looks 36 = .ok (.istore 5, 2) := by decide +kernel
theorem dX9_looks_38 : decode cX9_looks 38 = .ok (.iload 5, 2) := by decide +kernel
theorem dX9_looks_40 : decode cX9_looks 40 = .ok (.bipush 20, 2) := by decide +kernel
theorem dX9_looks_42 : decode cX9_looks 42 = .ok (.if_icmp .gt 112, 3) := by decide +kernel
theorem dX9_looks_45 : decode cX9_looks 45 = .ok (.iconst 0, 1) := by decide +kernel
theorem dX9_looks_46 : decode cX9_looks 46 = .ok (.istore 6, 2) := by decide +kernel
theorem dX9_looks_48 : decode cX9_looks 48 = .ok (.iconst 0, 1) := by decide +kernel
theorem dX9_looks_49 : decode cX9_looks 49 = .ok (.istore 7, 2) := by decide +kernel
theorem dX9_looks_51 : decode cX9_looks 51 = .ok (.iload 7, 2) := by decide +kernel
theorem dX9_looks_53 : decode cX9_looks 53 = .ok (.aload_n 0, 1) := by decide +kernel
theorem dX9_looks_54 : decode cX9_looks 54 = .ok (.getfield 116, 3) := by decide +kernel
theorem dX9_looks_57 : decode cX9_looks 57 = .ok (.if_icmp .ge 51, 3) := by decide +kernel
theorem dX9_looks_60 : decode cX9_looks 60 = .ok (.iload 6, 2) := by decide +kernel
theorem dX9_looks_62 : decode cX9_looks 62 = .ok (.iload_n 1, 1) := by decide +kernel
theorem dX9_looks_63 : decode cX9_looks 63 = .ok (.iload 7, 2) := by decide +kernel
theorem dX9_looks_65 : decode cX9_looks 65 = .ok (.invokestatic 127, 3) := by decide +kernel
theorem dX9_looks_68 : decode cX9_looks 68 = .ok (.ifCond .eq 27, 3) := by decide +kernel
theorem dX9_looks_71 : decode cX9_looks 71 = .ok (.aload_n 0, 1) := by decide +kernel
theorem dX9_looks_72 : decode cX9_looks 72 = .ok (.getfield 91, 3) := by decide +kernel
theorem dX9_looks_75 : decode cX9_looks 75 = .ok (.iload 7, 2) := by decide +kernel
theorem dX9_looks_77 : decode cX9_looks 77 = .ok (.iload 5, 2) := by decide +kernel
theorem dX9_looks_79 : decode cX9_looks 79 = .ok (.invokestatic 384, 3) := by decide +kernel
theorem dX9_looks_82 : decode cX9_looks 82 = .ok (.iaload, 1) := by decide +kernel
theorem dX9_looks_83 : decode cX9_looks 83 = .ok (.iload 4, 2) := by decide +kernel
theorem dX9_looks_85 : decode cX9_looks 85 = .ok (.invokestatic 127, 3) := by decide +kernel
theorem dX9_looks_88 : decode cX9_looks 88 = .ok (.ifCond .eq 7, 3) := by decide +kernel
theorem dX9_looks_91 : decode cX9_looks 91 = .ok (.iconst 1, 1) := by decide +kernel
theorem dX9_looks_92 : decode cX9_looks 92 = .ok (.goto 4, 3) := by decide +kernel
theorem dX9_looks_95 : decode cX9_looks 95 = .ok (.iconst 0, 1) := by decide +kernel
theorem dX9_looks_96 : decode cX9_looks 96 = .ok (.invokestatic 159, 3) := by decide +kernel
theorem dX9_looks_99 : decode cX9_looks 99 = .ok (.iadd, 1) := by decide +kernel
theorem dX9_looks_100 : decode cX9_looks 100 = .ok (.istore 6, 2) := by decide +kernel
theorem dX9_looks_102 : decode cX9_looks 102 = .ok (.iinc 7 1, 3) := by decide +kernel
theorem dX9_looks_105 : decode cX9_looks 105 = .ok (.goto (-54), 3) := by decide +kernel
theorem dX9_looks_108 : decode cX9_looks 108 = .ok (.iload 6, 2) := by decide +kernel
theorem dX9_looks_110 : decode cX9_looks 110 = .ok (.iload_n 1, 1) := by decide +kernel
theorem dX9_looks_111 : decode cX9_looks 111 = .ok (.invokestatic 135, 3) := by decide +kernel
theorem dX9_looks_114 : decode cX9_looks 114 = .ok (.iload 6, 2) := by decide +kernel
theorem dX9_looks_116 : decode cX9_looks 116 = .ok (.isub, 1) := by decide +kernel
theorem dX9_looks_117 : decode cX9_looks 117 = .ok (.invokestatic 267, 3) := by decide +kernel
theorem dX9_looks_120 : decode cX9_looks 120 = .ok (.istore 7, 2) := by decide +kernel
theorem dX9_looks_122 : decode cX9_looks 122 = .ok (.iload 7, 2) := by decide +kernel
theorem dX9_looks_124 : decode cX9_looks 124 = .ok (.iload_n 3, 1) := by decide +kernel
theorem dX9_looks_125 : decode cX9_looks 125 = .ok (.if_icmp .ge 14, 3) := by decide +kernel
theorem dX9_looks_128 : decode cX9_looks 128 = .ok (.bipush 21, 2) := by decide +kernel
theorem dX9_looks_130 : decode cX9_looks 130 = .ok (.iload 4, 2) := by decide +kernel
theorem dX9_looks_132 : decode cX9_looks 132 = .ok (.imul, 1) := by decide +kernel
theorem dX9_looks_133 : decode cX9_looks 133 = .ok (.iload 5, 2) := by decide +kernel
theorem dX9_looks_135 : decode cX9_looks 135 = .ok (.iadd, 1) := by decide +kernel
theorem dX9_looks_136 : decode cX9_looks 136 = .ok (.goto 4, 3) := by decide +kernel
theorem dX9_looks_139 : decode cX9_looks 139 = .ok (.iload_n 2, 1) := by decide +kernel
theorem dX9_looks_140 : decode cX9_looks 140 = .ok (.istore_n 2, 1) := by decide +kernel
theorem dX9_looks_141 : decode cX9_looks 141 = .ok (.iload_n 3, 1) := by decide +kernel
theorem dX9_looks_142 : decode cX9_looks 142 = .ok (.iload 7, 2) := by decide +kernel
theorem dX9_looks_144 : decode cX9_looks 144 = .ok (.invokestatic 150, 3) := by decide +kernel
theorem dX9_looks_147 : decode cX9_looks 147 = .ok (.istore_n 3, 1) := by decide +kernel
theorem dX9_looks_148 : decode cX9_looks 148 = .ok (.iinc 5 1, 3) := by decide +kernel
theorem dX9_looks_151 : decode cX9_looks 151 = .ok (.goto (-113), 3) := by decide +kernel
theorem dX9_looks_154 : decode cX9_looks 154 = .ok (.iinc 4 1, 3) := by decide +kernel
theorem dX9_looks_157 : decode cX9_looks 157 = .ok (.goto (-131), 3) := by decide +kernel
theorem dX9_looks_160 : decode cX9_looks 160 = .ok (.aload_n 0, 1) := by decide +kernel
theorem dX9_looks_161 : decode cX9_looks 161 = .ok (.iconst 0, 1) := by decide +kernel
theorem dX9_looks_162 : decode cX9_looks 162 = .ok (.putfield 15, 3) := by decide +kernel
theorem dX9_looks_165 : decode cX9_looks 165 = .ok (.aload_n 0, 1) := by decide +kernel
theorem dX9_looks_166 : decode cX9_looks 166 = .ok (.iload_n 3, 1) := by decide +kernel
theorem dX9_looks_167 : decode cX9_looks 167 = .ok (.i2l, 1) := by decide +kernel
theorem dX9_looks_168 : decode cX9_looks 168 = .ok (.invokevirtual 327, 3) := by decide +kernel
theorem dX9_looks_171 : decode cX9_looks 171 = .ok (.iload_n 2, 1) := by decide +kernel
theorem dX9_looks_172 : decode cX9_looks 172 = .ok (.ireturn, 1) := by decide +kernel
theorem dX9_isFewer_0 : decode cX9_isFewer 0 = .ok (.iload_n 1, 1) := by decide +kernel
theorem dX9_isFewer_1 : decode cX9_isFewer 1 = .ok (.ifCond .lt 14, 3) := by decide +kernel
theorem dX9_isFewer_4 : decode cX9_isFewer 4 = .ok (.iload_n 0, 1) := by decide +kernel
theorem dX9_isFewer_5 : decode cX9_isFewer 5 = .ok (.invokestatic 135, 3) := by decide +kernel
theorem dX9_isFewer_8 : decode cX9_isFewer 8 = .ok (.iload_n 1, 1) := by decide +kernel
theorem dX9_isFewer_9 : decode cX9_isFewer 9 = .ok (.invokestatic 135, 3) := by decide +kernel
theorem dX9_isFewer_12 : decode cX9_isFewer 12 = .ok (.if_icmp .ge 7, 3) := by decide +kernel
theorem dX9_isFewer_15 : decode cX9_isFewer 15 = .ok (.iconst 1, 1) := by decide +kernel
theorem dX9_isFewer_16 : decode cX9_isFewer 16 = .ok (.goto 4, 3) := by decide +kernel
theorem dX9_isFewer_19 : decode cX9_isFewer 19 = .ok (.iconst 0, 1) := by decide +kernel
theorem dX9_isFewer_20 : decode cX9_isFewer 20 = .ok (.ireturn, 1) := by decide +kernel
theorem dX9_lifts_0 : decode cX9_lifts 0 = .ok (.aload_n 0, 1) := by decide +kernel
theorem dX9_lifts_1 : decode cX9_lifts 1 = .ok (.iconst 0, 1) := by decide +kernel
theorem dX9_lifts_2 : decode cX9_lifts 2 = .ok (.putfield 3, 3) := by decide +kernel
theorem dX9_lifts_5 : decode cX9_lifts 5 = .ok (.iload_n 1, 1) := by decide +kernel
theorem dX9_lifts_6 : decode cX9_lifts 6 = .ok (.i2l, 1) := by decide +kernel
theorem dX9_lifts_7 : decode cX9_lifts 7 = .ok (.lconst 1, 1) := by decide +kernel
theorem dX9_lifts_8 : decode cX9_lifts 8 = .ok (.ldc2_w 393, 3) := by decide +kernel
theorem dX9_lifts_11 : decode cX9_lifts 11 = .ok (.invokestatic 119, 3) := by decide +kernel
theorem dX9_lifts_14 : decode cX9_lifts 14 = .ok (.ifCond .ne 5, 3) := by decide +kernel
theorem dX9_lifts_17 : decode cX9_lifts 17 = .ok (.iconst (-1), 1) := by decide +kernel
theorem dX9_lifts_18 : decode cX9_lifts 18 = .ok (.ireturn, 1) := by decide +kernel
theorem dX9_lifts_19 : decode cX9_lifts 19 = .ok (.iconst (-1), 1) := by decide +kernel
theorem dX9_lifts_20 : decode cX9_lifts 20 = .ok (.istore_n 2, 1) := by decide +kernel
theorem dX9_lifts_21 : decode cX9_lifts 21 = .ok (.iconst 0, 1) := by decide +kernel
theorem dX9_lifts_22 : decode cX9_lifts 22 = .ok (.istore_n 3, 1) := by decide +kernel
theorem dX9_lifts_23 : decode cX9_lifts 23 = .ok (.iload_n 3, 1) := by decide +kernel
theorem dX9_lifts_24 : decode cX9_lifts 24 = .ok (.aload_n 0, 1) := by decide +kernel
theorem dX9_lifts_25 : decode cX9_lifts 25 = .ok (.invokevirtual 131, 3) := by decide +kernel
theorem dX9_lifts_28 : decode cX9_lifts 28 = .ok (.if_icmp .gt 37, 3) := by decide +kernel
theorem dX9_lifts_31 : decode cX9_lifts 31 = .ok (.iload_n 3, 1) := by decide +kernel
theorem dX9_lifts_32 : decode cX9_lifts 32 = .ok (.iload_n 2, 1) := by decide +kernel
theorem dX9_lifts_33 : decode cX9_lifts 33 = .ok (.invokestatic 395, 3) := by decide +kernel
theorem dX9_lifts_36 : decode cX9_lifts 36 = .ok (.ifCond .eq 21, 3) := by decide +kernel
theorem dX9_lifts_39 : decode cX9_lifts 39 = .ok (.aload_n 0, 1) := by decide +kernel
theorem dX9_lifts_40 : decode cX9_lifts 40 = .ok (.aload_n 0, 1) := by decide +kernel
theorem dX9_lifts_41 : decode cX9_lifts 41 = .ok (.getfield 34, 3) := by decide +kernel
theorem dX9_lifts_44 : decode cX9_lifts 44 = .ok (.iconst 0, 1) := by decide +kernel
theorem dX9_lifts_45 : decode cX9_lifts 45 = .ok (.iload_n 3, 1) := by decide +kernel
theorem dX9_lifts_46 : decode cX9_lifts 46 = .ok (.invokevirtual 274, 3) := by decide +kernel
theorem dX9_lifts_49 : decode cX9_lifts 49 = .ok (.iload_n 1, 1) := by decide +kernel
theorem dX9_lifts_50 : decode cX9_lifts 50 = .ok (.if_icmp .lt 7, 3) := by decide +kernel
theorem dX9_lifts_53 : decode cX9_lifts 53 = .ok (.iload_n 3, 1) := by decide +kernel
theorem dX9_lifts_54 : decode cX9_lifts 54 = .ok (.goto 4, 3) := by decide +kernel
theorem dX9_lifts_57 : decode cX9_lifts 57 = .ok (.iload_n 2, 1) := by decide +kernel
theorem dX9_lifts_58 : decode cX9_lifts 58 = .ok (.istore_n 2, 1) := by decide +kernel
theorem dX9_lifts_59 : decode cX9_lifts 59 = .ok (.iinc 3 1, 3) := by decide +kernel
theorem dX9_lifts_62 : decode cX9_lifts 62 = .ok (.goto (-39), 3) := by decide +kernel
theorem dX9_lifts_65 : decode cX9_lifts 65 = .ok (.iload_n 2, 1) := by decide +kernel
theorem dX9_lifts_66 : decode cX9_lifts 66 = .ok (.ifCond .ge 6, 3) := by decide +kernel
theorem dX9_lifts_69 : decode cX9_lifts 69 = .ok (.bipush (-2), 2) := by decide +kernel
theorem dX9_lifts_71 : decode cX9_lifts 71 = .ok (.ireturn, 1) := by decide +kernel
theorem dX9_lifts_72 : decode cX9_lifts 72 = .ok (.aload_n 0, 1) := by decide +kernel
theorem dX9_lifts_73 : decode cX9_lifts 73 = .ok (.iconst 0, 1) := by decide +kernel
theorem dX9_lifts_74 : decode cX9_lifts 74 = .ok (.putfield 15, 3) := by decide +kernel
theorem dX9_lifts_77 : decode cX9_lifts 77 = .ok (.aload_n 0, 1) := by decide +kernel
theorem dX9_lifts_78 : decode cX9_lifts 78 = .ok (.iload_n 2, 1) := by decide +kernel
theorem dX9_lifts_79 : decode cX9_lifts 79 = .ok (.i2l, 1) := by decide +kernel
theorem dX9_lifts_80 : decode cX9_lifts 80 = .ok (.invokevirtual 327, 3) := by decide +kernel
theorem dX9_lifts_83 : decode cX9_lifts 83 = .ok (.iload_n 2, 1) := by decide +kernel
theorem dX9_lifts_84 : decode cX9_lifts 84 = .ok (.invokestatic 135, 3) := by decide +kernel
theorem dX9_lifts_87 : decode cX9_lifts 87 = .ok (.ireturn, 1) := by decide +kernel
theorem dX9_just_0 : decode cX9_just 0 = .ok (.aload_n 0, 1) := by decide +kernel
theorem dX9_just_1 : decode cX9_just 1 = .ok (.iconst 0, 1) := by decide +kernel
theorem dX9_just_2 : decode cX9_just 2 = .ok (.putfield 3, 3) := by decide +kernel
theorem dX9_just_5 : decode cX9_just 5 = .ok (.iload_n 1, 1) := by decide +kernel
theorem dX9_just_6 : decode cX9_just 6 = .ok (.i2l, 1) := by decide +kernel
theorem dX9_just_7 : decode cX9_just 7 = .ok (.lconst 0, 1) := by decide +kernel
theorem dX9_just_8 : decode cX9_just 8 = .ok (.ldc2_w 393, 3) := by decide +kernel
theorem dX9_just_11 : decode cX9_just 11 = .ok (.invokestatic 119, 3) := by decide +kernel
theorem dX9_just_14 : decode cX9_just 14 = .ok (.ifCond .ne 5, 3) := by decide +kernel
theorem dX9_just_17 : decode cX9_just 17 = .ok (.iconst (-1), 1) := by decide +kernel
theorem dX9_just_18 : decode cX9_just 18 = .ok (.ireturn, 1) := by decide +kernel
theorem dX9_just_19 : decode cX9_just 19 = .ok (.iconst (-1), 1) := by decide +kernel
theorem dX9_just_20 : decode cX9_just 20 = .ok (.istore_n 2, 1) := by decide +kernel
theorem dX9_just_21 : decode cX9_just 21 = .ok (.iconst 0, 1) := by decide +kernel
theorem dX9_just_22 : decode cX9_just 22 = .ok (.istore_n 3, 1) := by decide +kernel
theorem dX9_just_23 : decode cX9_just 23 = .ok (.iconst 0, 1) := by decide +kernel
theorem dX9_just_24 : decode cX9_just 24 = .ok (.istore 4, 2) := by decide +kernel
theorem dX9_just_26 : decode cX9_just 26 = .ok (.iload 4, 2) := by decide +kernel
theorem dX9_just_28 : decode cX9_just 28 = .ok (.aload_n 0, 1) := by decide +kernel
theorem dX9_just_29 : decode cX9_just 29 = .ok (.invokevirtual 131, 3) := by decide +kernel
theorem dX9_just_32 : decode cX9_just 32 = .ok (.if_icmp .gt 60, 3) := by decide +kernel
theorem dX9_just_35 : decode cX9_just 35 = .ok (.aload_n 0, 1) := by decide +kernel
theorem dX9_just_36 : decode cX9_just 36 = .ok (.aload_n 0, 1) := by decide +kernel
theorem dX9_just_37 : decode cX9_just 37 = .ok (.getfield 34, 3) := by decide +kernel
theorem dX9_just_40 : decode cX9_just 40 = .ok (.iconst 0, 1) := by decide +kernel
theorem dX9_just_41 : decode cX9_just 41 = .ok (.iload 4, 2) := by decide +kernel
theorem dX9_just_43 : decode cX9_just 43 = .ok (.invokevirtual 274, 3) := by decide +kernel
theorem dX9_just_46 : decode cX9_just 46 = .ok (.iload_n 1, 1) := by decide +kernel
theorem dX9_just_47 : decode cX9_just 47 = .ok (.if_icmp .ne 7, 3) := by decide +kernel
theorem dX9_just_50 : decode cX9_just 50 = .ok (.iconst 1, 1) := by decide +kernel
theorem dX9_just_51 : decode cX9_just 51 = .ok (.goto 4, 3) := by decide +kernel
theorem dX9_just_54 : decode cX9_just 54 = .ok (.iconst 0, 1) := by decide +kernel
theorem dX9_just_55 : decode cX9_just 55 = .ok (.istore 5, 2) := by decide +kernel
theorem dX9_just_57 : decode cX9_just 57 = .ok (.iload 5, 2) := by decide +kernel
theorem dX9_just_59 : decode cX9_just 59 = .ok (.ifCond .eq 17, 3) := by decide +kernel
theorem dX9_just_62 : decode cX9_just 62 = .ok (.iload 4, 2) := by decide +kernel
theorem dX9_just_64 : decode cX9_just 64 = .ok (.iload_n 2, 1) := by decide +kernel
theorem dX9_just_65 : decode cX9_just 65 = .ok (.invokestatic 395, 3) := by decide +kernel
theorem dX9_just_68 : decode cX9_just 68 = .ok (.ifCond .eq 8, 3) := by decide +kernel
theorem dX9_just_71 : decode cX9_just 71 = .ok (.iload 4, 2) := by decide +kernel
theorem dX9_just_73 : decode cX9_just 73 = .ok (.goto 4, 3) := by decide +kernel
theorem dX9_just_76 : decode cX9_just 76 = .ok (.iload_n 2, 1) := by decide +kernel
theorem dX9_just_77 : decode cX9_just 77 = .ok (.istore_n 2, 1) := by decide +kernel
theorem dX9_just_78 : decode cX9_just 78 = .ok (.iload_n 3, 1) := by decide +kernel
theorem dX9_just_79 : decode cX9_just 79 = .ok (.iload 5, 2) := by decide +kernel
theorem dX9_just_81 : decode cX9_just 81 = .ok (.invokestatic 159, 3) := by decide +kernel
theorem dX9_just_84 : decode cX9_just 84 = .ok (.iadd, 1) := by decide +kernel
theorem dX9_just_85 : decode cX9_just 85 = .ok (.istore_n 3, 1) := by decide +kernel
theorem dX9_just_86 : decode cX9_just 86 = .ok (.iinc 4 1, 3) := by decide +kernel
theorem dX9_just_89 : decode cX9_just 89 = .ok (.goto (-63), 3) := by decide +kernel
theorem dX9_just_92 : decode cX9_just 92 = .ok (.iload_n 2, 1) := by decide +kernel
theorem dX9_just_93 : decode cX9_just 93 = .ok (.ifCond .ge 6, 3) := by decide +kernel
theorem dX9_just_96 : decode cX9_just 96 = .ok (.bipush (-2), 2) := by decide +kernel
theorem dX9_just_98 : decode cX9_just 98 = .ok (.ireturn, 1) := by decide +kernel
theorem dX9_just_99 : decode cX9_just 99 = .ok (.aload_n 0, 1) := by decide +kernel
theorem dX9_just_100 : decode cX9_just 100 = .ok (.iconst 0, 1) := by decide +kernel
theorem dX9_just_101 : decode cX9_just 101 = .ok (.putfield 15, 3) := by decide +kernel
theorem dX9_just_104 : decode cX9_just 104 = .ok (.aload_n 0, 1) := by decide +kernel
theorem dX9_just_105 : decode cX9_just 105 = .ok (.iload_n 2, 1) := by decide +kernel
theorem dX9_just_106 : decode cX9_just 106 = .ok (.i2l, 1) := by decide +kernel
theorem dX9_just_107 : decode cX9_just 107 = .ok (.invokevirtual 327, 3) := by decide +kernel
theorem dX9_just_110 : decode cX9_just 110 = .ok (.aload_n 0, 1) := by decide +kernel
theorem dX9_just_111 : decode cX9_just 111 = .ok (.iload_n 3, 1) := by decide +kernel
theorem dX9_just_112 : decode cX9_just 112 = .ok (.i2l, 1) := by decide +kernel
theorem dX9_just_113 : decode cX9_just 113 = .ok (.invokevirtual 327, 3) := by decide +kernel
theorem dX9_just_116 : decode cX9_just 116 = .ok (.iload_n 2, 1) := by decide +kernel
theorem dX9_just_117 : decode cX9_just 117 = .ok (.invokestatic 135, 3) := by decide +kernel
theorem dX9_just_120 : decode cX9_just 120 = .ok (.ireturn, 1) := by decide +kernel
theorem dX9_evens_0 : decode cX9_evens 0 = .ok (.aload_n 0, 1) := by decide +kernel
theorem dX9_evens_1 : decode cX9_evens 1 = .ok (.iconst 0, 1) := by decide +kernel
theorem dX9_evens_2 : decode cX9_evens 2 = .ok (.putfield 3, 3) := by decide +kernel
theorem dX9_evens_5 : decode cX9_evens 5 = .ok (.aload_n 0, 1) := by decide +kernel
theorem dX9_evens_6 : decode cX9_evens 6 = .ok (.aload_n 0, 1) := by decide +kernel
theorem dX9_evens_7 : decode cX9_evens 7 = .ok (.getfield 34, 3) := by decide +kernel
theorem dX9_evens_10 : decode cX9_evens 10 = .ok (.iconst 0, 1) := by decide +kernel
theorem dX9_evens_11 : decode cX9_evens 11 = .ok (.aload_n 0, 1) := by decide +kernel
theorem dX9_evens_12 : decode cX9_evens 12 = .ok (.invokevirtual 131, 3) := by decide +kernel
theorem dX9_evens_15 : decode cX9_evens 15 = .ok (.invokevirtual 274, 3) := by decide +kernel
theorem dX9_evens_18 : decode cX9_evens 18 = .ok (.istore_n 1, 1) := by decide +kernel
theorem dX9_evens_19 : decode cX9_evens 19 = .ok (.iconst 0, 1) := by decide +kernel
theorem dX9_evens_20 : decode cX9_evens 20 = .ok (.istore_n 2, 1) := by decide +kernel
theorem dX9_evens_21 : decode cX9_evens 21 = .ok (.iconst 1, 1) := by decide +kernel
theorem dX9_evens_22 : decode cX9_evens 22 = .ok (.istore_n 3, 1) := by decide +kernel
theorem dX9_evens_23 : decode cX9_evens 23 = .ok (.iload_n 3, 1) := by decide +kernel
theorem dX9_evens_24 : decode cX9_evens 24 = .ok (.aload_n 0, 1) := by decide +kernel
theorem dX9_evens_25 : decode cX9_evens 25 = .ok (.invokevirtual 131, 3) := by decide +kernel
theorem dX9_evens_28 : decode cX9_evens 28 = .ok (.if_icmp .gt 52, 3) := by decide +kernel
theorem dX9_evens_31 : decode cX9_evens 31 = .ok (.iload_n 1, 1) := by decide +kernel
theorem dX9_evens_32 : decode cX9_evens 32 = .ok (.iconst 2, 1) := by decide +kernel
theorem dX9_evens_33 : decode cX9_evens 33 = .ok (.aload_n 0, 1) := by decide +kernel
theorem dX9_evens_34 : decode cX9_evens 34 = .ok (.aload_n 0, 1) := by decide +kernel
theorem dX9_evens_35 : decode cX9_evens 35 = .ok (.getfield 34, 3) := by decide +kernel
theorem dX9_evens_38 : decode cX9_evens 38 = .ok (.iconst 0, 1) := by decide +kernel
theorem dX9_evens_39 : decode cX9_evens 39 = .ok (.iload_n 3, 1) := by decide +kernel
theorem dX9_evens_40 : decode cX9_evens 40 = .ok (.invokevirtual 274, 3) := by decide +kernel
theorem dX9_evens_43 : decode cX9_evens 43 = .ok (.imul, 1) := by decide +kernel
theorem dX9_evens_44 : decode cX9_evens 44 = .ok (.isub, 1) := by decide +kernel
theorem dX9_evens_45 : decode cX9_evens 45 = .ok (.invokestatic 398, 3) := by decide +kernel
theorem dX9_evens_48 : decode cX9_evens 48 = .ok (.iload_n 1, 1) := by decide +kernel
theorem dX9_evens_49 : decode cX9_evens 49 = .ok (.iconst 2, 1) := by decide +kernel
theorem dX9_evens_50 : decode cX9_evens 50 = .ok (.aload_n 0, 1) := by decide +kernel
theorem dX9_evens_51 : decode cX9_evens 51 = .ok (.aload_n 0, 1) := by decide +kernel
theorem dX9_evens_52 : decode cX9_evens 52 = .ok (.getfield 34, 3) := by decide +kernel
theorem dX9_evens_55 : decode cX9_evens 55 = .ok (.iconst 0, 1) := by decide +kernel
theorem dX9_evens_56 : decode cX9_evens 56 = .ok (.iload_n 2, 1) := by decide +kernel
theorem dX9_evens_57 : decode cX9_evens 57 = .ok (.invokevirtual 274, 3) := by decide +kernel
theorem dX9_evens_60 : decode cX9_evens 60 = .ok (.imul, 1) := by decide +kernel
theorem dX9_evens_61 : decode cX9_evens 61 = .ok (.isub, 1) := by decide +kernel
theorem dX9_evens_62 : decode cX9_evens 62 = .ok (.invokestatic 398, 3) := by decide +kernel
theorem dX9_evens_65 : decode cX9_evens 65 = .ok (.if_icmp .ge 7, 3) := by decide +kernel
theorem dX9_evens_68 : decode cX9_evens 68 = .ok (.iload_n 3, 1) := by decide +kernel
theorem dX9_evens_69 : decode cX9_evens 69 = .ok (.goto 4, 3) := by decide +kernel
theorem dX9_evens_72 : decode cX9_evens 72 = .ok (.iload_n 2, 1) := by decide +kernel
theorem dX9_evens_73 : decode cX9_evens 73 = .ok (.istore_n 2, 1) := by decide +kernel
theorem dX9_evens_74 : decode cX9_evens 74 = .ok (.iinc 3 1, 3) := by decide +kernel
theorem dX9_evens_77 : decode cX9_evens 77 = .ok (.goto (-54), 3) := by decide +kernel
theorem dX9_evens_80 : decode cX9_evens 80 = .ok (.aload_n 0, 1) := by decide +kernel
theorem dX9_evens_81 : decode cX9_evens 81 = .ok (.iconst 0, 1) := by decide +kernel
theorem dX9_evens_82 : decode cX9_evens 82 = .ok (.putfield 15, 3) := by decide +kernel
theorem dX9_evens_85 : decode cX9_evens 85 = .ok (.aload_n 0, 1) := by decide +kernel
theorem dX9_evens_86 : decode cX9_evens 86 = .ok (.iload_n 2, 1) := by decide +kernel
theorem dX9_evens_87 : decode cX9_evens 87 = .ok (.i2l, 1) := by decide +kernel
theorem dX9_evens_88 : decode cX9_evens 88 = .ok (.invokevirtual 327, 3) := by decide +kernel
theorem dX9_evens_91 : decode cX9_evens 91 = .ok (.aload_n 0, 1) := by decide +kernel
theorem dX9_evens_92 : decode cX9_evens 92 = .ok (.aload_n 0, 1) := by decide +kernel
theorem dX9_evens_93 : decode cX9_evens 93 = .ok (.aload_n 0, 1) := by decide +kernel
theorem dX9_evens_94 : decode cX9_evens 94 = .ok (.getfield 34, 3) := by decide +kernel
theorem dX9_evens_97 : decode cX9_evens 97 = .ok (.iconst 0, 1) := by decide +kernel
theorem dX9_evens_98 : decode cX9_evens 98 = .ok (.iload_n 2, 1) := by decide +kernel
theorem dX9_evens_99 : decode cX9_evens 99 = .ok (.invokevirtual 274, 3) := by decide +kernel
theorem dX9_evens_102 : decode cX9_evens 102 = .ok (.i2l, 1) := by decide +kernel
theorem dX9_evens_103 : decode cX9_evens 103 = .ok (.invokevirtual 327, 3) := by decide +kernel
theorem dX9_evens_106 : decode cX9_evens 106 = .ok (.iload_n 1, 1) := by decide +kernel
theorem dX9_evens_107 : decode cX9_evens 107 = .ok (.iconst 2, 1) := by decide +kernel
theorem dX9_evens_108 : decode cX9_evens 108 = .ok (.aload_n 0, 1) := by decide +kernel
theorem dX9_evens_109 : decode cX9_evens 109 = .ok (.aload_n 0, 1) := by decide +kernel
theorem dX9_evens_110 : decode cX9_evens 110 = .ok (.getfield 34, 3) := by decide +kernel
theorem dX9_evens_113 : decode cX9_evens 113 = .ok (.iconst 0, 1) := by decide +kernel
theorem dX9_evens_114 : decode cX9_evens 114 = .ok (.iload_n 2, 1) := by decide +kernel
theorem dX9_evens_115 : decode cX9_evens 115 = .ok (.invokevirtual 274, 3) := by decide +kernel
theorem dX9_evens_118 : decode cX9_evens 118 = .ok (.imul, 1) := by decide +kernel
theorem dX9_evens_119 : decode cX9_evens 119 = .ok (.isub, 1) := by decide +kernel
theorem dX9_evens_120 : decode cX9_evens 120 = .ok (.invokestatic 398, 3) := by decide +kernel
theorem dX9_evens_123 : decode cX9_evens 123 = .ok (.ireturn, 1) := by decide +kernel
theorem dX9_order_0 : decode cX9_order 0 = .ok (.aload_n 0, 1) := by decide +kernel
theorem dX9_order_1 : decode cX9_order 1 = .ok (.iconst 0, 1) := by decide +kernel
theorem dX9_order_2 : decode cX9_order 2 = .ok (.putfield 3, 3) := by decide +kernel
theorem dX9_order_5 : decode cX9_order 5 = .ok (.aload_n 0, 1) := by decide +kernel
theorem dX9_order_6 : decode cX9_order 6 = .ok (.aload_n 0, 1) := by decide +kernel
theorem dX9_order_7 : decode cX9_order 7 = .ok (.getfield 34, 3) := by decide +kernel
theorem dX9_order_10 : decode cX9_order 10 = .ok (.invokevirtual 307, 3) := by decide +kernel
theorem dX9_order_13 : decode cX9_order 13 = .ok (.istore_n 1, 1) := by decide +kernel
theorem dX9_order_14 : decode cX9_order 14 = .ok (.aload_n 0, 1) := by decide +kernel
theorem dX9_order_15 : decode cX9_order 15 = .ok (.iconst 0, 1) := by decide +kernel
theorem dX9_order_16 : decode cX9_order 16 = .ok (.putfield 15, 3) := by decide +kernel
theorem dX9_order_19 : decode cX9_order 19 = .ok (.iload_n 1, 1) := by decide +kernel
theorem dX9_order_20 : decode cX9_order 20 = .ok (.ifCond .eq 81, 3) := by decide +kernel
theorem dX9_order_23 : decode cX9_order 23 = .ok (.iconst (-1), 1) := by decide +kernel
theorem dX9_order_24 : decode cX9_order 24 = .ok (.istore_n 2, 1) := by decide +kernel
theorem dX9_order_25 : decode cX9_order 25 = .ok (.iconst 0, 1) := by decide +kernel
theorem dX9_order_26 : decode cX9_order 26 = .ok (.istore_n 3, 1) := by decide +kernel
theorem dX9_order_27 : decode cX9_order 27 = .ok (.iload_n 3, 1) := by decide +kernel
theorem dX9_order_28 : decode cX9_order 28 = .ok (.aload_n 0, 1) := by decide +kernel
theorem dX9_order_29 : decode cX9_order 29 = .ok (.getfield 116, 3) := by decide +kernel
theorem dX9_order_32 : decode cX9_order 32 = .ok (.if_icmp .ge 52, 3) := by decide +kernel
theorem dX9_order_35 : decode cX9_order 35 = .ok (.iload_n 1, 1) := by decide +kernel
theorem dX9_order_36 : decode cX9_order 36 = .ok (.iload_n 3, 1) := by decide +kernel
theorem dX9_order_37 : decode cX9_order 37 = .ok (.invokestatic 127, 3) := by decide +kernel
theorem dX9_order_40 : decode cX9_order 40 = .ok (.ifCond .eq 36, 3) := by decide +kernel
theorem dX9_order_43 : decode cX9_order 43 = .ok (.iload_n 2, 1) := by decide +kernel
theorem dX9_order_44 : decode cX9_order 44 = .ok (.ifCond .lt 28, 3) := by decide +kernel
theorem dX9_order_47 : decode cX9_order 47 = .ok (.aload_n 0, 1) := by decide +kernel
theorem dX9_order_48 : decode cX9_order 48 = .ok (.aload_n 0, 1) := by decide +kernel
theorem dX9_order_49 : decode cX9_order 49 = .ok (.getfield 34, 3) := by decide +kernel
theorem dX9_order_52 : decode cX9_order 52 = .ok (.iconst 1, 1) := by decide +kernel
theorem dX9_order_53 : decode cX9_order 53 = .ok (.iload_n 3, 1) := by decide +kernel
theorem dX9_order_54 : decode cX9_order 54 = .ok (.ishl, 1) := by decide +kernel
theorem dX9_order_55 : decode cX9_order 55 = .ok (.invokevirtual 287, 3) := by decide +kernel
