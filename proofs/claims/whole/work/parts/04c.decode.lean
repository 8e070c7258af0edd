theorem dX8_priceOf_15 : decode cX8_priceOf 15 = .ok (.iconst 1, 1) := by decide +kernel
theorem dX8_priceOf_16 : decode cX8_priceOf 16 = .ok (.iand, 1) := by decide +kernel
theorem dX8_priceOf_17 : decode cX8_priceOf 17 = .ok (.iconst 1, 1) := by decide +kernel
theorem dX8_priceOf_18 : decode cX8_priceOf 18 = .ok (.if_icmp .ne 19, 3) := by decide +kernel
theorem dX8_priceOf_21 : decode cX8_priceOf 21 = .ok (.iload_n 3, 1) := by decide +kernel
theorem dX8_priceOf_22 : decode cX8_priceOf 22 = .ok (.aload_n 0, 1) := by decide +kernel
theorem dX8_priceOf_23 : decode cX8_priceOf 23 = .ok (.getfield 10, 3) := by decide +kernel
theorem dX8_priceOf_26 : decode cX8_priceOf 26 = .ok (.iload 4, 2) := by decide +kernel
theorem dX8_priceOf_28 : decode cX8_priceOf 28 = .ok (.iconst 5, 1) := by decide +kernel
theorem dX8_priceOf_29 : decode cX8_priceOf 29 = .ok (.imul, 1) := by decide +kernel
theorem dX8_priceOf_30 : decode cX8_priceOf 30 = .ok (.iconst 3, 1) := by decide +kernel
theorem dX8_priceOf_31 : decode cX8_priceOf 31 = .ok (.iadd, 1) := by decide +kernel
theorem dX8_priceOf_32 : decode cX8_priceOf 32 = .ok (.invokevirtual 100, 3) := by decide +kernel
theorem dX8_priceOf_35 : decode cX8_priceOf 35 = .ok (.iadd, 1) := by decide +kernel
theorem dX8_priceOf_36 : decode cX8_priceOf 36 = .ok (.istore_n 3, 1) := by decide +kernel
theorem dX8_priceOf_37 : decode cX8_priceOf 37 = .ok (.iinc 4 1, 3) := by decide +kernel
theorem dX8_priceOf_40 : decode cX8_priceOf 40 = .ok (.goto (-35), 3) := by decide +kernel
theorem dX8_priceOf_43 : decode cX8_priceOf 43 = .ok (.iload_n 3, 1) := by decide +kernel
theorem dX8_priceOf_44 : decode cX8_priceOf 44 = .ok (.ireturn, 1) := by decide +kernel
theorem dX8_canServe_0 : decode cX8_canServe 0 = .ok (.iconst 0, 1) := by decide +kernel
theorem dX8_canServe_1 : decode cX8_canServe 1 = .ok (.istore_n 3, 1) := by decide +kernel
theorem dX8_canServe_2 : decode cX8_canServe 2 = .ok (.iload_n 3, 1) := by decide +kernel
theorem dX8_canServe_3 : decode cX8_canServe 3 = .ok (.bipush 10, 2) := by decide +kernel
theorem dX8_canServe_5 : decode cX8_canServe 5 = .ok (.if_icmp .ge 113, 3) := by decide +kernel
theorem dX8_canServe_8 : decode cX8_canServe 8 = .ok (.iconst 0, 1) := by decide +kernel
theorem dX8_canServe_9 : decode cX8_canServe 9 = .ok (.istore 4, 2) := by decide +kernel
theorem dX8_canServe_11 : decode cX8_canServe 11 = .ok (.iconst 0, 1) := by decide +kernel
theorem dX8_canServe_12 : decode cX8_canServe 12 = .ok (.istore 5, 2) := by decide +kernel
theorem dX8_canServe_14 : decode cX8_canServe 14 = .ok (.iload 5, 2) := by decide +kernel
theorem dX8_canServe_16 : decode cX8_canServe 16 = .ok (.iload_n 2, 1) := by decide +kernel
theorem dX8_canServe_17 : decode cX8_canServe 17 = .ok (.if_icmp .ge 81, 3) := by decide +kernel
theorem dX8_canServe_20 : decode cX8_canServe 20 = .ok (.iload 5, 2) := by decide +kernel
theorem dX8_canServe_22 : decode cX8_canServe 22 = .ok (.iconst 5, 1) := by decide +kernel
theorem dX8_canServe_23 : decode cX8_canServe 23 = .ok (.imul, 1) := by decide +kernel
theorem dX8_canServe_24 : decode cX8_canServe 24 = .ok (.istore 6, 2) := by decide +kernel
theorem dX8_canServe_26 : decode cX8_canServe 26 = .ok (.aload_n 0, 1) := by decide +kernel
theorem dX8_canServe_27 : decode cX8_canServe 27 = .ok (.getfield 10, 3) := by decide +kernel
theorem dX8_canServe_30 : decode cX8_canServe 30 = .ok (.iload 6, 2) := by decide +kernel
theorem dX8_canServe_32 : decode cX8_canServe 32 = .ok (.invokevirtual 100, 3) := by decide +kernel
theorem dX8_canServe_35 : decode cX8_canServe 35 = .ok (.iload_n 3, 1) := by decide +kernel
theorem dX8_canServe_36 : decode cX8_canServe 36 = .ok (.if_icmp .gt 22, 3) := by decide +kernel
theorem dX8_canServe_39 : decode cX8_canServe 39 = .ok (.iload_n 3, 1) := by decide +kernel
theorem dX8_canServe_40 : decode cX8_canServe 40 = .ok (.aload_n 0, 1) := by decide +kernel
theorem dX8_canServe_41 : decode cX8_canServe 41 = .ok (.getfield 10, 3) := by decide +kernel
theorem dX8_canServe_44 : decode cX8_canServe 44 = .ok (.iload 6, 2) := by decide +kernel
theorem dX8_canServe_46 : decode cX8_canServe 46 = .ok (.iconst 1, 1) := by decide +kernel
theorem dX8_canServe_47 : decode cX8_canServe 47 = .ok (.iadd, 1) := by decide +kernel
theorem dX8_canServe_48 : decode cX8_canServe 48 = .ok (.invokevirtual 100, 3) := by decide +kernel
theorem dX8_canServe_51 : decode cX8_canServe 51 = .ok (.if_icmp .gt 7, 3) := by decide +kernel
theorem dX8_canServe_54 : decode cX8_canServe 54 = .ok (.iconst 1, 1) := by decide +kernel
theorem dX8_canServe_55 : decode cX8_canServe 55 = .ok (.goto 4, 3) := by decide +kernel
theorem dX8_canServe_58 : decode cX8_canServe 58 = .ok (.iconst 0, 1) := by decide +kernel
theorem dX8_canServe_59 : decode cX8_canServe 59 = .ok (.istore 7, 2) := by decide +kernel
theorem dX8_canServe_61 : decode cX8_canServe 61 = .ok (.iload 7, 2) := by decide +kernel
theorem dX8_canServe_63 : decode cX8_canServe 63 = .ok (.ifCond .eq 29, 3) := by decide +kernel
theorem dX8_canServe_66 : decode cX8_canServe 66 = .ok (.iload_n 1, 1) := by decide +kernel
theorem dX8_canServe_67 : decode cX8_canServe 67 = .ok (.iload 5, 2) := by decide +kernel
theorem dX8_canServe_69 : decode cX8_canServe 69 = .ok (.ishr, 1) := by decide +kernel
theorem dX8_canServe_70 : decode cX8_canServe 70 = .ok (.iconst 1, 1) := by decide +kernel
theorem dX8_canServe_71 : decode cX8_canServe 71 = .ok (.iand, 1) := by decide +kernel
theorem dX8_canServe_72 : decode cX8_canServe 72 = .ok (.iconst 1, 1) := by decide +kernel
theorem dX8_canServe_73 : decode cX8_canServe 73 = .ok (.if_icmp .ne 19, 3) := by decide +kernel
theorem dX8_canServe_76 : decode cX8_canServe 76 = .ok (.iload 4, 2) := by decide +kernel
theorem dX8_canServe_78 : decode cX8_canServe 78 = .ok (.aload_n 0, 1) := by decide +kernel
theorem dX8_canServe_79 : decode cX8_canServe 79 = .ok (.getfield 10, 3) := by decide +kernel
theorem dX8_canServe_82 : decode cX8_canServe 82 = .ok (.iload 6, 2) := by decide +kernel
theorem dX8_canServe_84 : decode cX8_canServe 84 = .ok (.iconst 2, 1) := by decide +kernel
theorem dX8_canServe_85 : decode cX8_canServe 85 = .ok (.iadd, 1) := by decide +kernel
theorem dX8_canServe_86 : decode cX8_canServe 86 = .ok (.invokevirtual 100, 3) := by decide +kernel
theorem dX8_canServe_89 : decode cX8_canServe 89 = .ok (.iadd, 1) := by decide +kernel
theorem dX8_canServe_90 : decode cX8_canServe 90 = .ok (.istore 4, 2) := by decide +kernel
theorem dX8_canServe_92 : decode cX8_canServe 92 = .ok (.iinc 5 1, 3) := by decide +kernel
theorem dX8_canServe_95 : decode cX8_canServe 95 = .ok (.goto (-81), 3) := by decide +kernel
theorem dX8_canServe_98 : decode cX8_canServe 98 = .ok (.iload 4, 2) := by decide +kernel
theorem dX8_canServe_100 : decode cX8_canServe 100 = .ok (.aload_n 0, 1) := by decide +kernel
theorem dX8_canServe_101 : decode cX8_canServe 101 = .ok (.getfield 33, 3) := by decide +kernel
theorem dX8_canServe_104 : decode cX8_canServe 104 = .ok (.getfield 222, 3) := by decide +kernel
theorem dX8_canServe_107 : decode cX8_canServe 107 = .ok (.if_icmp .le 5, 3) := by decide +kernel
theorem dX8_canServe_110 : decode cX8_canServe 110 = .ok (.iconst 0, 1) := by decide +kernel
theorem dX8_canServe_111 : decode cX8_canServe 111 = .ok (.ireturn, 1) := by decide +kernel
theorem dX8_canServe_112 : decode cX8_canServe 112 = .ok (.iinc 3 1, 3) := by decide +kernel
theorem dX8_canServe_115 : decode cX8_canServe 115 = .ok (.goto (-113), 3) := by decide +kernel
theorem dX8_canServe_118 : decode cX8_canServe 118 = .ok (.iconst 1, 1) := by decide +kernel
theorem dX8_canServe_119 : decode cX8_canServe 119 = .ok (.ireturn, 1) := by decide +kernel
theorem dX8_fittingThings_0 : decode cX8_fittingThings 0 = .ok (.iconst 0, 1) := by decide +kernel
theorem dX8_fittingThings_1 : decode cX8_fittingThings 1 = .ok (.istore_n 1, 1) := by decide +kernel
theorem dX8_fittingThings_2 : decode cX8_fittingThings 2 = .ok (.iconst 0, 1) := by decide +kernel
theorem dX8_fittingThings_3 : decode cX8_fittingThings 3 = .ok (.istore_n 2, 1) := by decide +kernel
theorem dX8_fittingThings_4 : decode cX8_fittingThings 4 = .ok (.iload_n 2, 1) := by decide +kernel
theorem dX8_fittingThings_5 : decode cX8_fittingThings 5 = .ok (.aload_n 0, 1) := by decide +kernel
theorem dX8_fittingThings_6 : decode cX8_fittingThings 6 = .ok (.getfield 26, 3) := by decide +kernel
theorem dX8_fittingThings_9 : decode cX8_fittingThings 9 = .ok (.getfield 265, 3) := by decide +kernel
theorem dX8_fittingThings_12 : decode cX8_fittingThings 12 = .ok (.if_icmp .ge 56, 3) := by decide +kernel
theorem dX8_fittingThings_15 : decode cX8_fittingThings 15 = .ok (.aload_n 0, 1) := by decide +kernel
theorem dX8_fittingThings_16 : decode cX8_fittingThings 16 = .ok (.getfield 33, 3) := by decide +kernel
theorem dX8_fittingThings_19 : decode cX8_fittingThings 19 = .ok (.iload_n 2, 1) := by decide +kernel
theorem dX8_fittingThings_20 : decode cX8_fittingThings 20 = .ok (.invokevirtual 160, 3) := by decide +kernel
theorem dX8_fittingThings_23 : decode cX8_fittingThings 23 = .ok (.ifCond .ne 39, 3) := by decide +kernel
theorem dX8_fittingThings_26 : decode cX8_fittingThings 26 = .ok (.aload_n 0, 1) := by decide +kernel
theorem dX8_fittingThings_27 : decode cX8_fittingThings 27 = .ok (.getfield 57, 3) := by decide +kernel
theorem dX8_fittingThings_30 : decode cX8_fittingThings 30 = .ok (.aload_n 0, 1) := by decide +kernel
theorem dX8_fittingThings_31 : decode cX8_fittingThings 31 = .ok (.getfield 26, 3) := by decide +kernel
theorem dX8_fittingThings_34 : decode cX8_fittingThings 34 = .ok (.aload_n 0, 1) := by decide +kernel
theorem dX8_fittingThings_35 : decode cX8_fittingThings 35 = .ok (.getfield 33, 3) := by decide +kernel
theorem dX8_fittingThings_38 : decode cX8_fittingThings 38 = .ok (.aload_n 0, 1) := by decide +kernel
theorem dX8_fittingThings_39 : decode cX8_fittingThings 39 = .ok (.getfield 37, 3) := by decide +kernel
theorem dX8_fittingThings_42 : decode cX8_fittingThings 42 = .ok (.iload_n 2, 1) := by decide +kernel
theorem dX8_fittingThings_43 : decode cX8_fittingThings 43 = .ok (.invokevirtual 340, 3) := by decide +kernel
theorem dX8_fittingThings_46 : decode cX8_fittingThings 46 = .ok (.aload_n 0, 1) := by decide +kernel
theorem dX8_fittingThings_47 : decode cX8_fittingThings 47 = .ok (.getfield 57, 3) := by decide +kernel
theorem dX8_fittingThings_50 : decode cX8_fittingThings 50 = .ok (.invokevirtual 344, 3) := by decide +kernel
theorem dX8_fittingThings_53 : decode cX8_fittingThings 53 = .ok (.ifCond .eq 9, 3) := by decide +kernel
theorem dX8_fittingThings_56 : decode cX8_fittingThings 56 = .ok (.iload_n 1, 1) := by decide +kernel
theorem dX8_fittingThings_57 : decode cX8_fittingThings 57 = .ok (.iconst 1, 1) := by decide +kernel
theorem dX8_fittingThings_58 : decode cX8_fittingThings 58 = .ok (.iload_n 2, 1) := by decide +kernel
theorem dX8_fittingThings_59 : decode cX8_fittingThings 59 = .ok (.ishl, 1) := by decide +kernel
theorem dX8_fittingThings_60 : decode cX8_fittingThings 60 = .ok (.ior, 1) := by decide +kernel
theorem dX8_fittingThings_61 : decode cX8_fittingThings 61 = .ok (.istore_n 1, 1) := by decide +kernel
theorem dX8_fittingThings_62 : decode cX8_fittingThings 62 = .ok (.iinc 2 1, 3) := by decide +kernel
theorem dX8_fittingThings_65 : decode cX8_fittingThings 65 = .ok (.goto (-61), 3) := by decide +kernel
theorem dX8_fittingThings_68 : decode cX8_fittingThings 68 = .ok (.iload_n 1, 1) := by decide +kernel
theorem dX8_fittingThings_69 : decode cX8_fittingThings 69 = .ok (.ireturn, 1) := by decide +kernel
theorem dX8_isFewer_0 : decode cX8_isFewer 0 = .ok (.iload_n 1, 1) := by decide +kernel
theorem dX8_isFewer_1 : decode cX8_isFewer 1 = .ok (.ifCond .lt 14, 3) := by decide +kernel
theorem dX8_isFewer_4 : decode cX8_isFewer 4 = .ok (.iload_n 0, 1) := by decide +kernel
theorem dX8_isFewer_5 : decode cX8_isFewer 5 = .ok (.invokestatic 189, 3) := by decide +kernel
theorem dX8_isFewer_8 : decode cX8_isFewer 8 = .ok (.iload_n 1, 1) := by decide +kernel
theorem dX8_isFewer_9 : decode cX8_isFewer 9 = .ok (.invokestatic 189, 3) := by decide +kernel
theorem dX8_isFewer_12 : decode cX8_isFewer 12 = .ok (.if_icmp .ge 7, 3) := by decide +kernel
theorem dX8_isFewer_15 : decode cX8_isFewer 15 = .ok (.iconst 1, 1) := by decide +kernel
theorem dX8_isFewer_16 : decode cX8_isFewer 16 = .ok (.goto 4, 3) := by decide +kernel
theorem dX8_isFewer_19 : decode cX8_isFewer 19 = .ok (.iconst 0, 1) := by decide +kernel
theorem dX8_isFewer_20 : decode cX8_isFewer 20 = .ok (.ireturn, 1) := by decide +kernel
theorem dX8_heaviestOf_0 : decode cX8_heaviestOf 0 = .ok (.iconst 0, 1) := by decide +kernel
theorem dX8_heaviestOf_1 : decode cX8_heaviestOf 1 = .ok (.istore_n 2, 1) := by decide +kernel
theorem dX8_heaviestOf_2 : decode cX8_heaviestOf 2 = .ok (.iconst 0, 1) := by decide +kernel
theorem dX8_heaviestOf_3 : decode cX8_heaviestOf 3 = .ok (.istore_n 3, 1) := by decide +kernel
theorem dX8_heaviestOf_4 : decode cX8_heaviestOf 4 = .ok (.iconst 0, 1) := by decide +kernel
theorem dX8_heaviestOf_5 : decode cX8_heaviestOf 5 = .ok (.istore 4, 2) := by decide +kernel
theorem dX8_heaviestOf_7 : decode cX8_heaviestOf 7 = .ok (.iload 4, 2) := by decide +kernel
theorem dX8_heaviestOf_9 : decode cX8_heaviestOf 9 = .ok (.bipush 8, 2) := by decide +kernel
theorem dX8_heaviestOf_11 : decode cX8_heaviestOf 11 = .ok (.if_icmp .ge 42, 3) := by decide +kernel
theorem dX8_heaviestOf_14 : decode cX8_heaviestOf 14 = .ok (.iload_n 1, 1) := by decide +kernel
theorem dX8_heaviestOf_15 : decode cX8_heaviestOf 15 = .ok (.iload 4, 2) := by decide +kernel
theorem dX8_heaviestOf_17 : decode cX8_heaviestOf 17 = .ok (.ishr, 1) := by decide +kernel
theorem dX8_heaviestOf_18 : decode cX8_heaviestOf 18 = .ok (.iconst 1, 1) := by decide +kernel
theorem dX8_heaviestOf_19 : decode cX8_heaviestOf 19 = .ok (.iand, 1) := by decide +kernel
theorem dX8_heaviestOf_20 : decode cX8_heaviestOf 20 = .ok (.iconst 1, 1) := by decide +kernel
theorem dX8_heaviestOf_21 : decode cX8_heaviestOf 21 = .ok (.if_icmp .ne 26, 3) := by decide +kernel
theorem dX8_heaviestOf_24 : decode cX8_heaviestOf 24 = .ok (.iload_n 3, 1) := by decide +kernel
theorem dX8_heaviestOf_25 : decode cX8_heaviestOf 25 = .ok (.ifCond .eq 17, 3) := by decide +kernel
theorem dX8_heaviestOf_28 : decode cX8_heaviestOf 28 = .ok (.aload_n 0, 1) := by decide +kernel
theorem dX8_heaviestOf_29 : decode cX8_heaviestOf 29 = .ok (.iload 4, 2) := by decide +kernel
theorem dX8_heaviestOf_31 : decode cX8_heaviestOf 31 = .ok (.invokevirtual 440, 3) := by decide +kernel
theorem dX8_heaviestOf_34 : decode cX8_heaviestOf 34 = .ok (.aload_n 0, 1) := by decide +kernel
theorem dX8_heaviestOf_35 : decode cX8_heaviestOf 35 = .ok (.iload_n 2, 1) := by decide +kernel
theorem dX8_heaviestOf_36 : decode cX8_heaviestOf 36 = .ok (.invokevirtual 440, 3) := by decide +kernel
theorem dX8_heaviestOf_39 : decode cX8_heaviestOf 39 = .ok (.if_icmp .le 8, 3) := by decide +kernel
theorem dX8_heaviestOf_42 : decode cX8_heaviestOf 42 = .ok (.iload 4, 2) := by decide +kernel
theorem dX8_heaviestOf_44 : decode cX8_heaviestOf 44 = .ok (.istore_n 2, 1) := by decide +kernel
theorem dX8_heaviestOf_45 : decode cX8_heaviestOf 45 = .ok (.iconst 1, 1) := by decide +kernel
theorem dX8_heaviestOf_46 : decode cX8_heaviestOf 46 = .ok (.istore_n 3, 1) := by decide +kernel
theorem dX8_heaviestOf_47 : decode cX8_heaviestOf 47 = .ok (.iinc 4 1, 3) := by decide +kernel
theorem dX8_heaviestOf_50 : decode cX8_heaviestOf 50 = .ok (.goto (-43), 3) := by decide +kernel
theorem dX8_heaviestOf_53 : decode cX8_heaviestOf 53 = .ok (.iload_n 2, 1) := by decide +kernel
theorem dX8_heaviestOf_54 : decode cX8_heaviestOf 54 = .ok (.ireturn, 1) := by decide +kernel
theorem dX8_excessOf_0 : decode cX8_excessOf 0 = .ok (.aload_n 0, 1) := by decide +kernel
theorem dX8_excessOf_1 : decode cX8_excessOf 1 = .ok (.getfield 33, 3) := by decide +kernel
theorem dX8_excessOf_4 : decode cX8_excessOf 4 = .ok (.getfield 151, 3) := by decide +kernel
theorem dX8_excessOf_7 : decode cX8_excessOf 7 = .ok (.iload_n 1, 1) := by decide +kernel
theorem dX8_excessOf_8 : decode cX8_excessOf 8 = .ok (.iaload, 1) := by decide +kernel
theorem dX8_excessOf_9 : decode cX8_excessOf 9 = .ok (.aload_n 0, 1) := by decide +kernel
theorem dX8_excessOf_10 : decode cX8_excessOf 10 = .ok (.getfield 26, 3) := by decide +kernel
theorem dX8_excessOf_13 : decode cX8_excessOf 13 = .ok (.getfield 171, 3) := by decide +kernel
theorem dX8_excessOf_16 : decode cX8_excessOf 16 = .ok (.iload_n 1, 1) := by decide +kernel
theorem dX8_excessOf_17 : decode cX8_excessOf 17 = .ok (.iaload, 1) := by decide +kernel
theorem dX8_excessOf_18 : decode cX8_excessOf 18 = .ok (.isub, 1) := by decide +kernel
theorem dX8_excessOf_19 : decode cX8_excessOf 19 = .ok (.ireturn, 1) := by decide +kernel
theorem dX8_tallyStorm_0 : decode cX8_tallyStorm 0 = .ok (.aload_n 0, 1) := by decide +kernel
theorem dX8_tallyStorm_1 : decode cX8_tallyStorm 1 = .ok (.aload_n 0, 1) := by decide +kernel
theorem dX8_tallyStorm_2 : decode cX8_tallyStorm 2 = .ok (.getfield 33, 3) := by decide +kernel
theorem dX8_tallyStorm_5 : decode cX8_tallyStorm 5 = .ok (.iload_n 1, 1) := by decide +kernel
theorem dX8_tallyStorm_6 : decode cX8_tallyStorm 6 = .ok (.invokevirtual 177, 3) := by decide +kernel
theorem dX8_tallyStorm_9 : decode cX8_tallyStorm 9 = .ok (.invokevirtual 443, 3) := by decide +kernel
theorem dX8_tallyStorm_12 : decode cX8_tallyStorm 12 = .ok (.istore_n 2, 1) := by decide +kernel
theorem dX8_tallyStorm_13 : decode cX8_tallyStorm 13 = .ok (.iconst 0, 1) := by decide +kernel
theorem dX8_tallyStorm_14 : decode cX8_tallyStorm 14 = .ok (.istore_n 3, 1) := by decide +kernel
theorem dX8_tallyStorm_15 : decode cX8_tallyStorm 15 = .ok (.iload_n 3, 1) := by decide +kernel
theorem dX8_tallyStorm_16 : decode cX8_tallyStorm 16 = .ok (.iload_n 2, 1) := by decide +kernel
theorem dX8_tallyStorm_17 : decode cX8_tallyStorm 17 = .ok (.if_icmp .gt 16, 3) := by decide +kernel
theorem dX8_tallyStorm_20 : decode cX8_tallyStorm 20 = .ok (.aload_n 0, 1) := by decide +kernel
theorem dX8_tallyStorm_21 : decode cX8_tallyStorm 21 = .ok (.getfield 71, 3) := by decide +kernel
theorem dX8_tallyStorm_24 : decode cX8_tallyStorm 24 = .ok (.iload_n 3, 1) := by decide +kernel
theorem dX8_tallyStorm_25 : decode cX8_tallyStorm 25 = .ok (.iconst 0, 1) := by decide +kernel
theorem dX8_tallyStorm_26 : decode cX8_tallyStorm 26 = .ok (.iastore, 1) := by decide +kernel
theorem dX8_tallyStorm_27 : decode cX8_tallyStorm 27 = .ok (.iinc 3 1, 3) := by decide +kernel
theorem dX8_tallyStorm_30 : decode cX8_tallyStorm 30 = .ok (.goto (-15), 3) := by decide +kernel
theorem dX8_tallyStorm_33 : decode cX8_tallyStorm 33 = .ok (.iconst 0, 1) := by decide +kernel
theorem dX8_tallyStorm_34 : decode cX8_tallyStorm 34 = .ok (.istore_n 3, 1) := by decide +kernel
theorem dX8_tallyStorm_35 : decode cX8_tallyStorm 35 = .ok (.iload_n 3, 1) := by decide +kernel
theorem dX8_tallyStorm_36 : decode cX8_tallyStorm 36 = .ok (.iconst 1, 1) := by decide +kernel
theorem dX8_tallyStorm_37 : decode cX8_tallyStorm 37 = .ok (.iload_n 2, 1) := by decide +kernel
theorem dX8_tallyStorm_38 : decode cX8_tallyStorm 38 = .ok (.ishl, 1) := by decide +kernel
theorem dX8_tallyStorm_39 : decode cX8_tallyStorm 39 = .ok (.if_icmp .ge 99, 3) := by decide +kernel
theorem dX8_tallyStorm_42 : decode cX8_tallyStorm 42 = .ok (.aload_n 0, 1) := by decide +kernel
theorem dX8_tallyStorm_43 : decode cX8_tallyStorm 43 = .ok (.getfield 37, 3) := by decide +kernel
theorem dX8_tallyStorm_46 : decode cX8_tallyStorm 46 = .ok (.invokevirtual 446, 3) := by decide +kernel
theorem dX8_tallyStorm_49 : decode cX8_tallyStorm 49 = .ok (.iconst 0, 1) := by decide +kernel
theorem dX8_tallyStorm_50 : decode cX8_tallyStorm 50 = .ok (.istore 4, 2) := by decide +kernel
theorem dX8_tallyStorm_52 : decode cX8_tallyStorm 52 = .ok (.iload 4, 2) := by decide +kernel
theorem dX8_tallyStorm_54 : decode cX8_tallyStorm 54 = .ok (.iload_n 2, 1) := by decide +kernel
theorem dX8_tallyStorm_55 : decode cX8_tallyStorm 55 = .ok (.if_icmp .ge 40, 3) := by decide +kernel
theorem dX8_tallyStorm_58 : decode cX8_tallyStorm 58 = .ok (.iload_n 3, 1) := by decide +kernel
theorem dX8_tallyStorm_59 : decode cX8_tallyStorm 59 = .ok (.iload 4, 2) := by decide +kernel
theorem dX8_tallyStorm_61 : decode cX8_tallyStorm 61 = .ok (.ishr, 1) := by decide +kernel
theorem dX8_tallyStorm_62 : decode cX8_tallyStorm 62 = .ok (.iconst 1, 1) := by decide +kernel
theorem dX8_tallyStorm_63 : decode cX8_tallyStorm 63 = .ok (.iand, 1) := by decide +kernel
theorem dX8_tallyStorm_64 : decode cX8_tallyStorm 64 = .ok (.iconst 1, 1) := by decide +kernel
theorem dX8_tallyStorm_65 : decode cX8_tallyStorm 65 = .ok (.if_icmp .ne 24, 3) := by decide +kernel
theorem dX8_tallyStorm_68 : decode cX8_tallyStorm 68 = .ok (.aload_n 0, 1) := by decide +kernel
theorem dX8_tallyStorm_69 : decode cX8_tallyStorm 69 = .ok (.getfield 37, 3) := by decide +kernel
theorem dX8_tallyStorm_72 : decode cX8_tallyStorm 72 = .ok (.aload_n 0, 1) := by decide +kernel
theorem dX8_tallyStorm_73 : decode cX8_tallyStorm 73 = .ok (.getfield 74, 3) := by decide +kernel
theorem dX8_tallyStorm_76 : decode cX8_tallyStorm 76 = .ok (.iload 4, 2) := by decide +kernel
theorem dX8_tallyStorm_78 : decode cX8_tallyStorm 78 = .ok (.iaload, 1) := by decide +kernel
theorem dX8_tallyStorm_79 : decode cX8_tallyStorm 79 = .ok (.aload_n 0, 1) := by decide +kernel
theorem dX8_tallyStorm_80 : decode cX8_tallyStorm 80 = .ok (.getfield 77, 3) := by decide +kernel
theorem dX8_tallyStorm_83 : decode cX8_tallyStorm 83 = .ok (.iload 4, 2) := by decide +kernel
theorem dX8_tallyStorm_85 : decode cX8_tallyStorm 85 = .ok (.iaload, 1) := by decide +kernel
theorem dX8_tallyStorm_86 : decode cX8_tallyStorm 86 = .ok (.invokevirtual 437, 3) := by decide +kernel
theorem dX8_tallyStorm_89 : decode cX8_tallyStorm 89 = .ok (.iinc 4 1, 3) := by decide +kernel
theorem dX8_tallyStorm_92 : decode cX8_tallyStorm 92 = .ok (.goto (-40), 3) := by decide +kernel
theorem dX8_tallyStorm_95 : decode cX8_tallyStorm 95 = .ok (.aload_n 0, 1) := by decide +kernel
theorem dX8_tallyStorm_96 : decode cX8_tallyStorm 96 = .ok (.getfield 26, 3) := by decide +kernel
theorem dX8_tallyStorm_99 : decode cX8_tallyStorm 99 = .ok (.aload_n 0, 1) := by decide +kernel
theorem dX8_tallyStorm_100 : decode cX8_tallyStorm 100 = .ok (.getfield 33, 3) := by decide +kernel
theorem dX8_tallyStorm_103 : decode cX8_tallyStorm 103 = .ok (.aload_n 0, 1) := by decide +kernel
theorem dX8_tallyStorm_104 : decode cX8_tallyStorm 104 = .ok (.getfield 37, 3) := by decide +kernel
theorem dX8_tallyStorm_107 : decode cX8_tallyStorm 107 = .ok (.iload_n 1, 1) := by decide +kernel
theorem dX8_tallyStorm_108 : decode cX8_tallyStorm 108 = .ok (.invokevirtual 177, 3) := by decide +kernel
theorem dX8_tallyStorm_111 : decode cX8_tallyStorm 111 = .ok (.invokevirtual 273, 3) := by decide +kernel
theorem dX8_tallyStorm_114 : decode cX8_tallyStorm 114 = .ok (.ifCond .lt 18, 3) := by decide +kernel
theorem dX8_tallyStorm_117 : decode cX8_tallyStorm 117 = .ok (.aload_n 0, 1) := by decide +kernel
theorem dX8_tallyStorm_118 : decode cX8_tallyStorm 118 = .ok (.getfield 71, 3) := by decide +kernel
theorem dX8_tallyStorm_121 : decode cX8_tallyStorm 121 = .ok (.iload_n 2, 1) := by decide +kernel
theorem dX8_tallyStorm_122 : decode cX8_tallyStorm 122 = .ok (.iload_n 3, 1) := by decide +kernel
theorem dX8_tallyStorm_123 : decode cX8_tallyStorm 123 = .ok (.invokestatic 189, 3) := by decide +kernel
theorem dX8_tallyStorm_126 : decode cX8_tallyStorm 126 = .ok (.isub, 1) := by decide +kernel
theorem dX8_tallyStorm_127 : decode cX8_tallyStorm 127 = .ok (.dup2, 1) := by decide +kernel
theorem dX8_tallyStorm_128 : decode cX8_tallyStorm 128 = .ok (.iaload, 1) := by decide +kernel
theorem dX8_tallyStorm_129 : decode cX8_tallyStorm 129 = .ok (.iconst 1, 1) := by decide +kernel
theorem dX8_tallyStorm_130 : decode cX8_tallyStorm 130 = .ok (.iadd, 1) := by decide +kernel
theorem dX8_tallyStorm_131 : decode cX8_tallyStorm 131 = .ok (.iastore, 1) := by decide +kernel
theorem dX8_tallyStorm_132 : decode cX8_tallyStorm 132 = .ok (.iinc 3 1, 3) := by decide +kernel
theorem dX8_tallyStorm_135 : decode cX8_tallyStorm 135 = .ok (.goto (-100), 3) := by decide +kernel
theorem dX8_tallyStorm_138 : decode cX8_tallyStorm 138 = .ok (.iload_n 2, 1) := by decide +kernel
theorem dX8_tallyStorm_139 : decode cX8_tallyStorm 139 = .ok (.ireturn, 1) := by decide +kernel
theorem dX8_listStrings_0 : decode cX8_listStrings 0 = .ok (.iconst 0, 1) := by decide +kernel
theorem dX8_listStrings_1 : decode cX8_listStrings 1 = .ok (.istore_n 2, 1) := by decide +kernel
theorem dX8_listStrings_2 : decode cX8_listStrings 2 = .ok (.iconst 0, 1) := by decide +kernel
theorem dX8_listStrings_3 : decode cX8_listStrings 3 = .ok (.istore_n 3, 1) := by decide +kernel
theorem dX8_listStrings_4 : decode cX8_listStrings 4 = .ok (.iload_n 3, 1) := by decide +kernel
theorem dX8_listStrings_5 : decode cX8_listStrings 5 = .ok (.bipush 8, 2) := by decide +kernel
theorem dX8_listStrings_7 : decode cX8_listStrings 7 = .ok (.if_icmp .ge 85, 3) := by decide +kernel
theorem dX8_listStrings_10 : decode cX8_listStrings 10 = .ok (.iload_n 3, 1) := by decide +kernel
theorem dX8_listStrings_11 : decode cX8_listStrings 11 = .ok (.iconst 1, 1) := by decide +kernel
theorem dX8_listStrings_12 : decode cX8_listStrings 12 = .ok (.iadd, 1) := by decide +kernel
theorem dX8_listStrings_13 : decode cX8_listStrings 13 = .ok (.istore 4, 2) := by decide +kernel
theorem dX8_listStrings_15 : decode cX8_listStrings 15 = .ok (.iload 4, 2) := by decide +kernel
theorem dX8_listStrings_17 : decode cX8_listStrings 17 = .ok (.bipush 8, 2) := by decide +kernel
theorem dX8_listStrings_19 : decode cX8_listStrings 19 = .ok (.if_icmp .ge 67, 3) := by decide +kernel
theorem dX8_listStrings_22 : decode cX8_listStrings 22 = .ok (.iload_n 1, 1) := by decide +kernel
theorem dX8_listStrings_23 : decode cX8_listStrings 23 = .ok (.iload_n 3, 1) := by decide +kernel
theorem dX8_listStrings_24 : decode cX8_listStrings 24 = .ok (.ishr, 1) := by decide +kernel
theorem dX8_listStrings_25 : decode cX8_listStrings 25 = .ok (.iconst 1, 1) := by decide +kernel
theorem dX8_listStrings_26 : decode cX8_listStrings 26 = .ok (.iand, 1) := by decide +kernel
theorem dX8_listStrings_27 : decode cX8_listStrings 27 = .ok (.iconst 1, 1) := by decide +kernel
theorem dX8_listStrings_28 : decode cX8_listStrings 28 = .ok (.if_icmp .ne 20, 3) := by decide +kernel
theorem dX8_listStrings_31 : decode cX8_listStrings 31 = .ok (.aload_n 0, 1) := by decide +kernel
theorem dX8_listStrings_32 : decode cX8_listStrings 32 = .ok (.getfield 33, 3) := by decide +kernel
theorem dX8_listStrings_35 : decode cX8_listStrings 35 = .ok (.iload_n 3, 1) := by decide +kernel
theorem dX8_listStrings_36 : decode cX8_listStrings 36 = .ok (.iload 4, 2) := by decide +kernel
theorem dX8_listStrings_38 : decode cX8_listStrings 38 = .ok (.invokevirtual 292, 3) := by decide +kernel
theorem dX8_listStrings_41 : decode cX8_listStrings 41 = .ok (.ifCond .eq 7, 3) := by decide +kernel
theorem dX8_listStrings_44 : decode cX8_listStrings 44 = .ok (.iconst 1, 1) := by decide +kernel
theorem dX8_listStrings_45 : decode cX8_listStrings 45 = .ok (.goto 4, 3) := by decide +kernel
theorem dX8_listStrings_48 : decode cX8_listStrings 48 = .ok (.iconst 0, 1) := by decide +kernel
theorem dX8_listStrings_49 : decode cX8_listStrings 49 = .ok (.istore 5, 2) := by decide +kernel
theorem dX8_listStrings_51 : decode cX8_listStrings 51 = .ok (.iload 5, 2) := by decide +kernel
theorem dX8_listStrings_53 : decode cX8_listStrings 53 = .ok (.ifCond .eq 27, 3) := by decide +kernel
theorem dX8_listStrings_56 : decode cX8_listStrings 56 = .ok (.iload_n 2, 1) := by decide +kernel
theorem dX8_listStrings_57 : decode cX8_listStrings 57 = .ok (.bipush 12, 2) := by decide +kernel
theorem dX8_listStrings_59 : decode cX8_listStrings 59 = .ok (.if_icmp .ge 21, 3) := by decide +kernel
theorem dX8_listStrings_62 : decode cX8_listStrings 62 = .ok (.aload_n 0, 1) := by decide +kernel
theorem dX8_listStrings_63 : decode cX8_listStrings 63 = .ok (.getfield 74, 3) := by decide +kernel
theorem dX8_listStrings_66 : decode cX8_listStrings 66 = .ok (.iload_n 2, 1) := by decide +kernel
theorem dX8_listStrings_67 : decode cX8_listStrings 67 = .ok (.iload_n 3, 1) := by decide +kernel
theorem dX8_listStrings_68 : decode cX8_listStrings 68 = .ok (.iastore, 1) := by decide +kernel
theorem dX8_listStrings_69 : decode cX8_listStrings 69 = .ok (.aload_n 0, 1) := by decide +kernel
theorem dX8_listStrings_70 : decode cX8_listStrings 70 = .ok (.getfield 77, 3) := by decide +kernel
theorem dX8_listStrings_73 : decode cX8_listStrings 73 = .ok (.iload_n 2, 1) := by decide +kernel
theorem dX8_listStrings_74 : decode cX8_listStrings 74 = .ok (.iload 4, 2) := by decide +kernel
theorem dX8_listStrings_76 : decode cX8_listStrings 76 = .ok (.iastore, 1) := by decide +kernel
theorem dX8_listStrings_77 : decode cX8_listStrings 77 = .ok (.iinc 2 1, 3) := by decide +kernel
theorem dX8_listStrings_80 : decode cX8_listStrings 80 = .ok (.iinc 4 1, 3) := by decide +kernel
theorem dX8_listStrings_83 : decode cX8_listStrings 83 = .ok (.goto (-68), 3) := by decide +kernel
theorem dX8_listStrings_86 : decode cX8_listStrings 86 = .ok (.iinc 3 1, 3) := by decide +kernel
theorem dX8_listStrings_89 : decode cX8_listStrings 89 = .ok (.goto (-85), 3) := by decide +kernel
theorem dX8_listStrings_92 : decode cX8_listStrings 92 = .ok (.iload_n 2, 1) := by decide +kernel
theorem dX8_listStrings_93 : decode cX8_listStrings 93 = .ok (.ireturn, 1) := by decide +kernel
theorem dX8_power_0 : decode cX8_power 0 = .ok (.lconst 1, 1) := by decide +kernel
theorem dX8_power_1 : decode cX8_power 1 = .ok (.lstore_n 2, 1) := by decide +kernel
theorem dX8_power_2 : decode cX8_power 2 = .ok (.iconst 0, 1) := by decide +kernel
theorem dX8_power_3 : decode cX8_power 3 = .ok (.istore 4, 2) := by decide +kernel
theorem dX8_power_5 : decode cX8_power 5 = .ok (.iload 4, 2) := by decide +kernel
theorem dX8_power_7 : decode cX8_power 7 = .ok (.iload_n 1, 1) := by decide +kernel
theorem dX8_power_8 : decode cX8_power 8 = .ok (.if_icmp .ge 14, 3) := by decide +kernel
theorem dX8_power_11 : decode cX8_power 11 = .ok (.lload_n 2, 1) := by decide +kernel
theorem dX8_power_12 : decode cX8_power 12 = .ok (.iload_n 0, 1) := by decide +kernel
theorem dX8_power_13 : decode cX8_power 13 = .ok (.i2l, 1) := by decide +kernel
theorem dX8_power_14 : decode cX8_power 14 = .ok (.lmul, 1) := by decide +kernel
theorem dX8_power_15 : decode cX8_power 15 = .ok (.lstore_n 2, 1) := by decide +kernel
theorem dX8_power_16 : decode cX8_power 16 = .ok (.iinc 4 1, 3) := by decide +kernel
theorem dX8_power_19 : decode cX8_power 19 = .ok (.goto (-14), 3) := by decide +kernel
theorem dX8_power_22 : decode cX8_power 22 = .ok (.lload_n 2, 1) := by decide +kernel
theorem dX8_power_23 : decode cX8_power 23 = .ok (.lreturn, 1) := by decide +kernel
theorem dX8_commonDivisor_0 : decode cX8_commonDivisor 0 = .ok (.lload_n 0, 1) := by decide +kernel
theorem dX8_commonDivisor_1 : decode cX8_commonDivisor 1 = .ok (.lstore 4, 2) := by decide +kernel
theorem dX8_commonDivisor_3 : decode cX8_commonDivisor 3 = .ok (.lload_n 2, 1) := by decide +kernel
theorem dX8_commonDivisor_4 : decode cX8_commonDivisor 4 = .ok (.lstore 6, 2) := by decide +kernel
theorem dX8_commonDivisor_6 : decode cX8_commonDivisor 6 = .ok (.iconst 0, 1) := by decide +kernel
theorem dX8_commonDivisor_7 : decode cX8_commonDivisor 7 = .ok (.istore 8, 2) := by decide +kernel
theorem dX8_commonDivisor_9 : decode cX8_commonDivisor 9 = .ok (.iload 8, 2) := by decide +kernel
theorem dX8_commonDivisor_11 : decode cX8_commonDivisor 11 = .ok (.sipush 1000, 3) := by decide +kernel
theorem dX8_commonDivisor_14 : decode cX8_commonDivisor 14 = .ok (.if_icmp .ge 31, 3) := by decide +kernel
theorem dX8_commonDivisor_17 : decode cX8_commonDivisor 17 = .ok (.lload 6, 2) := by decide +kernel
theorem dX8_commonDivisor_19 : decode cX8_commonDivisor 19 = .ok (.lconst 0, 1) := by decide +kernel
theorem dX8_commonDivisor_20 : decode cX8_commonDivisor 20 = .ok (.lcmp, 1) := by decide +kernel
theorem dX8_commonDivisor_21 : decode cX8_commonDivisor 21 = .ok (.ifCond .eq 24, 3) := by decide +kernel
theorem dX8_commonDivisor_24 : decode cX8_commonDivisor 24 = .ok (.lload 4, 2) := by decide +kernel
theorem dX8_commonDivisor_26 : decode cX8_commonDivisor 26 = .ok (.lload 6, 2) := by decide +kernel
theorem dX8_commonDivisor_28 : decode cX8_commonDivisor 28 = .ok (.lrem, 1) := by decide +kernel
theorem dX8_commonDivisor_29 : decode cX8_commonDivisor 29 = .ok (.lstore 9, 2) := by decide +kernel
theorem dX8_commonDivisor_31 : decode cX8_commonDivisor 31 = .ok (.lload 6, 2) := by decide +kernel
theorem dX8_commonDivisor_33 : decode cX8_commonDivisor 33 = .ok (.lstore 4, 2) := by decide +kernel
theorem dX8_commonDivisor_35 : decode cX8_commonDivisor 35 = .ok (.lload 9, 2) := by decide +kernel
theorem dX8_commonDivisor_37 : decode cX8_commonDivisor 37 = .ok (.lstore 6, 2) := by decide +kernel
theorem dX8_commonDivisor_39 : decode cX8_commonDivisor 39 = .ok (.iinc 8 1, 3) := by decide +kernel
theorem dX8_commonDivisor_42 : decode cX8_commonDivisor 42 = .ok (.goto (-33), 3) := by decide +kernel
theorem dX8_commonDivisor_45 : decode cX8_commonDivisor 45 = .ok (.lload 4, 2) := by decide +kernel
theorem dX8_commonDivisor_47 : decode cX8_commonDivisor 47 = .ok (.lreturn, 1) := by decide +kernel
theorem dX8_winningMove_0 : decode cX8_winningMove 0 = .ok (.iconst 0, 1) := by decide +kernel
theorem dX8_winningMove_1 : decode cX8_winningMove 1 = .ok (.istore_n 3, 1) := by decide +kernel
theorem dX8_winningMove_2 : decode cX8_winningMove 2 = .ok (.iload_n 3, 1) := by decide +kernel
theorem dX8_winningMove_3 : decode cX8_winningMove 3 = .ok (.getstatic 377, 3) := by decide +kernel
theorem dX8_winningMove_6 : decode cX8_winningMove 6 = .ok (.arraylength, 1) := by decide +kernel
theorem dX8_winningMove_7 : decode cX8_winningMove 7 = .ok (.if_icmp .ge 55, 3) := by decide +kernel
theorem dX8_winningMove_10 : decode cX8_winningMove 10 = .ok (.iload_n 1, 1) := by decide +kernel
theorem dX8_winningMove_11 : decode cX8_winningMove 11 = .ok (.getstatic 377, 3) := by decide +kernel
theorem dX8_winningMove_14 : decode cX8_winningMove 14 = .ok (.iload_n 3, 1) := by decide +kernel
theorem dX8_winningMove_15 : decode cX8_winningMove 15 = .ok (.iaload, 1) := by decide +kernel
theorem dX8_winningMove_16 : decode cX8_winningMove 16 = .ok (.isub, 1) := by decide +kernel
theorem dX8_winningMove_17 : decode cX8_winningMove 17 = .ok (.istore 4, 2) := by decide +kernel
theorem dX8_winningMove_19 : decode cX8_winningMove 19 = .ok (.iload_n 2, 1) := by decide +kernel
theorem dX8_winningMove_20 : decode cX8_winningMove 20 = .ok (.getstatic 380, 3) := by decide +kernel
theorem dX8_winningMove_23 : decode cX8_winningMove 23 = .ok (.iload_n 3, 1) := by decide +kernel
theorem dX8_winningMove_24 : decode cX8_winningMove 24 = .ok (.iaload, 1) := by decide +kernel
theorem dX8_winningMove_25 : decode cX8_winningMove 25 = .ok (.isub, 1) := by decide +kernel
theorem dX8_winningMove_26 : decode cX8_winningMove 26 = .ok (.istore 5, 2) := by decide +kernel
theorem dX8_winningMove_28 : decode cX8_winningMove 28 = .ok (.iload 4, 2) := by decide +kernel
theorem dX8_winningMove_30 : decode cX8_winningMove 30 = .ok (.ifCond .lt 26, 3) := by decide +kernel
theorem dX8_winningMove_33 : decode cX8_winningMove 33 = .ok (.iload 5, 2) := by decide +kernel
theorem dX8_winningMove_35 : decode cX8_winningMove 35 = .ok (.ifCond .lt 21, 3) := by decide +kernel
theorem dX8_winningMove_38 : decode cX8_winningMove 38 = .ok (.aload_n 0, 1) := by decide +kernel
theorem dX8_winningMove_39 : decode cX8_winningMove 39 = .ok (.getfield 80, 3) := by decide +kernel
theorem dX8_winningMove_42 : decode cX8_winningMove 42 = .ok (.iload 4, 2) := by decide +kernel
theorem dX8_winningMove_44 : decode cX8_winningMove 44 = .ok (.bipush 21, 2) := by decide +kernel
theorem dX8_winningMove_46 : decode cX8_winningMove 46 = .ok (.imul, 1) := by decide +kernel
theorem dX8_winningMove_47 : decode cX8_winningMove 47 = .ok (.iload 5, 2) := by decide +kernel
theorem dX8_winningMove_49 : decode cX8_winningMove 49 = .ok (.iadd, 1) := by decide +kernel
theorem dX8_winningMove_50 : decode cX8_winningMove 50 = .ok (.baload, 1) := by decide +kernel
theorem dX8_winningMove_51 : decode cX8_winningMove 51 = .ok (.ifCond .eq 5, 3) := by decide +kernel
theorem dX8_winningMove_54 : decode cX8_winningMove 54 = .ok (.iload_n 3, 1) := by decide +kernel
theorem dX8_winningMove_55 : decode cX8_winningMove 55 = .ok (.ireturn, 1) := by decide +kernel
theorem dX8_winningMove_56 : decode cX8_winningMove 56 = .ok (.iinc 3 1, 3) := by decide +kernel
theorem dX8_winningMove_59 : decode cX8_winningMove 59 = .ok (.goto (-57), 3) := by decide +kernel
theorem dX8_winningMove_62 : decode cX8_winningMove 62 = .ok (.iconst (-1), 1) := by decide +kernel
theorem dX8_winningMove_63 : decode cX8_winningMove 63 = .ok (.ireturn, 1) := by decide +kernel
theorem dX8_isBest_0 : decode cX8_isBest 0 = .ok (.iload_n 0, 1) := by decide +kernel
theorem dX8_isBest_1 : decode cX8_isBest 1 = .ok (.iload_n 1, 1) := by decide +kernel
theorem dX8_isBest_2 : decode cX8_isBest 2 = .ok (.iload_n 2, 1) := by decide +kernel
theorem dX8_isBest_3 : decode cX8_isBest 3 = .ok (.invokestatic 449, 3) := by decide +kernel
theorem dX8_isBest_6 : decode cX8_isBest 6 = .ok (.istore_n 3, 1) := by decide +kernel
theorem dX8_isBest_7 : decode cX8_isBest 7 = .ok (.iconst 0, 1) := by decide +kernel
theorem dX8_isBest_8 : decode cX8_isBest 8 = .ok (.istore 4, 2) := by decide +kernel
theorem dX8_isBest_10 : decode cX8_isBest 10 = .ok (.iload 4, 2) := by decide +kernel
theorem dX8_isBest_12 : decode cX8_isBest 12 = .ok (.bipush 9, 2) := by decide +kernel
theorem dX8_isBest_14 : decode cX8_isBest 14 = .ok (.if_icmp .gt 22, 3) := by decide +kernel
theorem dX8_isBest_17 : decode cX8_isBest 17 = .ok (.iload_n 0, 1) := by decide +kernel
theorem dX8_isBest_18 : decode cX8_isBest 18 = .ok (.iload 4, 2) := by decide +kernel
theorem dX8_isBest_20 : decode cX8_isBest 20 = .ok (.iload_n 2, 1) := by decide +kernel
theorem dX8_isBest_21 : decode cX8_isBest 21 = .ok (.invokestatic 449, 3) := by decide +kernel
theorem dX8_isBest_24 : decode cX8_isBest 24 = .ok (.iload_n 3, 1) := by decide +kernel
theorem dX8_isBest_25 : decode cX8_isBest 25 = .ok (.if_icmp .le 5, 3) := by decide +kernel
theorem dX8_isBest_28 : decode cX8_isBest 28 = .ok (.iconst 0, 1) := by decide +kernel
theorem dX8_isBest_29 : decode cX8_isBest 29 = .ok (.ireturn, 1) := by decide +kernel
theorem dX8_isBest_30 : decode cX8_isBest 30 = .ok (.iinc 4 1, 3) := by decide +kernel
theorem dX8_isBest_33 : decode cX8_isBest 33 = .ok (.goto (-23), 3) := by decide +kernel
theorem dX8_isBest_36 : decode cX8_isBest 36 = .ok (.iconst 1, 1) := by decide +kernel
theorem dX8_isBest_37 : decode cX8_isBest 37 = .ok (.ireturn, 1) := by decide +kernel
theorem dX8_gainOf_0 : decode cX8_gainOf 0 = .ok (.iload_n 1, 1) := by decide +kernel
theorem dX8_gainOf_1 : decode cX8_gainOf 1 = .ok (.iload_n 2, 1) := by decide +kernel
theorem dX8_gainOf_2 : decode cX8_gainOf 2 = .ok (.if_icmp .ne 7, 3) := by decide +kernel
theorem dX8_gainOf_5 : decode cX8_gainOf 5 = .ok (.iload_n 0, 1) := by decide +kernel
theorem dX8_gainOf_6 : decode cX8_gainOf 6 = .ok (.iconst 3, 1) := by decide +kernel
theorem dX8_gainOf_7 : decode cX8_gainOf 7 = .ok (.idiv, 1) := by decide +kernel
theorem dX8_gainOf_8 : decode cX8_gainOf 8 = .ok (.ireturn, 1) := by decide +kernel
theorem dX8_gainOf_9 : decode cX8_gainOf 9 = .ok (.iload_n 1, 1) := by decide +kernel
theorem dX8_gainOf_10 : decode cX8_gainOf 10 = .ok (.iload_n 2, 1) := by decide +kernel
theorem dX8_gainOf_11 : decode cX8_gainOf 11 = .ok (.if_icmp .le 13, 3) := by decide +kernel
theorem dX8_gainOf_14 : decode cX8_gainOf 14 = .ok (.iload_n 0, 1) := by decide +kernel
theorem dX8_gainOf_15 : decode cX8_gainOf 15 = .ok (.iload_n 1, 1) := by decide +kernel
theorem dX8_gainOf_16 : decode cX8_gainOf 16 = .ok (.iload_n 2, 1) := by decide +kernel
theorem dX8_gainOf_17 : decode cX8_gainOf 17 = .ok (.iadd, 1) := by decide +kernel
theorem dX8_gainOf_18 : decode cX8_gainOf 18 = .ok (.iconst 2, 1) := by decide +kernel
theorem dX8_gainOf_19 : decode cX8_gainOf 19 = .ok (.idiv, 1) := by decide +kernel
theorem dX8_gainOf_20 : decode cX8_gainOf 20 = .ok (.isub, 1) := by decide +kernel
theorem dX8_gainOf_21 : decode cX8_gainOf 21 = .ok (.goto 4, 3) := by decide +kernel
theorem dX8_gainOf_24 : decode cX8_gainOf 24 = .ok (.iconst 0, 1) := by decide +kernel
theorem dX8_gainOf_25 : decode cX8_gainOf 25 = .ok (.ireturn, 1) := by decide +kernel
theorem dX8_nextLuck_0 : decode cX8_nextLuck 0 = .ok (.iload_n 0, 1) := by decide +kernel
theorem dX8_nextLuck_1 : decode cX8_nextLuck 1 = .ok (.ldc_w 452, 3) := by decide +kernel
theorem dX8_nextLuck_4 : decode cX8_nextLuck 4 = .ok (.imul, 1) := by decide +kernel
theorem dX8_nextLuck_5 : decode cX8_nextLuck 5 = .ok (.sipush 12345, 3) := by decide +kernel
theorem dX8_nextLuck_8 : decode cX8_nextLuck 8 = .ok (.iadd, 1) := by decide +kernel
theorem dX8_nextLuck_9 : decode cX8_nextLuck 9 = .ok (.ireturn, 1) := by decide +kernel
theorem dX8_drawn_0 : decode cX8_drawn 0 = .ok (.iload_n 1, 1) := by decide +kernel
theorem dX8_drawn_1 : decode cX8_drawn 1 = .ok (.ifCond .le 12, 3) := by decide +kernel
theorem dX8_drawn_4 : decode cX8_drawn 4 = .ok (.iload_n 0, 1) := by decide +kernel
theorem dX8_drawn_5 : decode cX8_drawn 5 = .ok (.bipush 16, 2) := by decide +kernel
theorem dX8_drawn_7 : decode cX8_drawn 7 = .ok (.iushr, 1) := by decide +kernel
theorem dX8_drawn_8 : decode cX8_drawn 8 = .ok (.iload_n 1, 1) := by decide +kernel
theorem dX8_drawn_9 : decode cX8_drawn 9 = .ok (.irem, 1) := by decide +kernel
theorem dX8_drawn_10 : decode cX8_drawn 10 = .ok (.goto 4, 3) := by decide +kernel
theorem dX8_drawn_13 : decode cX8_drawn 13 = .ok (.iconst 0, 1) := by decide +kernel
theorem dX8_drawn_14 : decode cX8_drawn 14 = .ok (.ireturn, 1) := by decide +kernel
theorem dX9_thrown_0 : decode cX9_thrown 0 = .ok (.aload_n 0, 1) := by decide +kernel
theorem dX9_thrown_1 : decode cX9_thrown 1 = .ok (.getfield 3, 3) := by decide +kernel
theorem dX9_thrown_4 : decode cX9_thrown 4 = .ok (.ireturn, 1) := by decide +kernel
theorem dX9_refuse_0 : decode cX9_refuse 0 = .ok (.aload_n 0, 1) := by decide +kernel
theorem dX9_refuse_1 : decode cX9_refuse 1 = .ok (.iconst 1, 1) := by decide +kernel
theorem dX9_refuse_2 : decode cX9_refuse 2 = .ok (.putfield 3, 3) := by decide +kernel
theorem dX9_refuse_5 : decode cX9_refuse 5 = .ok (.iconst 0, 1) := by decide +kernel
theorem dX9_refuse_6 : decode cX9_refuse 6 = .ok (.ireturn, 1) := by decide +kernel
theorem dX9_in_0 : decode cX9_in 0 = .ok (.lload_n 0, 1) := by decide +kernel
theorem dX9_in_1 : decode cX9_in 1 = .ok (.lload_n 2, 1) := by decide +kernel
theorem dX9_in_2 : decode cX9_in 2 = .ok (.lcmp, 1) := by decide +kernel
theorem dX9_in_3 : decode cX9_in 3 = .ok (.ifCond .lt 14, 3) := by decide +kernel
theorem dX9_in_6 : decode cX9_in 6 = .ok (.lload_n 0, 1) := by decide +kernel
theorem dX9_in_7 : decode cX9_in 7 = .ok (.lload 4, 2) := by decide +kernel
theorem dX9_in_9 : decode cX9_in 9 = .ok (.lcmp, 1) := by decide +kernel
theorem dX9_in_10 : decode cX9_in 10 = .ok (.ifCond .gt 7, 3) := by decide +kernel
theorem dX9_in_13 : decode cX9_in 13 = .ok (.iconst 1, 1) := by decide +kernel
theorem dX9_in_14 : decode cX9_in 14 = .ok (.goto 4, 3) := by decide +kernel
theorem dX9_in_17 : decode cX9_in 17 = .ok (.iconst 0, 1) := by decide +kernel
theorem dX9_in_18 : decode cX9_in 18 = .ok (.ireturn, 1) := by decide +kernel
theorem dX9_has_0 : decode cX9_has 0 = .ok (.iload_n 0, 1) := by decide +kernel
theorem dX9_has_1 : decode cX9_has 1 = .ok (.iload_n 1, 1) := by decide +kernel
theorem dX9_has_2 : decode cX9_has 2 = .ok (.ishr, 1) := by decide +kernel
theorem dX9_has_3 : decode cX9_has 3 = .ok (.iconst 1, 1) := by decide +kernel
theorem dX9_has_4 : decode cX9_has 4 = .ok (.iand, 1) := by decide +kernel
theorem dX9_has_5 : decode cX9_has 5 = .ok (.iconst 1, 1) := by decide +kernel
theorem dX9_has_6 : decode cX9_has 6 = .ok (.if_icmp .ne 7, 3) := by decide +kernel
theorem dX9_has_9 : decode cX9_has 9 = .ok (.iconst 1, 1) := by decide +kernel
theorem dX9_has_10 : decode cX9_has 10 = .ok (.goto 4, 3) := by decide +kernel
theorem dX9_has_13 : decode cX9_has 13 = .ok (.iconst 0, 1) := by decide +kernel
theorem dX9_has_14 : decode cX9_has 14 = .ok (.ireturn, 1) := by decide +kernel
theorem dX9_flag_0 : decode cX9_flag 0 = .ok (.iload_n 0, 1) := by decide +kernel
theorem dX9_flag_1 : decode cX9_flag 1 = .ok (.ifCond .eq 7, 3) := by decide +kernel
theorem dX9_flag_4 : decode cX9_flag 4 = .ok (.iconst 1, 1) := by decide +kernel
theorem dX9_flag_5 : decode cX9_flag 5 = .ok (.goto 4, 3) := by decide +kernel
theorem dX9_flag_8 : decode cX9_flag 8 = .ok (.iconst 0, 1) := by decide +kernel
theorem dX9_flag_9 : decode cX9_flag 9 = .ok (.ireturn, 1) := by decide +kernel
theorem dX9_common_0 : decode cX9_common 0 = .ok (.lload_n 2, 1) := by decide +kernel
theorem dX9_common_1 : decode cX9_common 1 = .ok (.lconst 0, 1) := by decide +kernel
theorem dX9_common_2 : decode cX9_common 2 = .ok (.lcmp, 1) := by decide +kernel
theorem dX9_common_3 : decode cX9_common 3 = .ok (.ifCond .ne 7, 3) := by decide +kernel
theorem dX9_common_6 : decode cX9_common 6 = .ok (.lload_n 0, 1) := by decide +kernel
theorem dX9_common_7 : decode cX9_common 7 = .ok (.goto 10, 3) := by decide +kernel
theorem dX9_common_10 : decode cX9_common 10 = .ok (.lload_n 2, 1) := by decide +kernel
theorem dX9_common_11 : decode cX9_common 11 = .ok (.lload_n 0, 1) := by decide +kernel
theorem dX9_common_12 : decode cX9_common 12 = .ok (.lload_n 2, 1) := by decide +kernel
theorem dX9_common_13 : decode cX9_common 13 = .ok (.lrem, 1) := by decide +kernel
theorem dX9_common_14 : decode cX9_common 14 = .ok (.invokestatic 7, 3) := by decide +kernel
theorem dX9_common_17 : decode cX9_common 17 = .ok (.lreturn, 1) := by decide +kernel
theorem dX9_enters_0 : decode cX9_enters 0 = .ok (.aload_n 0, 1) := by decide +kernel
theorem dX9_enters_1 : decode cX9_enters 1 = .ok (.getfield 11, 3) := by decide +kernel
theorem dX9_enters_4 : decode cX9_enters 4 = .ok (.aload_n 0, 1) := by decide +kernel
theorem dX9_enters_5 : decode cX9_enters 5 = .ok (.getfield 15, 3) := by decide +kernel
theorem dX9_enters_8 : decode cX9_enters 8 = .ok (.lload_n 1, 1) := by decide +kernel
theorem dX9_enters_9 : decode cX9_enters 9 = .ok (.lastore, 1) := by decide +kernel
theorem dX9_enters_10 : decode cX9_enters 10 = .ok (.aload_n 0, 1) := by decide +kernel
theorem dX9_enters_11 : decode cX9_enters 11 = .ok (.dup, 1) := by decide +kernel
theorem dX9_enters_12 : decode cX9_enters 12 = .ok (.getfield 15, 3) := by decide +kernel
theorem dX9_enters_15 : decode cX9_enters 15 = .ok (.iconst 1, 1) := by decide +kernel
theorem dX9_enters_16 : decode cX9_enters 16 = .ok (.iadd, 1) := by decide +kernel
theorem dX9_enters_17 : decode cX9_enters 17 = .ok (.putfield 15, 3) := by decide +kernel
theorem dX9_enters_20 : decode cX9_enters 20 = .ok (.return_, 1) := by decide +kernel
theorem dX9_init_0 : decode cX9_init 0 = .ok (.aload_n 0, 1) := by decide +kernel
theorem dX9_init_1 : decode cX9_init 1 = .ok (.invokespecial 18, 3) := by decide +kernel
theorem dX9_init_4 : decode cX9_init 4 = .ok (.aload_n 0, 1) := by decide +kernel
theorem dX9_init_5 : decode cX9_init 5 = .ok (.bipush 24, 2) := by decide +kernel
theorem dX9_init_7 : decode cX9_init 7 = .ok (.newarray .long, 2) := by decide +kernel
theorem dX9_init_9 : decode cX9_init 9 = .ok (.putfield 11, 3) := by decide +kernel
theorem dX9_init_12 : decode cX9_init 12 = .ok (.aload_n 0, 1) := by decide +kernel
theorem dX9_init_13 : decode cX9_init 13 = .ok (.iconst 1, 1) := by decide +kernel
theorem dX9_init_14 : decode cX9_init 14 = .ok (.putfield 24, 3) := by decide +kernel
theorem dX9_init_17 : decode cX9_init 17 = .ok (.aload_n 0, 1) := by decide +kernel
theorem dX9_init_18 : decode cX9_init 18 = .ok (.bipush 8, 2) := by decide +kernel
theorem dX9_init_20 : decode cX9_init 20 = .ok (.newarray .int, 2) := by decide +kernel
theorem dX9_init_22 : decode cX9_init 22 = .ok (.putfield 27, 3) := by decide +kernel
theorem dX9_init_25 : decode cX9_init 25 = .ok (.aload_n 0, 1) := by decide +kernel
theorem dX9_init_26 : decode cX9_init 26 = .ok (.bipush 20, 2) := by decide +kernel
theorem dX9_init_28 : decode cX9_init 28 = .ok (.newarray .int, 2) := by decide +kernel
theorem dX9_init_30 : decode cX9_init 30 = .ok (.putfield 31, 3) := by decide +kernel
theorem dX9_init_33 : decode cX9_init 33 = .ok (.aload_n 0, 1) := by decide +kernel
theorem dX9_init_34 : decode cX9_init 34 = .ok (.bipush 37, 2) := by decide +kernel
theorem dX9_init_36 : decode cX9_init 36 = .ok (.newarray .int, 2) := by decide +kernel
theorem dX9_init_38 : decode cX9_init 38 = .ok (.putfield 34, 3) := by decide +kernel
theorem dX9_init_41 : decode cX9_init 41 = .ok (.aload_n 0, 1) := by decide +kernel
theorem dX9_init_42 : decode cX9_init 42 = .ok (.bipush 37, 2) := by decide +kernel
theorem dX9_init_44 : decode cX9_init 44 = .ok (.newarray .int, 2) := by decide +kernel
theorem dX9_init_46 : decode cX9_init 46 = .ok (.putfield 37, 3) := by decide +kernel
theorem dX9_init_49 : decode cX9_init 49 = .ok (.aload_n 0, 1) := by decide +kernel
theorem dX9_init_50 : decode cX9_init 50 = .ok (.bipush 80, 2) := by decide +kernel
theorem dX9_init_52 : decode cX9_init 52 = .ok (.newarray .int, 2) := by decide +kernel
theorem dX9_init_54 : decode cX9_init 54 = .ok (.putfield 40, 3) := by decide +kernel
theorem dX9_init_57 : decode cX9_init 57 = .ok (.aload_n 0, 1) := by decide +kernel
theorem dX9_init_58 : decode cX9_init 58 = .ok (.bipush 48, 2) := by decide +kernel
theorem dX9_init_60 : decode cX9_init 60 = .ok (.newarray .int, 2) := by decide +kernel
theorem dX9_init_62 : decode cX9_init 62 = .ok (.putfield 43, 3) := by decide +kernel
theorem dX9_init_65 : decode cX9_init 65 = .ok (.aload_n 0, 1) := by decide +kernel
theorem dX9_init_66 : decode cX9_init 66 = .ok (.bipush 80, 2) := by decide +kernel
theorem dX9_init_68 : decode cX9_init 68 = .ok (.newarray .int, 2) := by decide +kernel
theorem dX9_init_70 : decode cX9_init 70 = .ok (.putfield 46, 3) := by decide +kernel
theorem dX9_init_73 : decode cX9_init 73 = .ok (.aload_n 0, 1) := by decide +kernel
theorem dX9_init_74 : decode cX9_init 74 = .ok (.bipush 80, 2) := by decide +kernel
theorem dX9_init_76 : decode cX9_init 76 = .ok (.newarray .int, 2) := by decide +kernel
theorem dX9_init_78 : decode cX9_init 78 = .ok (.putfield 49, 3) := by decide +kernel
theorem dX9_init_81 : decode cX9_init 81 = .ok (.aload_n 0, 1) := by decide +kernel
theorem dX9_init_82 : decode cX9_init 82 = .ok (.bipush 80, 2) := by decide +kernel
theorem dX9_init_84 : decode cX9_init 84 = .ok (.newarray .int, 2) := by decide +kernel
theorem dX9_init_86 : decode cX9_init 86 = .ok (.putfield 52, 3) := by decide +kernel
theorem dX9_init_89 : decode cX9_init 89 = .ok (.aload_n 0, 1) := by decide +kernel
theorem dX9_init_90 : decode cX9_init 90 = .ok (.bipush 8, 2) := by decide +kernel
theorem dX9_init_92 : decode cX9_init 92 = .ok (.newarray .int, 2) := by decide +kernel
theorem dX9_init_94 : decode cX9_init 94 = .ok (.putfield 55, 3) := by decide +kernel
theorem dX9_init_97 : decode cX9_init 97 = .ok (.aload_n 0, 1) := by decide +kernel
theorem dX9_init_98 : decode cX9_init 98 = .ok (.sipush 592, 3) := by decide +kernel
theorem dX9_init_101 : decode cX9_init 101 = .ok (.newarray .int, 2) := by decide +kernel
theorem dX9_init_103 : decode cX9_init 103 = .ok (.putfield 58, 3) := by decide +kernel
theorem dX9_init_106 : decode cX9_init 106 = .ok (.aload_n 0, 1) := by decide +kernel
theorem dX9_init_107 : decode cX9_init 107 = .ok (.bipush 60, 2) := by decide +kernel
theorem dX9_init_109 : decode cX9_init 109 = .ok (.newarray .int, 2) := by decide +kernel
theorem dX9_init_111 : decode cX9_init 111 = .ok (.putfield 61, 3) := by decide +kernel
theorem dX9_init_114 : decode cX9_init 114 = .ok (.aload_n 0, 1) := by decide +kernel
theorem dX9_init_115 : decode cX9_init 115 = .ok (.bipush 60, 2) := by decide +kernel
theorem dX9_init_117 : decode cX9_init 117 = .ok (.newarray .int, 2) := by decide +kernel
theorem dX9_init_119 : decode cX9_init 119 = .ok (.putfield 64, 3) := by decide +kernel
theorem dX9_init_122 : decode cX9_init 122 = .ok (.aload_n 0, 1) := by decide +kernel
theorem dX9_init_123 : decode cX9_init 123 = .ok (.bipush 60, 2) := by decide +kernel
theorem dX9_init_125 : decode cX9_init 125 = .ok (.newarray .int, 2) := by decide +kernel
theorem dX9_init_127 : decode cX9_init 127 = .ok (.putfield 67, 3) := by decide +kernel
theorem dX9_init_130 : decode cX9_init 130 = .ok (.aload_n 0, 1) := by decide +kernel
theorem dX9_init_131 : decode cX9_init 131 = .ok (.bipush 8, 2) := by decide +kernel
theorem dX9_init_133 : decode cX9_init 133 = .ok (.newarray .int, 2) := by decide +kernel
theorem dX9_init_135 : decode cX9_init 135 = .ok (.putfield 70, 3) := by decide +kernel
theorem dX9_init_138 : decode cX9_init 138 = .ok (.aload_n 0, 1) := by decide +kernel
theorem dX9_init_139 : decode cX9_init 139 = .ok (.sipush 256, 3) := by decide +kernel
theorem dX9_init_142 : decode cX9_init 142 = .ok (.newarray .int, 2) := by decide +kernel
theorem dX9_init_144 : decode cX9_init 144 = .ok (.putfield 73, 3) := by decide +kernel
theorem dX9_init_147 : decode cX9_init 147 = .ok (.aload_n 0, 1) := by decide +kernel
theorem dX9_init_148 : decode cX9_init 148 = .ok (.bipush 8, 2) := by decide +kernel
theorem dX9_init_150 : decode cX9_init 150 = .ok (.newarray .int, 2) := by decide +kernel
theorem dX9_init_152 : decode cX9_init 152 = .ok (.putfield 76, 3) := by decide +kernel
theorem dX9_init_155 : decode cX9_init 155 = .ok (.aload_n 0, 1) := by decide +kernel
theorem dX9_init_156 : decode cX9_init 156 = .ok (.bipush 8, 2) := by decide +kernel
theorem dX9_init_158 : decode cX9_init 158 = .ok (.newarray .int, 2) := by decide +kernel
theorem dX9_init_160 : decode cX9_init 160 = .ok (.putfield 79, 3) := by decide +kernel
theorem dX9_init_163 : decode cX9_init 163 = .ok (.aload_n 0, 1) := by decide +kernel
theorem dX9_init_164 : decode cX9_init 164 = .ok (.bipush 10, 2) := by decide +kernel
theorem dX9_init_166 : decode cX9_init 166 = .ok (.newarray .int, 2) := by decide +kernel
theorem dX9_init_168 : decode cX9_init 168 = .ok (.putfield 82, 3) := by decide +kernel
theorem dX9_init_171 : decode cX9_init 171 = .ok (.aload_n 0, 1) := by decide +kernel
theorem dX9_init_172 : decode cX9_init 172 = .ok (.bipush 10, 2) := by decide +kernel
theorem dX9_init_174 : decode cX9_init 174 = .ok (.newarray .int, 2) := by decide +kernel
theorem dX9_init_176 : decode cX9_init 176 = .ok (.putfield 85, 3) := by decide +kernel
theorem dX9_init_179 : decode cX9_init 179 = .ok (.aload_n 0, 1) := by decide +kernel
theorem dX9_init_180 : decode cX9_init 180 = .ok (.bipush 10, 2) := by decide +kernel
theorem dX9_init_182 : decode cX9_init 182 = .ok (.newarray .int, 2) := by decide +kernel
theorem dX9_init_184 : decode cX9_init 184 = .ok (.putfield 88, 3) := by decide +kernel
theorem dX9_init_187 : decode cX9_init 187 = .ok (.aload_n 0, 1) := by decide +kernel
theorem dX9_init_188 : decode cX9_init 188 = .ok (.sipush 189, 3) := by decide +kernel
theorem dX9_init_191 : decode cX9_init 191 = .ok (.newarray .int, 2) := by decide +kernel
theorem dX9_init_193 : decode cX9_init 193 = .ok (.putfield 91, 3) := by decide +kernel
theorem dX9_init_196 : decode cX9_init 196 = .ok (.aload_n 0, 1) := by decide +kernel
theorem dX9_init_197 : decode cX9_init 197 = .ok (.bipush 12, 2) := by decide +kernel
theorem dX9_init_199 : decode cX9_init 199 = .ok (.newarray .int, 2) := by decide +kernel
theorem dX9_init_201 : decode cX9_init 201 = .ok (.putfield 94, 3) := by decide +kernel
theorem dX9_init_204 : decode cX9_init 204 = .ok (.aload_n 0, 1) := by decide +kernel
theorem dX9_init_205 : decode cX9_init 205 = .ok (.bipush 12, 2) := by decide +kernel
theorem dX9_init_207 : decode cX9_init 207 = .ok (.newarray .int, 2) := by decide +kernel
theorem dX9_init_209 : decode cX9_init 209 = .ok (.putfield 97, 3) := by decide +kernel
theorem dX9_init_212 : decode cX9_init 212 = .ok (.aload_n 0, 1) := by decide +kernel
theorem dX9_init_213 : decode cX9_init 213 = .ok (.sipush 441, 3) := by decide +kernel
theorem dX9_init_216 : decode cX9_init 216 = .ok (.newarray .boolean, 2) := by decide +kernel
theorem dX9_init_218 : decode cX9_init 218 = .ok (.putfield 100, 3) := by decide +kernel
theorem dX9_init_221 : decode cX9_init 221 = .ok (.aload_n 0, 1) := by decide +kernel
theorem dX9_init_222 : decode cX9_init 222 = .ok (.bipush 80, 2) := by decide +kernel
theorem dX9_init_224 : decode cX9_init 224 = .ok (.newarray .int, 2) := by decide +kernel
theorem dX9_init_226 : decode cX9_init 226 = .ok (.putfield 104, 3) := by decide +kernel
theorem dX9_init_229 : decode cX9_init 229 = .ok (.aload_n 0, 1) := by decide +kernel
theorem dX9_init_230 : decode cX9_init 230 = .ok (.iconst 3, 1) := by decide +kernel
theorem dX9_init_231 : decode cX9_init 231 = .ok (.newarray .boolean, 2) := by decide +kernel
theorem dX9_init_233 : decode cX9_init 233 = .ok (.putfield 107, 3) := by decide +kernel
theorem dX9_init_236 : decode cX9_init 236 = .ok (.aload_n 0, 1) := by decide +kernel
theorem dX9_init_237 : decode cX9_init 237 = .ok (.iconst 3, 1) := by decide +kernel
theorem dX9_init_238 : decode cX9_init 238 = .ok (.newarray .int, 2) := by decide +kernel
theorem dX9_init_240 : decode cX9_init 240 = .ok (.putfield 110, 3) := by decide +kernel
theorem dX9_init_243 : decode cX9_init 243 = .ok (.aload_n 0, 1) := by decide +kernel
theorem dX9_init_244 : decode cX9_init 244 = .ok (.bipush 111, 2) := by decide +kernel
theorem dX9_init_246 : decode cX9_init 246 = .ok (.newarray .int, 2) := by decide +kernel
theorem dX9_init_248 : decode cX9_init 248 = .ok (.putfield 113, 3) := by decide +kernel
theorem dX9_init_251 : decode cX9_init 251 = .ok (.aload_n 0, 1) := by decide +kernel
theorem dX9_init_252 : decode cX9_init 252 = .ok (.getfield 34, 3) := by decide +kernel
theorem dX9_init_255 : decode cX9_init 255 = .ok (.bipush 33, 2) := by decide +kernel
theorem dX9_init_257 : decode cX9_init 257 = .ok (.bipush 30, 2) := by decide +kernel
theorem dX9_init_259 : decode cX9_init 259 = .ok (.iastore, 1) := by decide +kernel
theorem dX9_init_260 : decode cX9_init 260 = .ok (.return_, 1) := by decide +kernel
theorem dX9_isThing_0 : decode cX9_isThing 0 = .ok (.iload_n 1, 1) := by decide +kernel
theorem dX9_isThing_1 : decode cX9_isThing 1 = .ok (.i2l, 1) := by decide +kernel
theorem dX9_isThing_2 : decode cX9_isThing 2 = .ok (.lconst 0, 1) := by decide +kernel
theorem dX9_isThing_3 : decode cX9_isThing 3 = .ok (.aload_n 0, 1) := by decide +kernel
theorem dX9_isThing_4 : decode cX9_isThing 4 = .ok (.getfield 116, 3) := by decide +kernel
theorem dX9_isThing_7 : decode cX9_isThing 7 = .ok (.iconst 1, 1) := by decide +kernel
theorem dX9_isThing_8 : decode cX9_isThing 8 = .ok (.isub, 1) := by decide +kernel
theorem dX9_isThing_9 : decode cX9_isThing 9 = .ok (.i2l, 1) := by decide +kernel
theorem dX9_isThing_10 : decode cX9_isThing 10 = .ok (.invokestatic 119, 3) := by decide +kernel
theorem dX9_isThing_13 : decode cX9_isThing 13 = .ok (.ireturn, 1) := by decide +kernel
theorem dX9_isHere_0 : decode cX9_isHere 0 = .ok (.aload_n 0, 1) := by decide +kernel
theorem dX9_isHere_1 : decode cX9_isHere 1 = .ok (.iload_n 2, 1) := by decide +kernel
theorem dX9_isHere_2 : decode cX9_isHere 2 = .ok (.invokevirtual 123, 3) := by decide +kernel
theorem dX9_isHere_5 : decode cX9_isHere 5 = .ok (.ifCond .eq 18, 3) := by decide +kernel
theorem dX9_isHere_8 : decode cX9_isHere 8 = .ok (.aload_n 1, 1) := by decide +kernel
theorem dX9_isHere_9 : decode cX9_isHere 9 = .ok (.bipush 32, 2) := by decide +kernel
theorem dX9_isHere_11 : decode cX9_isHere 11 = .ok (.iaload, 1) := by decide +kernel
theorem dX9_isHere_12 : decode cX9_isHere 12 = .ok (.iload_n 2, 1) := by decide +kernel
theorem dX9_isHere_13 : decode cX9_isHere 13 = .ok (.invokestatic 127, 3) := by decide +kernel
theorem dX9_isHere_16 : decode cX9_isHere 16 = .ok (.ifCond .ne 7, 3) := by decide +kernel
theorem dX9_isHere_19 : decode cX9_isHere 19 = .ok (.iconst 1, 1) := by decide +kernel
theorem dX9_isHere_20 : decode cX9_isHere 20 = .ok (.goto 4, 3) := by decide +kernel
theorem dX9_isHere_23 : decode cX9_isHere 23 = .ok (.iconst 0, 1) := by decide +kernel
theorem dX9_isHere_24 : decode cX9_isHere 24 = .ok (.ireturn, 1) := by decide +kernel
theorem dX9_all_0 : decode cX9_all 0 = .ok (.iconst 1, 1) := by decide +kernel
theorem dX9_all_1 : decode cX9_all 1 = .ok (.aload_n 0, 1) := by decide +kernel
theorem dX9_all_2 : decode cX9_all 2 = .ok (.getfield 116, 3) := by decide +kernel
theorem dX9_all_5 : decode cX9_all 5 = .ok (.ishl, 1) := by decide +kernel
theorem dX9_all_6 : decode cX9_all 6 = .ok (.iconst 1, 1) := by decide +kernel
theorem dX9_all_7 : decode cX9_all 7 = .ok (.isub, 1) := by decide +kernel
theorem dX9_all_8 : decode cX9_all 8 = .ok (.ireturn, 1) := by decide +kernel
theorem dX9_here_0 : decode cX9_here 0 = .ok (.aload_n 0, 1) := by decide +kernel
theorem dX9_here_1 : decode cX9_here 1 = .ok (.invokevirtual 131, 3) := by decide +kernel
theorem dX9_here_4 : decode cX9_here 4 = .ok (.aload_n 1, 1) := by decide +kernel
theorem dX9_here_5 : decode cX9_here 5 = .ok (.bipush 32, 2) := by decide +kernel
theorem dX9_here_7 : decode cX9_here 7 = .ok (.iaload, 1) := by decide +kernel
theorem dX9_here_8 : decode cX9_here 8 = .ok (.iconst (-1), 1) := by decide +kernel
theorem dX9_here_9 : decode cX9_here 9 = .ok (.ixor, 1) := by decide +kernel
theorem dX9_here_10 : decode cX9_here 10 = .ok (.iand, 1) := by decide +kernel
theorem dX9_here_11 : decode cX9_here 11 = .ok (.ireturn, 1) := by decide +kernel
theorem dX9_sumOf_0 : decode cX9_sumOf 0 = .ok (.iconst 0, 1) := by decide +kernel
theorem dX9_sumOf_1 : decode cX9_sumOf 1 = .ok (.istore 4, 2) := by decide +kernel
theorem dX9_sumOf_3 : decode cX9_sumOf 3 = .ok (.iconst 0, 1) := by decide +kernel
theorem dX9_sumOf_4 : decode cX9_sumOf 4 = .ok (.istore 5, 2) := by decide +kernel
theorem dX9_sumOf_6 : decode cX9_sumOf 6 = .ok (.iload 5, 2) := by decide +kernel
theorem dX9_sumOf_8 : decode cX9_sumOf 8 = .ok (.aload_n 0, 1) := by decide +kernel
theorem dX9_sumOf_9 : decode cX9_sumOf 9 = .ok (.getfield 116, 3) := by decide +kernel
theorem dX9_sumOf_12 : decode cX9_sumOf 12 = .ok (.if_icmp .ge 33, 3) := by decide +kernel
theorem dX9_sumOf_15 : decode cX9_sumOf 15 = .ok (.iload 4, 2) := by decide +kernel
theorem dX9_sumOf_17 : decode cX9_sumOf 17 = .ok (.iload_n 3, 1) := by decide +kernel
theorem dX9_sumOf_18 : decode cX9_sumOf 18 = .ok (.iload 5, 2) := by decide +kernel
theorem dX9_sumOf_20 : decode cX9_sumOf 20 = .ok (.invokestatic 127, 3) := by decide +kernel
theorem dX9_sumOf_23 : decode cX9_sumOf 23 = .ok (.ifCond .eq 12, 3) := by decide +kernel
theorem dX9_sumOf_26 : decode cX9_sumOf 26 = .ok (.aload_n 1, 1) := by decide +kernel
theorem dX9_sumOf_27 : decode cX9_sumOf 27 = .ok (.iload_n 2, 1) := by decide +kernel
theorem dX9_sumOf_28 : decode cX9_sumOf 28 = .ok (.iload 5, 2) := by decide +kernel
theorem dX9_sumOf_30 : decode cX9_sumOf 30 = .ok (.iadd, 1) := by decide +kernel
theorem dX9_sumOf_31 : decode cX9_sumOf 31 = .ok (.iaload, 1) := by decide +kernel
theorem dX9_sumOf_32 : decode cX9_sumOf 32 = .ok (.goto 4, 3) := by decide +kernel
theorem dX9_sumOf_35 : decode cX9_sumOf 35 = .ok (.iconst 0, 1) := by decide +kernel
theorem dX9_sumOf_36 : decode cX9_sumOf 36 = .ok (.iadd, 1) := by decide +kernel
theorem dX9_sumOf_37 : decode cX9_sumOf 37 = .ok (.istore 4, 2) := by decide +kernel
theorem dX9_sumOf_39 : decode cX9_sumOf 39 = .ok (.iinc 5 1, 3) := by decide +kernel
theorem dX9_sumOf_42 : decode cX9_sumOf 42 = .ok (.goto (-36), 3) := by decide +kernel
theorem dX9_sumOf_45 : decode cX9_sumOf 45 = .ok (.iload 4, 2) := by decide +kernel
theorem dX9_sumOf_47 : decode cX9_sumOf 47 = .ok (.ireturn, 1) := by decide +kernel
theorem dX9_stringMany_0 : decode cX9_stringMany 0 = .ok (.iconst 0, 1) := by decide +kernel
theorem dX9_stringMany_1 : decode cX9_stringMany 1 = .ok (.istore_n 2, 1) := by decide +kernel
theorem dX9_stringMany_2 : decode cX9_stringMany 2 = .ok (.iconst 0, 1) := by decide +kernel
theorem dX9_stringMany_3 : decode cX9_stringMany 3 = .ok (.istore_n 3, 1) := by decide +kernel
theorem dX9_stringMany_4 : decode cX9_stringMany 4 = .ok (.iload_n 3, 1) := by decide +kernel
theorem dX9_stringMany_5 : decode cX9_stringMany 5 = .ok (.aload_n 0, 1) := by decide +kernel
theorem dX9_stringMany_6 : decode cX9_stringMany 6 = .ok (.getfield 116, 3) := by decide +kernel
theorem dX9_stringMany_9 : decode cX9_stringMany 9 = .ok (.if_icmp .ge 21, 3) := by decide +kernel
theorem dX9_stringMany_12 : decode cX9_stringMany 12 = .ok (.iload_n 2, 1) := by decide +kernel
theorem dX9_stringMany_13 : decode cX9_stringMany 13 = .ok (.aload_n 1, 1) := by decide +kernel
theorem dX9_stringMany_14 : decode cX9_stringMany 14 = .ok (.bipush 24, 2) := by decide +kernel
theorem dX9_stringMany_16 : decode cX9_stringMany 16 = .ok (.iload_n 3, 1) := by decide +kernel
theorem dX9_stringMany_17 : decode cX9_stringMany 17 = .ok (.iadd, 1) := by decide +kernel
theorem dX9_stringMany_18 : decode cX9_stringMany 18 = .ok (.iaload, 1) := by decide +kernel
theorem dX9_stringMany_19 : decode cX9_stringMany 19 = .ok (.invokestatic 135, 3) := by decide +kernel
theorem dX9_stringMany_22 : decode cX9_stringMany 22 = .ok (.iadd, 1) := by decide +kernel
theorem dX9_stringMany_23 : decode cX9_stringMany 23 = .ok (.istore_n 2, 1) := by decide +kernel
theorem dX9_stringMany_24 : decode cX9_stringMany 24 = .ok (.iinc 3 1, 3) := by decide +kernel
theorem dX9_stringMany_27 : decode cX9_stringMany 27 = .ok (.goto (-23), 3) := by decide +kernel
theorem dX9_stringMany_30 : decode cX9_stringMany 30 = .ok (.iload_n 2, 1) := by decide +kernel
theorem dX9_stringMany_31 : decode cX9_stringMany 31 = .ok (.iconst 2, 1) := by decide +kernel
theorem dX9_stringMany_32 : decode cX9_stringMany 32 = .ok (.idiv, 1) := by decide +kernel
theorem dX9_stringMany_33 : decode cX9_stringMany 33 = .ok (.ireturn, 1) := by decide +kernel
theorem dX9_toggles_0 : decode cX9_toggles 0 = .ok (.aload_n 0, 1) := by decide +kernel
theorem dX9_toggles_1 : decode cX9_toggles 1 = .ok (.bipush 24, 2) := by decide +kernel
theorem dX9_toggles_3 : decode cX9_toggles 3 = .ok (.iload_n 1, 1) := by decide +kernel
theorem dX9_toggles_4 : decode cX9_toggles 4 = .ok (.iadd, 1) := by decide +kernel
theorem dX9_toggles_5 : decode cX9_toggles 5 = .ok (.dup2, 1) := by decide +kernel
theorem dX9_toggles_6 : decode cX9_toggles 6 = .ok (.iaload, 1) := by decide +kernel
theorem dX9_toggles_7 : decode cX9_toggles 7 = .ok (.iconst 1, 1) := by decide +kernel
theorem dX9_toggles_8 : decode cX9_toggles 8 = .ok (.iload_n 2, 1) := by decide +kernel
theorem dX9_toggles_9 : decode cX9_toggles 9 = .ok (.ishl, 1) := by decide +kernel
theorem dX9_toggles_10 : decode cX9_toggles 10 = .ok (.ixor, 1) := by decide +kernel
theorem dX9_toggles_11 : decode cX9_toggles 11 = .ok (.iastore, 1) := by decide +kernel
theorem dX9_toggles_12 : decode cX9_toggles 12 = .ok (.aload_n 0, 1) := by decide +kernel
theorem dX9_toggles_13 : decode cX9_toggles 13 = .ok (.bipush 24, 2) := by decide +kernel
theorem dX9_toggles_15 : decode cX9_toggles 15 = .ok (.iload_n 2, 1) := by decide +kernel
theorem dX9_toggles_16 : decode cX9_toggles 16 = .ok (.iadd, 1) := by decide +kernel
theorem dX9_toggles_17 : decode cX9_toggles 17 = .ok (.dup2, 1) := by decide +kernel
theorem dX9_toggles_18 : decode cX9_toggles 18 = .ok (.iaload, 1) := by decide +kernel
theorem dX9_toggles_19 : decode cX9_toggles 19 = .ok (.iconst 1, 1) := by decide +kernel
theorem dX9_toggles_20 : decode cX9_toggles 20 = .ok (.iload_n 1, 1) := by decide +kernel
theorem dX9_toggles_21 : decode cX9_toggles 21 = .ok (.ishl, 1) := by decide +kernel
theorem dX9_toggles_22 : decode cX9_toggles 22 = .ok (.ixor, 1) := by decide +kernel
theorem dX9_toggles_23 : decode cX9_toggles 23 = .ok (.iastore, 1) := by decide +kernel
theorem dX9_toggles_24 : decode cX9_toggles 24 = .ok (.return_, 1) := by decide +kernel
theorem dX9_bundle_0 : decode cX9_bundle 0 = .ok (.aload_n 1, 1) := by decide +kernel
theorem dX9_bundle_1 : decode cX9_bundle 1 = .ok (.bipush 32, 2) := by decide +kernel
theorem dX9_bundle_3 : decode cX9_bundle 3 = .ok (.iaload, 1) := by decide +kernel
theorem dX9_bundle_4 : decode cX9_bundle 4 = .ok (.iload_n 2, 1) := by decide +kernel
theorem dX9_bundle_5 : decode cX9_bundle 5 = .ok (.invokestatic 127, 3) := by decide +kernel
theorem dX9_bundle_8 : decode cX9_bundle 8 = .ok (.ifCond .eq 7, 3) := by decide +kernel
theorem dX9_bundle_11 : decode cX9_bundle 11 = .ok (.iconst 0, 1) := by decide +kernel
theorem dX9_bundle_12 : decode cX9_bundle 12 = .ok (.goto 6, 3) := by decide +kernel
theorem dX9_bundle_15 : decode cX9_bundle 15 = .ok (.iconst 1, 1) := by decide +kernel
theorem dX9_bundle_16 : decode cX9_bundle 16 = .ok (.iload_n 2, 1) := by decide +kernel
theorem dX9_bundle_17 : decode cX9_bundle 17 = .ok (.ishl, 1) := by decide +kernel
theorem dX9_bundle_18 : decode cX9_bundle 18 = .ok (.istore_n 3, 1) := by decide +kernel
theorem dX9_bundle_19 : decode cX9_bundle 19 = .ok (.iconst 0, 1) := by decide +kernel
theorem dX9_bundle_20 : decode cX9_bundle 20 = .ok (.istore 4, 2) := by decide +kernel
theorem dX9_bundle_22 : decode cX9_bundle 22 = .ok (.iload 4, 2) := by decide +kernel
theorem dX9_bundle_24 : decode cX9_bundle 24 = .ok (.aload_n 0, 1) := by decide +kernel
theorem dX9_bundle_25 : decode cX9_bundle 25 = .ok (.getfield 116, 3) := by decide +kernel
theorem dX9_bundle_28 : decode cX9_bundle 28 = .ok (.if_icmp .ge 50, 3) := by decide +kernel
theorem dX9_bundle_31 : decode cX9_bundle 31 = .ok (.iconst 0, 1) := by decide +kernel
theorem dX9_bundle_32 : decode cX9_bundle 32 = .ok (.istore 5, 2) := by decide +kernel
theorem dX9_bundle_34 : decode cX9_bundle 34 = .ok (.iload 5, 2) := by decide +kernel
theorem dX9_bundle_36 : decode cX9_bundle 36 = .ok (.aload_n 0, 1) := by decide +kernel
theorem dX9_bundle_37 : decode cX9_bundle 37 = .ok (.getfield 116, 3) := by decide +kernel
theorem dX9_bundle_40 : decode cX9_bundle 40 = .ok (.if_icmp .ge 32, 3) := by decide +kernel
theorem dX9_bundle_43 : decode cX9_bundle 43 = .ok (.iload_n 3, 1) := by decide +kernel
theorem dX9_bundle_44 : decode cX9_bundle 44 = .ok (.iload_n 3, 1) := by decide +kernel
theorem dX9_bundle_45 : decode cX9_bundle 45 = .ok (.iload 5, 2) := by decide +kernel
theorem dX9_bundle_47 : decode cX9_bundle 47 = .ok (.invokestatic 127, 3) := by decide +kernel
theorem dX9_bundle_50 : decode cX9_bundle 50 = .ok (.ifCond .eq 13, 3) := by decide +kernel
theorem dX9_bundle_53 : decode cX9_bundle 53 = .ok (.aload_n 1, 1) := by decide +kernel
theorem dX9_bundle_54 : decode cX9_bundle 54 = .ok (.bipush 24, 2) := by decide +kernel
theorem dX9_bundle_56 : decode cX9_bundle 56 = .ok (.iload 5, 2) := by decide +kernel
theorem dX9_bundle_58 : decode cX9_bundle 58 = .ok (.iadd, 1) := by decide +kernel
theorem dX9_bundle_59 : decode cX9_bundle 59 = .ok (.iaload, 1) := by decide +kernel
theorem dX9_bundle_60 : decode cX9_bundle 60 = .ok (.goto 4, 3) := by decide +kernel
theorem dX9_bundle_63 : decode cX9_bundle 63 = .ok (.iconst 0, 1) := by decide +kernel
theorem dX9_bundle_64 : decode cX9_bundle 64 = .ok (.ior, 1) := by decide +kernel
theorem dX9_bundle_65 : decode cX9_bundle 65 = .ok (.istore_n 3, 1) := by decide +kernel
theorem dX9_bundle_66 : decode cX9_bundle 66 = .ok (.iinc 5 1, 3) := by decide +kernel
theorem dX9_bundle_69 : decode cX9_bundle 69 = .ok (.goto (-35), 3) := by decide +kernel
theorem dX9_bundle_72 : decode cX9_bundle 72 = .ok (.iinc 4 1, 3) := by decide +kernel
theorem dX9_bundle_75 : decode cX9_bundle 75 = .ok (.goto (-53), 3) := by decide +kernel
theorem dX9_bundle_78 : decode cX9_bundle 78 = .ok (.iload_n 3, 1) := by decide +kernel
theorem dX9_bundle_79 : decode cX9_bundle 79 = .ok (.ireturn, 1) := by decide +kernel
theorem dX9_sign_0 : decode cX9_sign 0 = .ok (.aload_n 0, 1) := by decide +kernel
theorem dX9_sign_1 : decode cX9_sign 1 = .ok (.iconst 0, 1) := by decide +kernel
theorem dX9_sign_2 : decode cX9_sign 2 = .ok (.putfield 3, 3) := by decide +kernel
theorem dX9_sign_5 : decode cX9_sign 5 = .ok (.aload_n 0, 1) := by decide +kernel
theorem dX9_sign_6 : decode cX9_sign 6 = .ok (.getfield 141, 3) := by decide +kernel
theorem dX9_sign_9 : decode cX9_sign 9 = .ok (.bipush 76, 2) := by decide +kernel
theorem dX9_sign_11 : decode cX9_sign 11 = .ok (.if_icmp .le 5, 3) := by decide +kernel
theorem dX9_sign_14 : decode cX9_sign 14 = .ok (.iconst (-1), 1) := by decide +kernel
theorem dX9_sign_15 : decode cX9_sign 15 = .ok (.ireturn, 1) := by decide +kernel
theorem dX9_sign_16 : decode cX9_sign 16 = .ok (.iconst 0, 1) := by decide +kernel
theorem dX9_sign_17 : decode cX9_sign 17 = .ok (.istore_n 2, 1) := by decide +kernel
theorem dX9_sign_18 : decode cX9_sign 18 = .ok (.iload_n 2, 1) := by decide +kernel
theorem dX9_sign_19 : decode cX9_sign 19 = .ok (.iconst 4, 1) := by decide +kernel
theorem dX9_sign_20 : decode cX9_sign 20 = .ok (.if_icmp .ge 33, 3) := by decide +kernel
theorem dX9_sign_23 : decode cX9_sign 23 = .ok (.aload_n 0, 1) := by decide +kernel
theorem dX9_sign_24 : decode cX9_sign 24 = .ok (.getfield 40, 3) := by decide +kernel
theorem dX9_sign_27 : decode cX9_sign 27 = .ok (.aload_n 0, 1) := by decide +kernel
theorem dX9_sign_28 : decode cX9_sign 28 = .ok (.getfield 141, 3) := by decide +kernel
theorem dX9_sign_31 : decode cX9_sign 31 = .ok (.iload_n 2, 1) := by decide +kernel
theorem dX9_sign_32 : decode cX9_sign 32 = .ok (.iadd, 1) := by decide +kernel
theorem dX9_sign_33 : decode cX9_sign 33 = .ok (.iload_n 1, 1) := by decide +kernel
theorem dX9_sign_34 : decode cX9_sign 34 = .ok (.bipush 24, 2) := by decide +kernel
theorem dX9_sign_36 : decode cX9_sign 36 = .ok (.bipush 8, 2) := by decide +kernel
theorem dX9_sign_38 : decode cX9_sign 38 = .ok (.iload_n 2, 1) := by decide +kernel
theorem dX9_sign_39 : decode cX9_sign 39 = .ok (.imul, 1) := by decide +kernel
theorem dX9_sign_40 : decode cX9_sign 40 = .ok (.isub, 1) := by decide +kernel
theorem dX9_sign_41 : decode cX9_sign 41 = .ok (.ishr, 1) := by decide +kernel
theorem dX9_sign_42 : decode cX9_sign 42 = .ok (.sipush 255, 3) := by decide +kernel
theorem dX9_sign_45 : decode cX9_sign 45 = .ok (.iand, 1) := by decide +kernel
theorem dX9_sign_46 : decode cX9_sign 46 = .ok (.iastore, 1) := by decide +kernel
theorem dX9_sign_47 : decode cX9_sign 47 = .ok (.iinc 2 1, 3) := by decide +kernel
theorem dX9_sign_50 : decode cX9_sign 50 = .ok (.goto (-32), 3) := by decide +kernel
theorem dX9_sign_53 : decode cX9_sign 53 = .ok (.aload_n 0, 1) := by decide +kernel
theorem dX9_sign_54 : decode cX9_sign 54 = .ok (.dup, 1) := by decide +kernel
theorem dX9_sign_55 : decode cX9_sign 55 = .ok (.getfield 141, 3) := by decide +kernel
theorem dX9_sign_58 : decode cX9_sign 58 = .ok (.iconst 4, 1) := by decide +kernel
theorem dX9_sign_59 : decode cX9_sign 59 = .ok (.iadd, 1) := by decide +kernel
theorem dX9_sign_60 : decode cX9_sign 60 = .ok (.putfield 141, 3) := by decide +kernel
theorem dX9_sign_63 : decode cX9_sign 63 = .ok (.aload_n 0, 1) := by decide +kernel
theorem dX9_sign_64 : decode cX9_sign 64 = .ok (.getfield 141, 3) := by decide +kernel
theorem dX9_sign_67 : decode cX9_sign 67 = .ok (.ireturn, 1) := by decide +kernel
theorem dX9_end_0 : decode cX9_end 0 = .ok (.aload_n 0, 1) := by decide +kernel
theorem dX9_end_1 : decode cX9_end 1 = .ok (.iconst 0, 1) := by decide +kernel
theorem dX9_end_2 : decode cX9_end 2 = .ok (.putfield 3, 3) := by decide +kernel
theorem dX9_end_5 : decode cX9_end 5 = .ok (.iload_n 1, 1) := by decide +kernel
theorem dX9_end_6 : decode cX9_end 6 = .ok (.i2l, 1) := by decide +kernel
theorem dX9_end_7 : decode cX9_end 7 = .ok (.lconst 0, 1) := by decide +kernel
theorem dX9_end_8 : decode cX9_end 8 = .ok (.aload_n 0, 1) := by decide +kernel
theorem dX9_end_9 : decode cX9_end 9 = .ok (.getfield 141, 3) := by decide +kernel
theorem dX9_end_12 : decode cX9_end 12 = .ok (.i2l, 1) := by decide +kernel
theorem dX9_end_13 : decode cX9_end 13 = .ok (.invokestatic 119, 3) := by decide +kernel
theorem dX9_end_16 : decode cX9_end 16 = .ok (.ifCond .ne 5, 3) := by decide +kernel
theorem dX9_end_19 : decode cX9_end 19 = .ok (.iconst 0, 1) := by decide +kernel
theorem dX9_end_20 : decode cX9_end 20 = .ok (.ireturn, 1) := by decide +kernel
theorem dX9_end_21 : decode cX9_end 21 = .ok (.aload_n 0, 1) := by decide +kernel
theorem dX9_end_22 : decode cX9_end 22 = .ok (.iload_n 1, 1) := by decide +kernel
theorem dX9_end_23 : decode cX9_end 23 = .ok (.putfield 141, 3) := by decide +kernel
theorem dX9_end_26 : decode cX9_end 26 = .ok (.iconst 1, 1) := by decide +kernel
theorem dX9_end_27 : decode cX9_end 27 = .ok (.ireturn, 1) := by decide +kernel
theorem dX9_begins_0 : decode cX9_begins 0 = .ok (.aload_n 0, 1) := by decide +kernel
theorem dX9_begins_1 : decode cX9_begins 1 = .ok (.getfield 141, 3) := by decide +kernel
theorem dX9_begins_4 : decode cX9_begins 4 = .ok (.istore_n 2, 1) := by decide +kernel
theorem dX9_begins_5 : decode cX9_begins 5 = .ok (.aload_n 0, 1) := by decide +kernel
theorem dX9_begins_6 : decode cX9_begins 6 = .ok (.iconst 0, 1) := by decide +kernel
theorem dX9_begins_7 : decode cX9_begins 7 = .ok (.putfield 141, 3) := by decide +kernel
theorem dX9_begins_10 : decode cX9_begins 10 = .ok (.aload_n 0, 1) := by decide +kernel
theorem dX9_begins_11 : decode cX9_begins 11 = .ok (.iconst 0, 1) := by decide +kernel
theorem dX9_begins_12 : decode cX9_begins 12 = .ok (.putfield 144, 3) := by decide +kernel
theorem dX9_begins_15 : decode cX9_begins 15 = .ok (.aload_n 0, 1) := by decide +kernel
theorem dX9_begins_16 : decode cX9_begins 16 = .ok (.iconst 0, 1) := by decide +kernel
theorem dX9_begins_17 : decode cX9_begins 17 = .ok (.putfield 147, 3) := by decide +kernel
theorem dX9_begins_20 : decode cX9_begins 20 = .ok (.aload_n 0, 1) := by decide +kernel
theorem dX9_begins_21 : decode cX9_begins 21 = .ok (.iload_n 2, 1) := by decide +kernel
theorem dX9_begins_22 : decode cX9_begins 22 = .ok (.iload_n 1, 1) := by decide +kernel
theorem dX9_begins_23 : decode cX9_begins 23 = .ok (.invokestatic 150, 3) := by decide +kernel
theorem dX9_begins_26 : decode cX9_begins 26 = .ok (.putfield 156, 3) := by decide +kernel
theorem dX9_begins_29 : decode cX9_begins 29 = .ok (.iload_n 2, 1) := by decide +kernel
theorem dX9_begins_30 : decode cX9_begins 30 = .ok (.ireturn, 1) := by decide +kernel
theorem dX9_takes_0 : decode cX9_takes 0 = .ok (.aload_n 0, 1) := by decide +kernel
theorem dX9_takes_1 : decode cX9_takes 1 = .ok (.getfield 144, 3) := by decide +kernel
theorem dX9_takes_4 : decode cX9_takes 4 = .ok (.aload_n 0, 1) := by decide +kernel
theorem dX9_takes_5 : decode cX9_takes 5 = .ok (.getfield 156, 3) := by decide +kernel
theorem dX9_takes_8 : decode cX9_takes 8 = .ok (.if_icmp .ge 20, 3) := by decide +kernel
theorem dX9_takes_11 : decode cX9_takes 11 = .ok (.aload_n 0, 1) := by decide +kernel
theorem dX9_takes_12 : decode cX9_takes 12 = .ok (.getfield 40, 3) := by decide +kernel
theorem dX9_takes_15 : decode cX9_takes 15 = .ok (.aload_n 0, 1) := by decide +kernel
theorem dX9_takes_16 : decode cX9_takes 16 = .ok (.getfield 144, 3) := by decide +kernel
theorem dX9_takes_19 : decode cX9_takes 19 = .ok (.iaload, 1) := by decide +kernel
theorem dX9_takes_20 : decode cX9_takes 20 = .ok (.iload_n 1, 1) := by decide +kernel
theorem dX9_takes_21 : decode cX9_takes 21 = .ok (.if_icmp .ne 7, 3) := by decide +kernel
theorem dX9_takes_24 : decode cX9_takes 24 = .ok (.iconst 1, 1) := by decide +kernel
theorem dX9_takes_25 : decode cX9_takes 25 = .ok (.goto 4, 3) := by decide +kernel
theorem dX9_takes_28 : decode cX9_takes 28 = .ok (.iconst 0, 1) := by decide +kernel
theorem dX9_takes_29 : decode cX9_takes 29 = .ok (.istore_n 2, 1) := by decide +kernel
theorem dX9_takes_30 : decode cX9_takes 30 = .ok (.aload_n 0, 1) := by decide +kernel
theorem dX9_takes_31 : decode cX9_takes 31 = .ok (.dup, 1) := by decide +kernel
theorem dX9_takes_32 : decode cX9_takes 32 = .ok (.getfield 144, 3) := by decide +kernel
theorem dX9_takes_35 : decode cX9_takes 35 = .ok (.iload_n 2, 1) := by decide +kernel
theorem dX9_takes_36 : decode cX9_takes 36 = .ok (.invokestatic 159, 3) := by decide +kernel
theorem dX9_takes_39 : decode cX9_takes 39 = .ok (.iadd, 1) := by decide +kernel
theorem dX9_takes_40 : decode cX9_takes 40 = .ok (.putfield 144, 3) := by decide +kernel
theorem dX9_takes_43 : decode cX9_takes 43 = .ok (.iload_n 2, 1) := by decide +kernel
theorem dX9_takes_44 : decode cX9_takes 44 = .ok (.ireturn, 1) := by decide +kernel
theorem dX9_isDigit_0 : decode cX9_isDigit 0 = .ok (.aload_n 0, 1) := by decide +kernel
theorem dX9_isDigit_1 : decode cX9_isDigit 1 = .ok (.getfield 144, 3) := by decide +kernel
theorem dX9_isDigit_4 : decode cX9_isDigit 4 = .ok (.aload_n 0, 1) := by decide +kernel
theorem dX9_isDigit_5 : decode cX9_isDigit 5 = .ok (.getfield 156, 3) := by decide +kernel
theorem dX9_isDigit_8 : decode cX9_isDigit 8 = .ok (.if_icmp .ge 29, 3) := by decide +kernel
theorem dX9_isDigit_11 : decode cX9_isDigit 11 = .ok (.aload_n 0, 1) := by decide +kernel
theorem dX9_isDigit_12 : decode cX9_isDigit 12 = .ok (.getfield 40, 3) := by decide +kernel
theorem dX9_isDigit_15 : decode cX9_isDigit 15 = .ok (.aload_n 0, 1) := by decide +kernel
theorem dX9_isDigit_16 : decode cX9_isDigit 16 = .ok (.getfield 144, 3) := by decide +kernel
theorem dX9_isDigit_19 : decode cX9_isDigit 19 = .ok (.iaload, 1) := by decide +kernel
theorem dX9_isDigit_20 : decode cX9_isDigit 20 = .ok (.i2l, 1) := by decide +kernel
theorem dX9_isDigit_21 : decode cX9_isDigit 21 = .ok (.ldc2_w 163, 3) := by decide +kernel
theorem dX9_isDigit_24 : decode cX9_isDigit 24 = .ok (.ldc2_w 165, 3) := by decide +kernel
theorem dX9_isDigit_27 : decode cX9_isDigit 27 = .ok (.invokestatic 119, 3) := by decide +kernel
theorem dX9_isDigit_30 : decode cX9_isDigit 30 = .ok (.ifCond .eq 7, 3) := by decide +kernel
theorem dX9_isDigit_33 : decode cX9_isDigit 33 = .ok (.iconst 1, 1) := by decide +kernel
theorem dX9_isDigit_34 : decode cX9_isDigit 34 = .ok (.goto 4, 3) := by decide +kernel
theorem dX9_isDigit_37 : decode cX9_isDigit 37 = .ok (.iconst 0, 1) := by decide +kernel
theorem dX9_isDigit_38 : decode cX9_isDigit 38 = .ok (.ireturn, 1) := by decide +kernel
theorem dX9_takesOf_0 : decode cX9_takesOf 0 = .ok (.iconst 0, 1) := by decide +kernel
theorem dX9_takesOf_1 : decode cX9_takesOf 1 = .ok (.istore_n 2, 1) := by decide +kernel
theorem dX9_takesOf_2 : decode cX9_takesOf 2 = .ok (.iload_n 2, 1) := by decide +kernel
theorem dX9_takesOf_3 : decode cX9_takesOf 3 = .ok (.aload_n 1, 1) := by decide +kernel
theorem dX9_takesOf_4 : decode cX9_takesOf 4 = .ok (.invokevirtual 167, 3) := by decide +kernel
theorem dX9_takesOf_7 : decode cX9_takesOf 7 = .ok (.if_icmp .ge 49, 3) := by decide +kernel
theorem dX9_takesOf_10 : decode cX9_takesOf 10 = .ok (.aload_n 0, 1) := by decide +kernel
theorem dX9_takesOf_11 : decode cX9_takesOf 11 = .ok (.getfield 144, 3) := by decide +kernel
theorem dX9_takesOf_14 : decode cX9_takesOf 14 = .ok (.aload_n 0, 1) := by decide +kernel
theorem dX9_takesOf_15 : decode cX9_takesOf 15 = .ok (.getfield 156, 3) := by decide +kernel
theorem dX9_takesOf_18 : decode cX9_takesOf 18 = .ok (.if_icmp .ge 38, 3) := by decide +kernel
theorem dX9_takesOf_21 : decode cX9_takesOf 21 = .ok (.aload_n 1, 1) := by decide +kernel
theorem dX9_takesOf_22 : decode cX9_takesOf 22 = .ok (.iload_n 2, 1) := by decide +kernel
theorem dX9_takesOf_23 : decode cX9_takesOf 23 = .ok (.invokevirtual 172, 3) := by decide +kernel
theorem dX9_takesOf_26 : decode cX9_takesOf 26 = .ok (.aload_n 0, 1) := by decide +kernel
theorem dX9_takesOf_27 : decode cX9_takesOf 27 = .ok (.getfield 40, 3) := by decide +kernel
theorem dX9_takesOf_30 : decode cX9_takesOf 30 = .ok (.aload_n 0, 1) := by decide +kernel
theorem dX9_takesOf_31 : decode cX9_takesOf 31 = .ok (.getfield 144, 3) := by decide +kernel
theorem dX9_takesOf_34 : decode cX9_takesOf 34 = .ok (.iaload, 1) := by decide +kernel
theorem dX9_takesOf_35 : decode cX9_takesOf 35 = .ok (.if_icmp .ne 15, 3) := by decide +kernel
theorem dX9_takesOf_38 : decode cX9_takesOf 38 = .ok (.aload_n 0, 1) := by decide +kernel
theorem dX9_takesOf_39 : decode cX9_takesOf 39 = .ok (.dup, 1) := by decide +kernel
theorem dX9_takesOf_40 : decode cX9_takesOf 40 = .ok (.getfield 144, 3) := by decide +kernel
theorem dX9_takesOf_43 : decode cX9_takesOf 43 = .ok (.iconst 1, 1) := by decide +kernel
theorem dX9_takesOf_44 : decode cX9_takesOf 44 = .ok (.iadd, 1) := by decide +kernel
theorem dX9_takesOf_45 : decode cX9_takesOf 45 = .ok (.putfield 144, 3) := by decide +kernel
theorem dX9_takesOf_48 : decode cX9_takesOf 48 = .ok (.iload_n 2, 1) := by decide +kernel
theorem dX9_takesOf_49 : decode cX9_takesOf 49 = .ok (.ireturn, 1) := by decide +kernel
theorem dX9_takesOf_50 : decode cX9_takesOf 50 = .ok (.iinc 2 1, 3) := by decide +kernel
theorem dX9_takesOf_53 : decode cX9_takesOf 53 = .ok (.goto (-51), 3) := by decide +kernel
theorem dX9_takesOf_56 : decode cX9_takesOf 56 = .ok (.iconst (-1), 1) := by decide +kernel
theorem dX9_takesOf_57 : decode cX9_takesOf 57 = .ok (.ireturn, 1) := by decide +kernel
theorem dX9_number_0 : decode cX9_number 0 = .ok (.aload_n 0, 1) := by decide +kernel
theorem dX9_number_1 : decode cX9_number 1 = .ok (.invokevirtual 176, 3) := by decide +kernel
theorem dX9_number_4 : decode cX9_number 4 = .ok (.ifCond .ne 5, 3) := by decide +kernel
theorem dX9_number_7 : decode cX9_number 7 = .ok (.iconst (-1), 1) := by decide +kernel
theorem dX9_number_8 : decode cX9_number 8 = .ok (.ireturn, 1) := by decide +kernel
theorem dX9_number_9 : decode cX9_number 9 = .ok (.iconst 0, 1) := by decide +kernel
theorem dX9_number_10 : decode cX9_number 10 = .ok (.istore_n 2, 1) := by decide +kernel
theorem dX9_number_11 : decode cX9_number 11 = .ok (.iconst 0, 1) := by decide +kernel
theorem dX9_number_12 : decode cX9_number 12 = .ok (.istore_n 3, 1) := by decide +kernel
theorem dX9_number_13 : decode cX9_number 13 = .ok (.iload_n 3, 1) := by decide +kernel
theorem dX9_number_14 : decode cX9_number 14 = .ok (.iload_n 1, 1) := by decide +kernel
theorem dX9_number_15 : decode cX9_number 15 = .ok (.if_icmp .ge 44, 3) := by decide +kernel
theorem dX9_number_18 : decode cX9_number 18 = .ok (.aload_n 0, 1) := by decide +kernel
theorem dX9_number_19 : decode cX9_number 19 = .ok (.invokevirtual 176, 3) := by decide +kernel
theorem dX9_number_22 : decode cX9_number 22 = .ok (.ifCond .eq 37, 3) := by decide +kernel
theorem dX9_number_25 : decode cX9_number 25 = .ok (.bipush 10, 2) := by decide +kernel
theorem dX9_number_27 : decode cX9_number 27 = .ok (.iload_n 2, 1) := by decide +kernel
theorem dX9_number_28 : decode cX9_number 28 = .ok (.imul, 1) := by decide +kernel
theorem dX9_number_29 : decode cX9_number 29 = .ok (.aload_n 0, 1) := by decide +kernel
theorem dX9_number_30 : decode cX9_number 30 = .ok (.getfield 40, 3) := by decide +kernel
theorem dX9_number_33 : decode cX9_number 33 = .ok (.aload_n 0, 1) := by decide +kernel
theorem dX9_number_34 : decode cX9_number 34 = .ok (.getfield 144, 3) := by decide +kernel
theorem dX9_number_37 : decode cX9_number 37 = .ok (.iaload, 1) := by decide +kernel
theorem dX9_number_38 : decode cX9_number 38 = .ok (.iadd, 1) := by decide +kernel
theorem dX9_number_39 : decode cX9_number 39 = .ok (.bipush 48, 2) := by decide +kernel
theorem dX9_number_41 : decode cX9_number 41 = .ok (.isub, 1) := by decide +kernel
theorem dX9_number_42 : decode cX9_number 42 = .ok (.istore_n 2, 1) := by decide +kernel
theorem dX9_number_43 : decode cX9_number 43 = .ok (.aload_n 0, 1) := by decide +kernel
theorem dX9_number_44 : decode cX9_number 44 = .ok (.dup, 1) := by decide +kernel
theorem dX9_number_45 : decode cX9_number 45 = .ok (.getfield 144, 3) := by decide +kernel
theorem dX9_number_48 : decode cX9_number 48 = .ok (.iconst 1, 1) := by decide +kernel
theorem dX9_number_49 : decode cX9_number 49 = .ok (.iadd, 1) := by decide +kernel
theorem dX9_number_50 : decode cX9_number 50 = .ok (.putfield 144, 3) := by decide +kernel
theorem dX9_number_53 : decode cX9_number 53 = .ok (.iinc 3 1, 3) := by decide +kernel
theorem dX9_number_56 : decode cX9_number 56 = .ok (.goto (-43), 3) := by decide +kernel
theorem dX9_number_59 : decode cX9_number 59 = .ok (.iload_n 2, 1) := by decide +kernel
theorem dX9_number_60 : decode cX9_number 60 = .ok (.ireturn, 1) := by decide +kernel
theorem dX9_digitIn_0 : decode cX9_digitIn 0 = .ok (.aload_n 0, 1) := by decide +kernel
theorem dX9_digitIn_1 : decode cX9_digitIn 1 = .ok (.getfield 144, 3) := by decide +kernel
theorem dX9_digitIn_4 : decode cX9_digitIn 4 = .ok (.aload_n 0, 1) := by decide +kernel
theorem dX9_digitIn_5 : decode cX9_digitIn 5 = .ok (.getfield 156, 3) := by decide +kernel
theorem dX9_digitIn_8 : decode cX9_digitIn 8 = .ok (.if_icmp .ge 26, 3) := by decide +kernel
theorem dX9_digitIn_11 : decode cX9_digitIn 11 = .ok (.aload_n 0, 1) := by decide +kernel
theorem dX9_digitIn_12 : decode cX9_digitIn 12 = .ok (.getfield 40, 3) := by decide +kernel
theorem dX9_digitIn_15 : decode cX9_digitIn 15 = .ok (.aload_n 0, 1) := by decide +kernel
theorem dX9_digitIn_16 : decode cX9_digitIn 16 = .ok (.getfield 144, 3) := by decide +kernel
theorem dX9_digitIn_19 : decode cX9_digitIn 19 = .ok (.iaload, 1) := by decide +kernel
theorem dX9_digitIn_20 : decode cX9_digitIn 20 = .ok (.bipush 48, 2) := by decide +kernel
theorem dX9_digitIn_22 : decode cX9_digitIn 22 = .ok (.isub, 1) := by decide +kernel
theorem dX9_digitIn_23 : decode cX9_digitIn 23 = .ok (.i2l, 1) := by decide +kernel
theorem dX9_digitIn_24 : decode cX9_digitIn 24 = .ok (.iload_n 1, 1) := by decide +kernel
theorem dX9_digitIn_25 : decode cX9_digitIn 25 = .ok (.i2l, 1) := by decide +kernel
theorem dX9_digitIn_26 : decode cX9_digitIn 26 = .ok (.iload_n 2, 1) := by decide +kernel
theorem dX9_digitIn_27 : decode cX9_digitIn 27 = .ok (.i2l, 1) := by decide +kernel
theorem dX9_digitIn_28 : decode cX9_digitIn 28 = .ok (.invokestatic 119, 3) := by decide +kernel
theorem dX9_digitIn_31 : decode cX9_digitIn 31 = .ok (.ifCond .ne 5, 3) := by decide +kernel
theorem dX9_digitIn_34 : decode cX9_digitIn 34 = .ok (.iconst (-1), 1) := by decide +kernel
theorem dX9_digitIn_35 : decode cX9_digitIn 35 = .ok (.ireturn, 1) := by decide +kernel
theorem dX9_digitIn_36 : decode cX9_digitIn 36 = .ok (.aload_n 0, 1) := by decide +kernel
theorem dX9_digitIn_37 : decode cX9_digitIn 37 = .ok (.dup, 1) := by decide +kernel
theorem dX9_digitIn_38 : decode cX9_digitIn 38 = .ok (.getfield 144, 3) := by decide +kernel
theorem dX9_digitIn_41 : decode cX9_digitIn 41 = .ok (.iconst 1, 1) := by decide +kernel
theorem dX9_digitIn_42 : decode cX9_digitIn 42 = .ok (.iadd, 1) := by decide +kernel
theorem dX9_digitIn_43 : decode cX9_digitIn 43 = .ok (.putfield 144, 3) := by decide +kernel
theorem dX9_digitIn_46 : decode cX9_digitIn 46 = .ok (.aload_n 0, 1) := by decide +kernel
theorem dX9_digitIn_47 : decode cX9_digitIn 47 = .ok (.getfield 40, 3) := by decide +kernel
theorem dX9_digitIn_50 : decode cX9_digitIn 50 = .ok (.aload_n 0, 1) := by decide +kernel
theorem dX9_digitIn_51 : decode cX9_digitIn 51 = .ok (.getfield 144, 3) := by decide +kernel
theorem dX9_digitIn_54 : decode cX9_digitIn 54 = .ok (.iconst 1, 1) := by decide +kernel
theorem dX9_digitIn_55 : decode cX9_digitIn 55 = .ok (.isub, 1) := by decide +kernel
theorem dX9_digitIn_56 : decode cX9_digitIn 56 = .ok (.iaload, 1) := by decide +kernel
theorem dX9_digitIn_57 : decode cX9_digitIn 57 = .ok (.bipush 48, 2) := by decide +kernel
theorem dX9_digitIn_59 : decode cX9_digitIn 59 = .ok (.isub, 1) := by decide +kernel
theorem dX9_digitIn_60 : decode cX9_digitIn 60 = .ok (.ireturn, 1) := by decide +kernel
theorem dX9_faultOf_0 : decode cX9_faultOf 0 = .ok (.iload_n 3, 1) := by decide +kernel
theorem dX9_faultOf_1 : decode cX9_faultOf 1 = .ok (.ifCond .eq 18, 3) := by decide +kernel
theorem dX9_faultOf_4 : decode cX9_faultOf 4 = .ok (.aload_n 0, 1) := by decide +kernel
theorem dX9_faultOf_5 : decode cX9_faultOf 5 = .ok (.getfield 144, 3) := by decide +kernel
theorem dX9_faultOf_8 : decode cX9_faultOf 8 = .ok (.aload_n 0, 1) := by decide +kernel
theorem dX9_faultOf_9 : decode cX9_faultOf 9 = .ok (.getfield 156, 3) := by decide +kernel
theorem dX9_faultOf_12 : decode cX9_faultOf 12 = .ok (.if_icmp .ne 7, 3) := by decide +kernel
theorem dX9_faultOf_15 : decode cX9_faultOf 15 = .ok (.iconst 1, 1) := by decide +kernel
theorem dX9_faultOf_16 : decode cX9_faultOf 16 = .ok (.goto 4, 3) := by decide +kernel
theorem dX9_faultOf_19 : decode cX9_faultOf 19 = .ok (.iconst 0, 1) := by decide +kernel
theorem dX9_faultOf_20 : decode cX9_faultOf 20 = .ok (.istore 4, 2) := by decide +kernel
theorem dX9_faultOf_22 : decode cX9_faultOf 22 = .ok (.iload_n 1, 1) := by decide +kernel
theorem dX9_faultOf_23 : decode cX9_faultOf 23 = .ok (.iload_n 2, 1) := by decide +kernel
theorem dX9_faultOf_24 : decode cX9_faultOf 24 = .ok (.if_icmp .le 20, 3) := by decide +kernel
theorem dX9_faultOf_27 : decode cX9_faultOf 27 = .ok (.iload 4, 2) := by decide +kernel
theorem dX9_faultOf_29 : decode cX9_faultOf 29 = .ok (.ifCond .ne 11, 3) := by decide +kernel
theorem dX9_faultOf_32 : decode cX9_faultOf 32 = .ok (.aload_n 0, 1) := by decide +kernel
theorem dX9_faultOf_33 : decode cX9_faultOf 33 = .ok (.getfield 144, 3) := by decide +kernel
theorem dX9_faultOf_36 : decode cX9_faultOf 36 = .ok (.iload_n 2, 1) := by decide +kernel
theorem dX9_faultOf_37 : decode cX9_faultOf 37 = .ok (.if_icmp .lt 7, 3) := by decide +kernel
theorem dX9_faultOf_40 : decode cX9_faultOf 40 = .ok (.iconst (-1), 1) := by decide +kernel
theorem dX9_faultOf_41 : decode cX9_faultOf 41 = .ok (.iload_n 2, 1) := by decide +kernel
theorem dX9_faultOf_42 : decode cX9_faultOf 42 = .ok (.isub, 1) := by decide +kernel
theorem dX9_faultOf_43 : decode cX9_faultOf 43 = .ok (.ireturn, 1) := by decide +kernel
theorem dX9_faultOf_44 : decode cX9_faultOf 44 = .ok (.iload 4, 2) := by decide +kernel
theorem dX9_faultOf_46 : decode cX9_faultOf 46 = .ok (.ifCond .eq 7, 3) := by decide +kernel
theorem dX9_faultOf_49 : decode cX9_faultOf 49 = .ok (.iconst 0, 1) := by decide +kernel
theorem dX9_faultOf_50 : decode cX9_faultOf 50 = .ok (.goto 9, 3) := by decide +kernel
theorem dX9_faultOf_53 : decode cX9_faultOf 53 = .ok (.iconst (-1), 1) := by decide +kernel
theorem dX9_faultOf_54 : decode cX9_faultOf 54 = .ok (.aload_n 0, 1) := by decide +kernel
theorem dX9_faultOf_55 : decode cX9_faultOf 55 = .ok (.getfield 144, 3) := by decide +kernel
theorem dX9_faultOf_58 : decode cX9_faultOf 58 = .ok (.isub, 1) := by decide +kernel
theorem dX9_faultOf_59 : decode cX9_faultOf 59 = .ok (.ireturn, 1) := by decide +kernel
theorem dX9_things_0 : decode cX9_things 0 = .ok (.aload_n 0, 1) := by decide +kernel
theorem dX9_things_1 : decode cX9_things 1 = .ok (.iconst 0, 1) := by decide +kernel
theorem dX9_things_2 : decode cX9_things 2 = .ok (.putfield 3, 3) := by decide +kernel
theorem dX9_things_5 : decode cX9_things 5 = .ok (.aload_n 0, 1) := by decide +kernel
theorem dX9_things_6 : decode cX9_things 6 = .ok (.bipush 15, 2) := by decide +kernel
theorem dX9_things_8 : decode cX9_things 8 = .ok (.invokevirtual 180, 3) := by decide +kernel
theorem dX9_things_11 : decode cX9_things 11 = .ok (.istore_n 1, 1) := by decide +kernel
theorem dX9_things_12 : decode cX9_things 12 = .ok (.aload_n 0, 1) := by decide +kernel
theorem dX9_things_13 : decode cX9_things 13 = .ok (.iconst 0, 1) := by decide +kernel
theorem dX9_things_14 : decode cX9_things 14 = .ok (.putfield 183, 3) := by decide +kernel
theorem dX9_things_17 : decode cX9_things 17 = .ok (.iconst 1, 1) := by decide +kernel
theorem dX9_things_18 : decode cX9_things 18 = .ok (.istore_n 2, 1) := by decide +kernel
theorem dX9_things_19 : decode cX9_things 19 = .ok (.iload_n 1, 1) := by decide +kernel
theorem dX9_things_20 : decode cX9_things 20 = .ok (.ifCond .le 7, 3) := by decide +kernel
theorem dX9_things_23 : decode cX9_things 23 = .ok (.iconst 1, 1) := by decide +kernel
theorem dX9_things_24 : decode cX9_things 24 = .ok (.goto 4, 3) := by decide +kernel
theorem dX9_things_27 : decode cX9_things 27 = .ok (.iconst 0, 1) := by decide +kernel
theorem dX9_things_28 : decode cX9_things 28 = .ok (.istore_n 3, 1) := by decide +kernel
theorem dX9_things_29 : decode cX9_things 29 = .ok (.iload_n 3, 1) := by decide +kernel
theorem dX9_things_30 : decode cX9_things 30 = .ok (.ifCond .eq 90, 3) := by decide +kernel
theorem dX9_things_33 : decode cX9_things 33 = .ok (.aload_n 0, 1) := by decide +kernel
theorem dX9_things_34 : decode cX9_things 34 = .ok (.getfield 43, 3) := by decide +kernel
theorem dX9_things_37 : decode cX9_things 37 = .ok (.aload_n 0, 1) := by decide +kernel
theorem dX9_things_38 : decode cX9_things 38 = .ok (.getfield 183, 3) := by decide +kernel
theorem dX9_things_41 : decode cX9_things 41 = .ok (.aload_n 0, 1) := by decide +kernel
theorem dX9_things_42 : decode cX9_things 42 = .ok (.getfield 116, 3) := by decide +kernel
theorem dX9_things_45 : decode cX9_things 45 = .ok (.aload_n 0, 1) := by decide +kernel
theorem dX9_things_46 : decode cX9_things 46 = .ok (.getfield 183, 3) := by decide +kernel
theorem dX9_things_49 : decode cX9_things 49 = .ok (.iadd, 1) := by decide +kernel
theorem dX9_things_50 : decode cX9_things 50 = .ok (.bipush 8, 2) := by decide +kernel
theorem dX9_things_52 : decode cX9_things 52 = .ok (.if_icmp .ge 13, 3) := by decide +kernel
theorem dX9_things_55 : decode cX9_things 55 = .ok (.aload_n 0, 1) := by decide +kernel
theorem dX9_things_56 : decode cX9_things 56 = .ok (.iconst 1, 1) := by decide +kernel
theorem dX9_things_57 : decode cX9_things 57 = .ok (.bipush 9, 2) := by decide +kernel
theorem dX9_things_59 : decode cX9_things 59 = .ok (.invokevirtual 186, 3) := by decide +kernel
theorem dX9_things_62 : decode cX9_things 62 = .ok (.goto 4, 3) := by decide +kernel
theorem dX9_things_65 : decode cX9_things 65 = .ok (.iconst (-1), 1) := by decide +kernel
theorem dX9_things_66 : decode cX9_things 66 = .ok (.iastore, 1) := by decide +kernel
theorem dX9_things_67 : decode cX9_things 67 = .ok (.aload_n 0, 1) := by decide +kernel
theorem dX9_things_68 : decode cX9_things 68 = .ok (.getfield 43, 3) := by decide +kernel
theorem dX9_things_71 : decode cX9_things 71 = .ok (.aload_n 0, 1) := by decide +kernel
theorem dX9_things_72 : decode cX9_things 72 = .ok (.getfield 183, 3) := by decide +kernel
theorem dX9_things_75 : decode cX9_things 75 = .ok (.iaload, 1) := by decide +kernel
theorem dX9_things_76 : decode cX9_things 76 = .ok (.ifCond .le 7, 3) := by decide +kernel
theorem dX9_things_79 : decode cX9_things 79 = .ok (.iconst 1, 1) := by decide +kernel
theorem dX9_things_80 : decode cX9_things 80 = .ok (.goto 4, 3) := by decide +kernel
theorem dX9_things_83 : decode cX9_things 83 = .ok (.iconst 0, 1) := by decide +kernel
theorem dX9_things_84 : decode cX9_things 84 = .ok (.istore_n 2, 1) := by decide +kernel
theorem dX9_things_85 : decode cX9_things 85 = .ok (.aload_n 0, 1) := by decide +kernel
theorem dX9_things_86 : decode cX9_things 86 = .ok (.dup, 1) := by decide +kernel
theorem dX9_things_87 : decode cX9_things 87 = .ok (.getfield 183, 3) := by decide +kernel
theorem dX9_things_90 : decode cX9_things 90 = .ok (.iload_n 2, 1) := by decide +kernel
theorem dX9_things_91 : decode cX9_things 91 = .ok (.invokestatic 159, 3) := by decide +kernel
theorem dX9_things_94 : decode cX9_things 94 = .ok (.iadd, 1) := by decide +kernel
theorem dX9_things_95 : decode cX9_things 95 = .ok (.putfield 183, 3) := by decide +kernel
theorem dX9_things_98 : decode cX9_things 98 = .ok (.iload_n 2, 1) := by decide +kernel
theorem dX9_things_99 : decode cX9_things 99 = .ok (.ifCond .eq 16, 3) := by decide +kernel
theorem dX9_things_102 : decode cX9_things 102 = .ok (.aload_n 0, 1) := by decide +kernel
theorem dX9_things_103 : decode cX9_things 103 = .ok (.bipush 59, 2) := by decide +kernel
theorem dX9_things_105 : decode cX9_things 105 = .ok (.invokevirtual 189, 3) := by decide +kernel
theorem dX9_things_108 : decode cX9_things 108 = .ok (.ifCond .eq 7, 3) := by decide +kernel
theorem dX9_things_111 : decode cX9_things 111 = .ok (.iconst 1, 1) := by decide +kernel
theorem dX9_things_112 : decode cX9_things 112 = .ok (.goto 4, 3) := by decide +kernel
theorem dX9_things_115 : decode cX9_things 115 = .ok (.iconst 0, 1) := by decide +kernel
theorem dX9_things_116 : decode cX9_things 116 = .ok (.istore_n 3, 1) := by decide +kernel
theorem dX9_things_117 : decode cX9_things 117 = .ok (.goto (-88), 3) := by decide +kernel
theorem dX9_things_120 : decode cX9_things 120 = .ok (.aload_n 0, 1) := by decide +kernel
theorem dX9_things_121 : decode cX9_things 121 = .ok (.iload_n 1, 1) := by decide +kernel
theorem dX9_things_122 : decode cX9_things 122 = .ok (.bipush 15, 2) := by decide +kernel
theorem dX9_things_124 : decode cX9_things 124 = .ok (.iload_n 2, 1) := by decide +kernel
theorem dX9_things_125 : decode cX9_things 125 = .ok (.invokevirtual 192, 3) := by decide +kernel
theorem dX9_things_128 : decode cX9_things 128 = .ok (.istore 4, 2) := by decide +kernel
theorem dX9_things_130 : decode cX9_things 130 = .ok (.iload 4, 2) := by decide +kernel
theorem dX9_things_132 : decode cX9_things 132 = .ok (.ifCond .ge 6, 3) := by decide +kernel
theorem dX9_things_135 : decode cX9_things 135 = .ok (.iload 4, 2) := by decide +kernel
theorem dX9_things_137 : decode cX9_things 137 = .ok (.ireturn, 1) := by decide +kernel
theorem dX9_things_138 : decode cX9_things 138 = .ok (.iconst 0, 1) := by decide +kernel
theorem dX9_things_139 : decode cX9_things 139 = .ok (.istore 5, 2) := by decide +kernel
theorem dX9_things_141 : decode cX9_things 141 = .ok (.iload 5, 2) := by decide +kernel
theorem dX9_things_143 : decode cX9_things 143 = .ok (.aload_n 0, 1) := by decide +kernel
theorem dX9_things_144 : decode cX9_things 144 = .ok (.getfield 183, 3) := by decide +kernel
theorem dX9_things_147 : decode cX9_things 147 = .ok (.if_icmp .ge 84, 3) := by decide +kernel
theorem dX9_things_150 : decode cX9_things 150 = .ok (.aload_n 0, 1) := by decide +kernel
theorem dX9_things_151 : decode cX9_things 151 = .ok (.getfield 27, 3) := by decide +kernel
theorem dX9_things_154 : decode cX9_things 154 = .ok (.aload_n 0, 1) := by decide +kernel
theorem dX9_things_155 : decode cX9_things 155 = .ok (.getfield 116, 3) := by decide +kernel
theorem dX9_things_158 : decode cX9_things 158 = .ok (.aload_n 0, 1) := by decide +kernel
theorem dX9_things_159 : decode cX9_things 159 = .ok (.getfield 43, 3) := by decide +kernel
theorem dX9_things_162 : decode cX9_things 162 = .ok (.iload 5, 2) := by decide +kernel
theorem dX9_things_164 : decode cX9_things 164 = .ok (.iaload, 1) := by decide +kernel
theorem dX9_things_165 : decode cX9_things 165 = .ok (.iastore, 1) := by decide +kernel
theorem dX9_things_166 : decode cX9_things 166 = .ok (.aload_n 0, 1) := by decide +kernel
theorem dX9_things_167 : decode cX9_things 167 = .ok (.getfield 34, 3) := by decide +kernel
theorem dX9_things_170 : decode cX9_things 170 = .ok (.aload_n 0, 1) := by decide +kernel
theorem dX9_things_171 : decode cX9_things 171 = .ok (.getfield 116, 3) := by decide +kernel
theorem dX9_things_174 : decode cX9_things 174 = .ok (.iconst 0, 1) := by decide +kernel
theorem dX9_things_175 : decode cX9_things 175 = .ok (.iastore, 1) := by decide +kernel
theorem dX9_things_176 : decode cX9_things 176 = .ok (.aload_n 0, 1) := by decide +kernel
theorem dX9_things_177 : decode cX9_things 177 = .ok (.getfield 34, 3) := by decide +kernel
theorem dX9_things_180 : decode cX9_things 180 = .ok (.bipush 8, 2) := by decide +kernel
theorem dX9_things_182 : decode cX9_things 182 = .ok (.aload_n 0, 1) := by decide +kernel
theorem dX9_things_183 : decode cX9_things 183 = .ok (.getfield 116, 3) := by decide +kernel
theorem dX9_things_186 : decode cX9_things 186 = .ok (.iadd, 1) := by decide +kernel
theorem dX9_things_187 : decode cX9_things 187 = .ok (.iconst 0, 1) := by decide +kernel
theorem dX9_things_188 : decode cX9_things 188 = .ok (.iastore, 1) := by decide +kernel
theorem dX9_things_189 : decode cX9_things 189 = .ok (.aload_n 0, 1) := by decide +kernel
theorem dX9_things_190 : decode cX9_things 190 = .ok (.getfield 34, 3) := by decide +kernel
theorem dX9_things_193 : decode cX9_things 193 = .ok (.bipush 16, 2) := by decide +kernel
theorem dX9_things_195 : decode cX9_things 195 = .ok (.aload_n 0, 1) := by decide +kernel
theorem dX9_things_196 : decode cX9_things 196 = .ok (.getfield 116, 3) := by decide +kernel
theorem dX9_things_199 : decode cX9_things 199 = .ok (.iadd, 1) := by decide +kernel
theorem dX9_things_200 : decode cX9_things 200 = .ok (.iconst 0, 1) := by decide +kernel
theorem dX9_things_201 : decode cX9_things 201 = .ok (.iastore, 1) := by decide +kernel
theorem dX9_things_202 : decode cX9_things 202 = .ok (.aload_n 0, 1) := by decide +kernel
theorem dX9_things_203 : decode cX9_things 203 = .ok (.getfield 34, 3) := by decide +kernel
theorem dX9_things_206 : decode cX9_things 206 = .ok (.bipush 24, 2) := by decide +kernel
theorem dX9_things_208 : decode cX9_things 208 = .ok (.aload_n 0, 1) := by decide +kernel
theorem dX9_things_209 : decode cX9_things 209 = .ok (.getfield 116, 3) := by decide +kernel
theorem dX9_things_212 : decode cX9_things 212 = .ok (.iadd, 1) := by decide +kernel
theorem dX9_things_213 : decode cX9_things 213 = .ok (.iconst 0, 1) := by decide +kernel
theorem dX9_things_214 : decode cX9_things 214 = .ok (.iastore, 1) := by decide +kernel
theorem dX9_things_215 : decode cX9_things 215 = .ok (.aload_n 0, 1) := by decide +kernel
theorem dX9_things_216 : decode cX9_things 216 = .ok (.dup, 1) := by decide +kernel
theorem dX9_things_217 : decode cX9_things 217 = .ok (.getfield 116, 3) := by decide +kernel
theorem dX9_things_220 : decode cX9_things 220 = .ok (.iconst 1, 1) := by decide +kernel
theorem dX9_things_221 : decode cX9_things 221 = .ok (.iadd, 1) := by decide +kernel
theorem dX9_things_222 : decode cX9_things 222 = .ok (.putfield 116, 3) := by decide +kernel
theorem dX9_things_225 : decode cX9_things 225 = .ok (.iinc 5 1, 3) := by decide +kernel
theorem dX9_things_228 : decode cX9_things 228 = .ok (.goto (-87), 3) := by decide +kernel
theorem dX9_things_231 : decode cX9_things 231 = .ok (.aload_n 0, 1) := by decide +kernel
theorem dX9_things_232 : decode cX9_things 232 = .ok (.aload_n 0, 1) := by decide +kernel
theorem dX9_things_233 : decode cX9_things 233 = .ok (.getfield 183, 3) := by decide +kernel
theorem dX9_things_236 : decode cX9_things 236 = .ok (.ifCond .le 7, 3) := by decide +kernel
theorem dX9_things_239 : decode cX9_things 239 = .ok (.iconst 0, 1) := by decide +kernel
theorem dX9_things_240 : decode cX9_things 240 = .ok (.goto 7, 3) := by decide +kernel
theorem dX9_things_243 : decode cX9_things 243 = .ok (.aload_n 0, 1) := by decide +kernel
theorem dX9_things_244 : decode cX9_things 244 = .ok (.getfield 196, 3) := by decide +kernel
theorem dX9_things_247 : decode cX9_things 247 = .ok (.putfield 196, 3) := by decide +kernel
theorem dX9_things_250 : decode cX9_things 250 = .ok (.aload_n 0, 1) := by decide +kernel
theorem dX9_things_251 : decode cX9_things 251 = .ok (.dup, 1) := by decide +kernel
theorem dX9_things_252 : decode cX9_things 252 = .ok (.getfield 199, 3) := by decide +kernel
theorem dX9_things_255 : decode cX9_things 255 = .ok (.aload_n 0, 1) := by decide +kernel
theorem dX9_things_256 : decode cX9_things 256 = .ok (.getfield 183, 3) := by decide +kernel
theorem dX9_things_259 : decode cX9_things 259 = .ok (.ifCond .le 7, 3) := by decide +kernel
theorem dX9_things_262 : decode cX9_things 262 = .ok (.iconst 1, 1) := by decide +kernel
theorem dX9_things_263 : decode cX9_things 263 = .ok (.goto 4, 3) := by decide +kernel
theorem dX9_things_266 : decode cX9_things 266 = .ok (.iconst 0, 1) := by decide +kernel
theorem dX9_things_267 : decode cX9_things 267 = .ok (.invokestatic 159, 3) := by decide +kernel
theorem dX9_things_270 : decode cX9_things 270 = .ok (.iadd, 1) := by decide +kernel
theorem dX9_things_271 : decode cX9_things 271 = .ok (.putfield 199, 3) := by decide +kernel
theorem dX9_things_274 : decode cX9_things 274 = .ok (.aload_n 0, 1) := by decide +kernel
theorem dX9_things_275 : decode cX9_things 275 = .ok (.getfield 183, 3) := by decide +kernel
theorem dX9_things_278 : decode cX9_things 278 = .ok (.ireturn, 1) := by decide +kernel
theorem dX9_thingBut_0 : decode cX9_thingBut 0 = .ok (.aload_n 0, 1) := by decide +kernel
theorem dX9_thingBut_1 : decode cX9_thingBut 1 = .ok (.iconst 0, 1) := by decide +kernel
theorem dX9_thingBut_2 : decode cX9_thingBut 2 = .ok (.aload_n 0, 1) := by decide +kernel
theorem dX9_thingBut_3 : decode cX9_thingBut 3 = .ok (.getfield 116, 3) := by decide +kernel
theorem dX9_thingBut_6 : decode cX9_thingBut 6 = .ok (.iconst 1, 1) := by decide +kernel
theorem dX9_thingBut_7 : decode cX9_thingBut 7 = .ok (.isub, 1) := by decide +kernel
theorem dX9_thingBut_8 : decode cX9_thingBut 8 = .ok (.invokevirtual 186, 3) := by decide +kernel
theorem dX9_thingBut_11 : decode cX9_thingBut 11 = .ok (.istore_n 2, 1) := by decide +kernel
theorem dX9_thingBut_12 : decode cX9_thingBut 12 = .ok (.iload_n 2, 1) := by decide +kernel
theorem dX9_thingBut_13 : decode cX9_thingBut 13 = .ok (.ifCond .lt 32, 3) := by decide +kernel
theorem dX9_thingBut_16 : decode cX9_thingBut 16 = .ok (.iload_n 2, 1) := by decide +kernel
theorem dX9_thingBut_17 : decode cX9_thingBut 17 = .ok (.iload_n 1, 1) := by decide +kernel
theorem dX9_thingBut_18 : decode cX9_thingBut 18 = .ok (.if_icmp .eq 15, 3) := by decide +kernel
theorem dX9_thingBut_21 : decode cX9_thingBut 21 = .ok (.aload_n 0, 1) := by decide +kernel
theorem dX9_thingBut_22 : decode cX9_thingBut 22 = .ok (.aload_n 0, 1) := by decide +kernel
theorem dX9_thingBut_23 : decode cX9_thingBut 23 = .ok (.getfield 34, 3) := by decide +kernel
theorem dX9_thingBut_26 : decode cX9_thingBut 26 = .ok (.iload_n 2, 1) := by decide +kernel
theorem dX9_thingBut_27 : decode cX9_thingBut 27 = .ok (.invokevirtual 202, 3) := by decide +kernel
theorem dX9_thingBut_30 : decode cX9_thingBut 30 = .ok (.ifCond .ne 15, 3) := by decide +kernel
theorem dX9_thingBut_33 : decode cX9_thingBut 33 = .ok (.aload_n 0, 1) := by decide +kernel
theorem dX9_thingBut_34 : decode cX9_thingBut 34 = .ok (.dup, 1) := by decide +kernel
theorem dX9_thingBut_35 : decode cX9_thingBut 35 = .ok (.getfield 144, 3) := by decide +kernel
theorem dX9_thingBut_38 : decode cX9_thingBut 38 = .ok (.iconst 1, 1) := by decide +kernel
theorem dX9_thingBut_39 : decode cX9_thingBut 39 = .ok (.isub, 1) := by decide +kernel
theorem dX9_thingBut_40 : decode cX9_thingBut 40 = .ok (.putfield 144, 3) := by decide +kernel
theorem dX9_thingBut_43 : decode cX9_thingBut 43 = .ok (.iconst (-1), 1) := by decide +kernel
theorem dX9_thingBut_44 : decode cX9_thingBut 44 = .ok (.ireturn, 1) := by decide +kernel
theorem dX9_thingBut_45 : decode cX9_thingBut 45 = .ok (.iload_n 2, 1) := by decide +kernel
theorem dX9_thingBut_46 : decode cX9_thingBut 46 = .ok (.ireturn, 1) := by decide +kernel
theorem dX9_strings_0 : decode cX9_strings 0 = .ok (.aload_n 0, 1) := by decide +kernel
theorem dX9_strings_1 : decode cX9_strings 1 = .ok (.iconst 0, 1) := by decide +kernel
theorem dX9_strings_2 : decode cX9_strings 2 = .ok (.putfield 3, 3) := by decide +kernel
theorem dX9_strings_5 : decode cX9_strings 5 = .ok (.aload_n 0, 1) := by decide +kernel
theorem dX9_strings_6 : decode cX9_strings 6 = .ok (.bipush 35, 2) := by decide +kernel
theorem dX9_strings_8 : decode cX9_strings 8 = .ok (.invokevirtual 180, 3) := by decide +kernel
theorem dX9_strings_11 : decode cX9_strings 11 = .ok (.istore_n 1, 1) := by decide +kernel
theorem dX9_strings_12 : decode cX9_strings 12 = .ok (.aload_n 0, 1) := by decide +kernel
theorem dX9_strings_13 : decode cX9_strings 13 = .ok (.iconst 0, 1) := by decide +kernel
theorem dX9_strings_14 : decode cX9_strings 14 = .ok (.putfield 183, 3) := by decide +kernel
theorem dX9_strings_17 : decode cX9_strings 17 = .ok (.iconst 1, 1) := by decide +kernel
theorem dX9_strings_18 : decode cX9_strings 18 = .ok (.istore_n 2, 1) := by decide +kernel
theorem dX9_strings_19 : decode cX9_strings 19 = .ok (.iload_n 1, 1) := by decide +kernel
theorem dX9_strings_20 : decode cX9_strings 20 = .ok (.ifCond .le 7, 3) := by decide +kernel
theorem dX9_strings_23 : decode cX9_strings 23 = .ok (.iconst 1, 1) := by decide +kernel
theorem dX9_strings_24 : decode cX9_strings 24 = .ok (.goto 4, 3) := by decide +kernel
theorem dX9_strings_27 : decode cX9_strings 27 = .ok (.iconst 0, 1) := by decide +kernel
theorem dX9_strings_28 : decode cX9_strings 28 = .ok (.istore_n 3, 1) := by decide +kernel
theorem dX9_strings_29 : decode cX9_strings 29 = .ok (.iload_n 3, 1) := by decide +kernel
theorem dX9_strings_30 : decode cX9_strings 30 = .ok (.ifCond .eq 101, 3) := by decide +kernel
theorem dX9_strings_33 : decode cX9_strings 33 = .ok (.aload_n 0, 1) := by decide +kernel
theorem dX9_strings_34 : decode cX9_strings 34 = .ok (.iconst (-1), 1) := by decide +kernel
theorem dX9_strings_35 : decode cX9_strings 35 = .ok (.invokevirtual 206, 3) := by decide +kernel
theorem dX9_strings_38 : decode cX9_strings 38 = .ok (.istore 4, 2) := by decide +kernel
theorem dX9_strings_40 : decode cX9_strings 40 = .ok (.iload 4, 2) := by decide +kernel
theorem dX9_strings_42 : decode cX9_strings 42 = .ok (.ifCond .ge 7, 3) := by decide +kernel
theorem dX9_strings_45 : decode cX9_strings 45 = .ok (.iconst (-1), 1) := by decide +kernel
theorem dX9_strings_46 : decode cX9_strings 46 = .ok (.goto 9, 3) := by decide +kernel
theorem dX9_strings_49 : decode cX9_strings 49 = .ok (.aload_n 0, 1) := by decide +kernel
theorem dX9_strings_50 : decode cX9_strings 50 = .ok (.iload 4, 2) := by decide +kernel
theorem dX9_strings_52 : decode cX9_strings 52 = .ok (.invokevirtual 206, 3) := by decide +kernel
theorem dX9_strings_55 : decode cX9_strings 55 = .ok (.istore 5, 2) := by decide +kernel
theorem dX9_strings_57 : decode cX9_strings 57 = .ok (.iload 5, 2) := by decide +kernel
theorem dX9_strings_59 : decode cX9_strings 59 = .ok (.ifCond .lt 7, 3) := by decide +kernel
theorem dX9_strings_62 : decode cX9_strings 62 = .ok (.iconst 1, 1) := by decide +kernel
theorem dX9_strings_63 : decode cX9_strings 63 = .ok (.goto 4, 3) := by decide +kernel
theorem dX9_strings_66 : decode cX9_strings 66 = .ok (.iconst 0, 1) := by decide +kernel
theorem dX9_strings_67 : decode cX9_strings 67 = .ok (.istore_n 2, 1) := by decide +kernel
theorem dX9_strings_68 : decode cX9_strings 68 = .ok (.aload_n 0, 1) := by decide +kernel
theorem dX9_strings_69 : decode cX9_strings 69 = .ok (.getfield 43, 3) := by decide +kernel
theorem dX9_strings_72 : decode cX9_strings 72 = .ok (.iconst 2, 1) := by decide +kernel
theorem dX9_strings_73 : decode cX9_strings 73 = .ok (.aload_n 0, 1) := by decide +kernel
theorem dX9_strings_74 : decode cX9_strings 74 = .ok (.getfield 183, 3) := by decide +kernel
theorem dX9_strings_77 : decode cX9_strings 77 = .ok (.imul, 1) := by decide +kernel
theorem dX9_strings_78 : decode cX9_strings 78 = .ok (.iload 4, 2) := by decide +kernel
theorem dX9_strings_80 : decode cX9_strings 80 = .ok (.iastore, 1) := by decide +kernel
theorem dX9_strings_81 : decode cX9_strings 81 = .ok (.aload_n 0, 1) := by decide +kernel
theorem dX9_strings_82 : decode cX9_strings 82 = .ok (.getfield 43, 3) := by decide +kernel
theorem dX9_strings_85 : decode cX9_strings 85 = .ok (.iconst 2, 1) := by decide +kernel
theorem dX9_strings_86 : decode cX9_strings 86 = .ok (.aload_n 0, 1) := by decide +kernel
theorem dX9_strings_87 : decode cX9_strings 87 = .ok (.getfield 183, 3) := by decide +kernel
theorem dX9_strings_90 : decode cX9_strings 90 = .ok (.imul, 1) := by decide +kernel
theorem dX9_strings_91 : decode cX9_strings 91 = .ok (.iconst 1, 1) := by decide +kernel
theorem dX9_strings_92 : decode cX9_strings 92 = .ok (.iadd, 1) := by decide +kernel
theorem dX9_strings_93 : decode cX9_strings 93 = .ok (.iload 5, 2) := by decide +kernel
theorem dX9_strings_95 : decode cX9_strings 95 = .ok (.iastore, 1) := by decide +kernel
theorem dX9_strings_96 : decode cX9_strings 96 = .ok (.aload_n 0, 1) := by decide +kernel
theorem dX9_strings_97 : decode cX9_strings 97 = .ok (.dup, 1) := by decide +kernel
theorem dX9_strings_98 : decode cX9_strings 98 = .ok (.getfield 183, 3) := by decide +kernel
theorem dX9_strings_101 : decode cX9_strings 101 = .ok (.iload_n 2, 1) := by decide +kernel
theorem dX9_strings_102 : decode cX9_strings 102 = .ok (.invokestatic 159, 3) := by decide +kernel
theorem dX9_strings_105 : decode cX9_strings 105 = .ok (.iadd, 1) := by decide +kernel
theorem dX9_strings_106 : decode cX9_strings 106 = .ok (.putfield 183, 3) := by decide +kernel
theorem dX9_strings_109 : decode cX9_strings 109 = .ok (.iload_n 2, 1) := by decide +kernel
theorem dX9_strings_110 : decode cX9_strings 110 = .ok (.ifCond .eq 16, 3) := by decide +kernel
theorem dX9_strings_113 : decode cX9_strings 113 = .ok (.aload_n 0, 1) := by decide +kernel
theorem dX9_strings_114 : decode cX9_strings 114 = .ok (.bipush 59, 2) := by decide +kernel
theorem dX9_strings_116 : decode cX9_strings 116 = .ok (.invokevirtual 189, 3) := by decide +kernel
theorem dX9_strings_119 : decode cX9_strings 119 = .ok (.ifCond .eq 7, 3) := by decide +kernel
theorem dX9_strings_122 : decode cX9_strings 122 = .ok (.iconst 1, 1) := by decide +kernel
theorem dX9_strings_123 : decode cX9_strings 123 = .ok (.goto 4, 3) := by decide +kernel
theorem dX9_strings_126 : decode cX9_strings 126 = .ok (.iconst 0, 1) := by decide +kernel
theorem dX9_strings_127 : decode cX9_strings 127 = .ok (.istore_n 3, 1) := by decide +kernel
theorem dX9_strings_128 : decode cX9_strings 128 = .ok (.goto (-99), 3) := by decide +kernel
theorem dX9_strings_131 : decode cX9_strings 131 = .ok (.aload_n 0, 1) := by decide +kernel
theorem dX9_strings_132 : decode cX9_strings 132 = .ok (.iload_n 1, 1) := by decide +kernel
theorem dX9_strings_133 : decode cX9_strings 133 = .ok (.bipush 35, 2) := by decide +kernel
theorem dX9_strings_135 : decode cX9_strings 135 = .ok (.iload_n 2, 1) := by decide +kernel
theorem dX9_strings_136 : decode cX9_strings 136 = .ok (.invokevirtual 192, 3) := by decide +kernel
theorem dX9_strings_139 : decode cX9_strings 139 = .ok (.istore 4, 2) := by decide +kernel
theorem dX9_strings_141 : decode cX9_strings 141 = .ok (.iload 4, 2) := by decide +kernel
theorem dX9_strings_143 : decode cX9_strings 143 = .ok (.ifCond .ge 6, 3) := by decide +kernel
theorem dX9_strings_146 : decode cX9_strings 146 = .ok (.iload 4, 2) := by decide +kernel
theorem dX9_strings_148 : decode cX9_strings 148 = .ok (.ireturn, 1) := by decide +kernel
theorem dX9_strings_149 : decode cX9_strings 149 = .ok (.aload_n 0, 1) := by decide +kernel
theorem dX9_strings_150 : decode cX9_strings 150 = .ok (.invokevirtual 209, 3) := by decide +kernel
theorem dX9_strings_153 : decode cX9_strings 153 = .ok (.iconst 0, 1) := by decide +kernel
theorem dX9_strings_154 : decode cX9_strings 154 = .ok (.istore 5, 2) := by decide +kernel
theorem dX9_strings_156 : decode cX9_strings 156 = .ok (.iconst 0, 1) := by decide +kernel
theorem dX9_strings_157 : decode cX9_strings 157 = .ok (.istore 6, 2) := by decide +kernel
theorem dX9_strings_159 : decode cX9_strings 159 = .ok (.iload 6, 2) := by decide +kernel
theorem dX9_strings_161 : decode cX9_strings 161 = .ok (.aload_n 0, 1) := by decide +kernel
theorem dX9_strings_162 : decode cX9_strings 162 = .ok (.getfield 183, 3) := by decide +kernel
theorem dX9_strings_165 : decode cX9_strings 165 = .ok (.if_icmp .ge 92, 3) := by decide +kernel
theorem dX9_strings_168 : decode cX9_strings 168 = .ok (.aload_n 0, 1) := by decide +kernel
theorem dX9_strings_169 : decode cX9_strings 169 = .ok (.getfield 34, 3) := by decide +kernel
theorem dX9_strings_172 : decode cX9_strings 172 = .ok (.bipush 24, 2) := by decide +kernel
theorem dX9_strings_174 : decode cX9_strings 174 = .ok (.aload_n 0, 1) := by decide +kernel
theorem dX9_strings_175 : decode cX9_strings 175 = .ok (.getfield 43, 3) := by decide +kernel
theorem dX9_strings_178 : decode cX9_strings 178 = .ok (.iconst 2, 1) := by decide +kernel
theorem dX9_strings_179 : decode cX9_strings 179 = .ok (.iload 6, 2) := by decide +kernel
theorem dX9_strings_181 : decode cX9_strings 181 = .ok (.imul, 1) := by decide +kernel
theorem dX9_strings_182 : decode cX9_strings 182 = .ok (.iaload, 1) := by decide +kernel
theorem dX9_strings_183 : decode cX9_strings 183 = .ok (.iadd, 1) := by decide +kernel
theorem dX9_strings_184 : decode cX9_strings 184 = .ok (.iaload, 1) := by decide +kernel
theorem dX9_strings_185 : decode cX9_strings 185 = .ok (.aload_n 0, 1) := by decide +kernel
theorem dX9_strings_186 : decode cX9_strings 186 = .ok (.getfield 43, 3) := by decide +kernel
theorem dX9_strings_189 : decode cX9_strings 189 = .ok (.iconst 2, 1) := by decide +kernel
theorem dX9_strings_190 : decode cX9_strings 190 = .ok (.iload 6, 2) := by decide +kernel
theorem dX9_strings_192 : decode cX9_strings 192 = .ok (.imul, 1) := by decide +kernel
theorem dX9_strings_193 : decode cX9_strings 193 = .ok (.iconst 1, 1) := by decide +kernel
theorem dX9_strings_194 : decode cX9_strings 194 = .ok (.iadd, 1) := by decide +kernel
theorem dX9_strings_195 : decode cX9_strings 195 = .ok (.iaload, 1) := by decide +kernel
theorem dX9_strings_196 : decode cX9_strings 196 = .ok (.invokestatic 127, 3) := by decide +kernel
theorem dX9_strings_199 : decode cX9_strings 199 = .ok (.ifCond .ne 7, 3) := by decide +kernel
theorem dX9_strings_202 : decode cX9_strings 202 = .ok (.iconst 1, 1) := by decide +kernel
theorem dX9_strings_203 : decode cX9_strings 203 = .ok (.goto 4, 3) := by decide +kernel
theorem dX9_strings_206 : decode cX9_strings 206 = .ok (.iconst 0, 1) := by decide +kernel
theorem dX9_strings_207 : decode cX9_strings 207 = .ok (.istore 7, 2) := by decide +kernel
theorem dX9_strings_209 : decode cX9_strings 209 = .ok (.iload 7, 2) := by decide +kernel
theorem dX9_strings_211 : decode cX9_strings 211 = .ok (.ifCond .eq 30, 3) := by decide +kernel
theorem dX9_strings_214 : decode cX9_strings 214 = .ok (.aload_n 0, 1) := by decide +kernel
theorem dX9_strings_215 : decode cX9_strings 215 = .ok (.getfield 34, 3) := by decide +kernel
theorem dX9_strings_218 : decode cX9_strings 218 = .ok (.aload_n 0, 1) := by decide +kernel
theorem dX9_strings_219 : decode cX9_strings 219 = .ok (.getfield 43, 3) := by decide +kernel
theorem dX9_strings_222 : decode cX9_strings 222 = .ok (.iconst 2, 1) := by decide +kernel
theorem dX9_strings_223 : decode cX9_strings 223 = .ok (.iload 6, 2) := by decide +kernel
theorem dX9_strings_225 : decode cX9_strings 225 = .ok (.imul, 1) := by decide +kernel
theorem dX9_strings_226 : decode cX9_strings 226 = .ok (.iaload, 1) := by decide +kernel
theorem dX9_strings_227 : decode cX9_strings 227 = .ok (.aload_n 0, 1) := by decide +kernel
theorem dX9_strings_228 : decode cX9_strings 228 = .ok (.getfield 43, 3) := by decide +kernel
theorem dX9_strings_231 : decode cX9_strings 231 = .ok (.iconst 2, 1) := by decide +kernel
theorem dX9_strings_232 : decode cX9_strings 232 = .ok (.iload 6, 2) := by decide +kernel
theorem dX9_strings_234 : decode cX9_strings 234 = .ok (.imul, 1) := by decide +kernel
theorem dX9_strings_235 : decode cX9_strings 235 = .ok (.iconst 1, 1) := by decide +kernel
theorem dX9_strings_236 : decode cX9_strings 236 = .ok (.iadd, 1) := by decide +kernel
theorem dX9_strings_237 : decode cX9_strings 237 = .ok (.iaload, 1) := by decide +kernel
theorem dX9_strings_238 : decode cX9_strings 238 = .ok (.invokestatic 212, 3) := by decide +kernel
theorem dX9_strings_241 : decode cX9_strings 241 = .ok (.iload 5, 2) := by decide +kernel
theorem dX9_strings_243 : decode cX9_strings 243 = .ok (.iload 7, 2) := by decide +kernel
theorem dX9_strings_245 : decode cX9_strings 245 = .ok (.invokestatic 159, 3) := by decide +kernel
theorem dX9_strings_248 : decode cX9_strings 248 = .ok (.iadd, 1) := by decide +kernel
theorem dX9_strings_249 : decode cX9_strings 249 = .ok (.istore 5, 2) := by decide +kernel
theorem dX9_strings_251 : decode cX9_strings 251 = .ok (.iinc 6 1, 3) := by decide +kernel
theorem dX9_strings_254 : decode cX9_strings 254 = .ok (.goto (-95), 3) := by decide +kernel
theorem dX9_strings_257 : decode cX9_strings 257 = .ok (.iload 5, 2) := by decide +kernel
theorem dX9_strings_259 : decode cX9_strings 259 = .ok (.ifCond .le 12, 3) := by decide +kernel
theorem dX9_strings_262 : decode cX9_strings 262 = .ok (.aload_n 0, 1) := by decide +kernel
theorem dX9_strings_263 : decode cX9_strings 263 = .ok (.iload 5, 2) := by decide +kernel
theorem dX9_strings_265 : decode cX9_strings 265 = .ok (.invokevirtual 216, 3) := by decide +kernel
theorem dX9_strings_268 : decode cX9_strings 268 = .ok (.goto 4, 3) := by decide +kernel
theorem dX9_strings_271 : decode cX9_strings 271 = .ok (.iconst 0, 1) := by decide +kernel
theorem dX9_strings_272 : decode cX9_strings 272 = .ok (.ireturn, 1) := by decide +kernel
theorem dX9_winds_0 : decode cX9_winds 0 = .ok (.aload_n 0, 1) := by decide +kernel
theorem dX9_winds_1 : decode cX9_winds 1 = .ok (.iconst 0, 1) := by decide +kernel
theorem dX9_winds_2 : decode cX9_winds 2 = .ok (.putfield 3, 3) := by decide +kernel
theorem dX9_winds_5 : decode cX9_winds 5 = .ok (.aload_n 0, 1) := by decide +kernel
theorem dX9_winds_6 : decode cX9_winds 6 = .ok (.bipush 80, 2) := by decide +kernel
theorem dX9_winds_8 : decode cX9_winds 8 = .ok (.invokevirtual 180, 3) := by decide +kernel
theorem dX9_winds_11 : decode cX9_winds 11 = .ok (.pop, 1) := by decide +kernel
theorem dX9_winds_12 : decode cX9_winds 12 = .ok (.iconst 0, 1) := by decide +kernel
theorem dX9_winds_13 : decode cX9_winds 13 = .ok (.istore_n 1, 1) := by decide +kernel
theorem dX9_winds_14 : decode cX9_winds 14 = .ok (.iload_n 1, 1) := by decide +kernel
theorem dX9_winds_15 : decode cX9_winds 15 = .ok (.bipush 20, 2) := by decide +kernel
theorem dX9_winds_17 : decode cX9_winds 17 = .ok (.if_icmp .ge 27, 3) := by decide +kernel
theorem dX9_winds_20 : decode cX9_winds 20 = .ok (.aload_n 0, 1) := by decide +kernel
theorem dX9_winds_21 : decode cX9_winds 21 = .ok (.invokevirtual 176, 3) := by decide +kernel
theorem dX9_winds_24 : decode cX9_winds 24 = .ok (.ifCond .eq 20, 3) := by decide +kernel
theorem dX9_winds_27 : decode cX9_winds 27 = .ok (.aload_n 0, 1) := by decide +kernel
theorem dX9_winds_28 : decode cX9_winds 28 = .ok (.getfield 43, 3) := by decide +kernel
theorem dX9_winds_31 : decode cX9_winds 31 = .ok (.iload_n 1, 1) := by decide +kernel
theorem dX9_winds_32 : decode cX9_winds 32 = .ok (.aload_n 0, 1) := by decide +kernel
theorem dX9_winds_33 : decode cX9_winds 33 = .ok (.iconst 1, 1) := by decide +kernel
theorem dX9_winds_34 : decode cX9_winds 34 = .ok (.invokevirtual 219, 3) := by decide +kernel
theorem dX9_winds_37 : decode cX9_winds 37 = .ok (.iastore, 1) := by decide +kernel
theorem dX9_winds_38 : decode cX9_winds 38 = .ok (.iinc 1 1, 3) := by decide +kernel
theorem dX9_winds_41 : decode cX9_winds 41 = .ok (.goto (-27), 3) := by decide +kernel
theorem dX9_winds_44 : decode cX9_winds 44 = .ok (.iload_n 1, 1) := by decide +kernel
theorem dX9_winds_45 : decode cX9_winds 45 = .ok (.ifCond .eq 14, 3) := by decide +kernel
theorem dX9_winds_48 : decode cX9_winds 48 = .ok (.aload_n 0, 1) := by decide +kernel
theorem dX9_winds_49 : decode cX9_winds 49 = .ok (.getfield 144, 3) := by decide +kernel
theorem dX9_winds_52 : decode cX9_winds 52 = .ok (.aload_n 0, 1) := by decide +kernel
theorem dX9_winds_53 : decode cX9_winds 53 = .ok (.getfield 156, 3) := by decide +kernel
theorem dX9_winds_56 : decode cX9_winds 56 = .ok (.if_icmp .ge 10, 3) := by decide +kernel
theorem dX9_winds_59 : decode cX9_winds 59 = .ok (.iconst (-1), 1) := by decide +kernel
theorem dX9_winds_60 : decode cX9_winds 60 = .ok (.aload_n 0, 1) := by decide +kernel
theorem dX9_winds_61 : decode cX9_winds 61 = .ok (.getfield 144, 3) := by decide +kernel
theorem dX9_winds_64 : decode cX9_winds 64 = .ok (.isub, 1) := by decide +kernel
theorem dX9_winds_65 : decode cX9_winds 65 = .ok (.ireturn, 1) := by decide +kernel
theorem dX9_winds_66 : decode cX9_winds 66 = .ok (.aload_n 0, 1) := by decide +kernel
theorem dX9_winds_67 : decode cX9_winds 67 = .ok (.iload_n 1, 1) := by decide +kernel
theorem dX9_winds_68 : decode cX9_winds 68 = .ok (.putfield 24, 3) := by decide +kernel
theorem dX9_winds_71 : decode cX9_winds 71 = .ok (.iconst 0, 1) := by decide +kernel
theorem dX9_winds_72 : decode cX9_winds 72 = .ok (.istore_n 2, 1) := by decide +kernel
theorem dX9_winds_73 : decode cX9_winds 73 = .ok (.iload_n 2, 1) := by decide +kernel
theorem dX9_winds_74 : decode cX9_winds 74 = .ok (.iload_n 1, 1) := by decide +kernel
theorem dX9_winds_75 : decode cX9_winds 75 = .ok (.if_icmp .ge 21, 3) := by decide +kernel
theorem dX9_winds_78 : decode cX9_winds 78 = .ok (.aload_n 0, 1) := by decide +kernel
theorem dX9_winds_79 : decode cX9_winds 79 = .ok (.getfield 31, 3) := by decide +kernel
theorem dX9_winds_82 : decode cX9_winds 82 = .ok (.iload_n 2, 1) := by decide +kernel
theorem dX9_winds_83 : decode cX9_winds 83 = .ok (.aload_n 0, 1) := by decide +kernel
theorem dX9_winds_84 : decode cX9_winds 84 = .ok (.getfield 43, 3) := by decide +kernel
theorem dX9_winds_87 : decode cX9_winds 87 = .ok (.iload_n 2, 1) := by decide +kernel
theorem dX9_winds_88 : decode cX9_winds 88 = .ok (.iaload, 1) := by decide +kernel
theorem dX9_winds_89 : decode cX9_winds 89 = .ok (.iastore, 1) := by decide +kernel
theorem dX9_winds_90 : decode cX9_winds 90 = .ok (.iinc 2 1, 3) := by decide +kernel
theorem dX9_winds_93 : decode cX9_winds 93 = .ok (.goto (-20), 3) := by decide +kernel
theorem dX9_winds_96 : decode cX9_winds 96 = .ok (.iload_n 1, 1) := by decide +kernel
theorem dX9_winds_97 : decode cX9_winds 97 = .ok (.ireturn, 1) := by decide +kernel
theorem dX9_windOn_0 : decode cX9_windOn 0 = .ok (.aload_n 0, 1) := by decide +kernel
theorem dX9_windOn_1 : decode cX9_windOn 1 = .ok (.getfield 31, 3) := by decide +kernel
theorem dX9_windOn_4 : decode cX9_windOn 4 = .ok (.iload_n 1, 1) := by decide +kernel
theorem dX9_windOn_5 : decode cX9_windOn 5 = .ok (.aload_n 0, 1) := by decide +kernel
theorem dX9_windOn_6 : decode cX9_windOn 6 = .ok (.getfield 24, 3) := by decide +kernel
theorem dX9_windOn_9 : decode cX9_windOn 9 = .ok (.irem, 1) := by decide +kernel
theorem dX9_windOn_10 : decode cX9_windOn 10 = .ok (.iaload, 1) := by decide +kernel
theorem dX9_windOn_11 : decode cX9_windOn 11 = .ok (.ireturn, 1) := by decide +kernel
theorem dX9_codes_0 : decode cX9_codes 0 = .ok (.aload_n 0, 1) := by decide +kernel
theorem dX9_codes_1 : decode cX9_codes 1 = .ok (.getfield 49, 3) := by decide +kernel
theorem dX9_codes_4 : decode cX9_codes 4 = .ok (.aload_n 0, 1) := by decide +kernel
theorem dX9_codes_5 : decode cX9_codes 5 = .ok (.getfield 222, 3) := by decide +kernel
theorem dX9_codes_8 : decode cX9_codes 8 = .ok (.iload_n 1, 1) := by decide +kernel
theorem dX9_codes_9 : decode cX9_codes 9 = .ok (.iastore, 1) := by decide +kernel
theorem dX9_codes_10 : decode cX9_codes 10 = .ok (.aload_n 0, 1) := by decide +kernel
theorem dX9_codes_11 : decode cX9_codes 11 = .ok (.dup, 1) := by decide +kernel
theorem dX9_codes_12 : decode cX9_codes 12 = .ok (.getfield 222, 3) := by decide +kernel
theorem dX9_codes_15 : decode cX9_codes 15 = .ok (.iconst 1, 1) := by decide +kernel
theorem dX9_codes_16 : decode cX9_codes 16 = .ok (.iadd, 1) := by decide +kernel
theorem dX9_codes_17 : decode cX9_codes 17 = .ok (.putfield 222, 3) := by decide +kernel
theorem dX9_codes_20 : decode cX9_codes 20 = .ok (.return_, 1) := by decide +kernel
theorem dX9_readsThing_0 : decode cX9_readsThing 0 = .ok (.aload_n 0, 1) := by decide +kernel
theorem dX9_readsThing_1 : decode cX9_readsThing 1 = .ok (.bipush 45, 2) := by decide +kernel
theorem dX9_readsThing_3 : decode cX9_readsThing 3 = .ok (.invokevirtual 189, 3) := by decide +kernel
theorem dX9_readsThing_6 : decode cX9_readsThing 6 = .ok (.ifCond .eq 17, 3) := by decide +kernel
theorem dX9_readsThing_9 : decode cX9_readsThing 9 = .ok (.aload_n 0, 1) := by decide +kernel
theorem dX9_readsThing_10 : decode cX9_readsThing 10 = .ok (.invokevirtual 225, 3) := by decide +kernel
theorem dX9_readsThing_13 : decode cX9_readsThing 13 = .ok (.istore_n 1, 1) := by decide +kernel
theorem dX9_readsThing_14 : decode cX9_readsThing 14 = .ok (.aload_n 0, 1) := by decide +kernel
theorem dX9_readsThing_15 : decode cX9_readsThing 15 = .ok (.sipush 3000, 3) := by decide +kernel
theorem dX9_readsThing_18 : decode cX9_readsThing 18 = .ok (.invokevirtual 228, 3) := by decide +kernel
theorem dX9_readsThing_21 : decode cX9_readsThing 21 = .ok (.iload_n 1, 1) := by decide +kernel
theorem dX9_readsThing_22 : decode cX9_readsThing 22 = .ok (.ireturn, 1) := by decide +kernel
theorem dX9_readsThing_23 : decode cX9_readsThing 23 = .ok (.aload_n 0, 1) := by decide +kernel
theorem dX9_readsThing_24 : decode cX9_readsThing 24 = .ok (.invokevirtual 176, 3) := by decide +kernel
theorem dX9_readsThing_27 : decode cX9_readsThing 27 = .ok (.ifCond .eq 14, 3) := by decide +kernel
theorem dX9_readsThing_30 : decode cX9_readsThing 30 = .ok (.aload_n 0, 1) := by decide +kernel
theorem dX9_readsThing_31 : decode cX9_readsThing 31 = .ok (.aload_n 0, 1) := by decide +kernel
theorem dX9_readsThing_32 : decode cX9_readsThing 32 = .ok (.iconst 3, 1) := by decide +kernel
theorem dX9_readsThing_33 : decode cX9_readsThing 33 = .ok (.invokevirtual 219, 3) := by decide +kernel
theorem dX9_readsThing_36 : decode cX9_readsThing 36 = .ok (.invokevirtual 228, 3) := by decide +kernel
theorem dX9_readsThing_39 : decode cX9_readsThing 39 = .ok (.iconst 1, 1) := by decide +kernel
theorem dX9_readsThing_40 : decode cX9_readsThing 40 = .ok (.ireturn, 1) := by decide +kernel
theorem dX9_readsThing_41 : decode cX9_readsThing 41 = .ok (.aload_n 0, 1) := by decide +kernel
theorem dX9_readsThing_42 : decode cX9_readsThing 42 = .ok (.ldc 232, 2) := by decide +kernel
theorem dX9_readsThing_44 : decode cX9_readsThing 44 = .ok (.invokevirtual 234, 3) := by decide +kernel
theorem dX9_readsThing_47 : decode cX9_readsThing 47 = .ok (.istore_n 1, 1) := by decide +kernel
theorem dX9_readsThing_48 : decode cX9_readsThing 48 = .ok (.iload_n 1, 1) := by decide +kernel
theorem dX9_readsThing_49 : decode cX9_readsThing 49 = .ok (.ifCond .lt 14, 3) := by decide +kernel
theorem dX9_readsThing_52 : decode cX9_readsThing 52 = .ok (.aload_n 0, 1) := by decide +kernel
theorem dX9_readsThing_53 : decode cX9_readsThing 53 = .ok (.sipush 1000, 3) := by decide +kernel
theorem dX9_readsThing_56 : decode cX9_readsThing 56 = .ok (.iload_n 1, 1) := by decide +kernel
theorem dX9_readsThing_57 : decode cX9_readsThing 57 = .ok (.iadd, 1) := by decide +kernel
theorem dX9_readsThing_58 : decode cX9_readsThing 58 = .ok (.invokevirtual 228, 3) := by decide +kernel
theorem dX9_readsThing_61 : decode cX9_readsThing 61 = .ok (.iconst 1, 1) := by decide +kernel
theorem dX9_readsThing_62 : decode cX9_readsThing 62 = .ok (.ireturn, 1) := by decide +kernel
theorem dX9_readsThing_63 : decode cX9_readsThing 63 = .ok (.aload_n 0, 1) := by decide +kernel
theorem dX9_readsThing_64 : decode cX9_readsThing 64 = .ok (.getfield 147, 3) := by decide +kernel
theorem dX9_readsThing_67 : decode cX9_readsThing 67 = .ok (.iconst 4, 1) := by decide +kernel
theorem dX9_readsThing_68 : decode cX9_readsThing 68 = .ok (.if_icmp .eq 12, 3) := by decide +kernel
theorem dX9_readsThing_71 : decode cX9_readsThing 71 = .ok (.aload_n 0, 1) := by decide +kernel
theorem dX9_readsThing_72 : decode cX9_readsThing 72 = .ok (.bipush 40, 2) := by decide +kernel
theorem dX9_readsThing_74 : decode cX9_readsThing 74 = .ok (.invokevirtual 189, 3) := by decide +kernel
theorem dX9_readsThing_77 : decode cX9_readsThing 77 = .ok (.ifCond .ne 5, 3) := by decide +kernel
theorem dX9_readsThing_80 : decode cX9_readsThing 80 = .ok (.iconst 0, 1) := by decide +kernel
theorem dX9_readsThing_81 : decode cX9_readsThing 81 = .ok (.ireturn, 1) := by decide +kernel
theorem dX9_readsThing_82 : decode cX9_readsThing 82 = .ok (.aload_n 0, 1) := by decide +kernel
theorem dX9_readsThing_83 : decode cX9_readsThing 83 = .ok (.dup, 1) := by decide +kernel
theorem dX9_readsThing_84 : decode cX9_readsThing 84 = .ok (.getfield 147, 3) := by decide +kernel
theorem dX9_readsThing_87 : decode cX9_readsThing 87 = .ok (.iconst 1, 1) := by decide +kernel
theorem dX9_readsThing_88 : decode cX9_readsThing 88 = .ok (.iadd, 1) := by decide +kernel
theorem dX9_readsThing_89 : decode cX9_readsThing 89 = .ok (.putfield 147, 3) := by decide +kernel
theorem dX9_readsThing_92 : decode cX9_readsThing 92 = .ok (.aload_n 0, 1) := by decide +kernel
theorem dX9_readsThing_93 : decode cX9_readsThing 93 = .ok (.iconst 0, 1) := by decide +kernel
theorem dX9_readsThing_94 : decode cX9_readsThing 94 = .ok (.invokevirtual 238, 3) := by decide +kernel
theorem dX9_readsThing_97 : decode cX9_readsThing 97 = .ok (.ifCond .eq 12, 3) := by decide +kernel
theorem dX9_readsThing_100 : decode cX9_readsThing 100 = .ok (.aload_n 0, 1) := by decide +kernel
theorem dX9_readsThing_101 : decode cX9_readsThing 101 = .ok (.bipush 41, 2) := by decide +kernel
theorem dX9_readsThing_103 : decode cX9_readsThing 103 = .ok (.invokevirtual 189, 3) := by decide +kernel
theorem dX9_readsThing_106 : decode cX9_readsThing 106 = .ok (.ifCond .ne 5, 3) := by decide +kernel
theorem dX9_readsThing_109 : decode cX9_readsThing 109 = .ok (.iconst 0, 1) := by decide +kernel
theorem dX9_readsThing_110 : decode cX9_readsThing 110 = .ok (.ireturn, 1) := by decide +kernel
theorem dX9_readsThing_111 : decode cX9_readsThing 111 = .ok (.aload_n 0, 1) := by decide +kernel
theorem dX9_readsThing_112 : decode cX9_readsThing 112 = .ok (.dup, 1) := by decide +kernel
theorem dX9_readsThing_113 : decode cX9_readsThing 113 = .ok (.getfield 147, 3) := by decide +kernel
theorem dX9_readsThing_116 : decode cX9_readsThing 116 = .ok (.iconst 1, 1) := by decide +kernel
theorem dX9_readsThing_117 : decode cX9_readsThing 117 = .ok (.isub, 1) := by decide +kernel
theorem dX9_readsThing_118 : decode cX9_readsThing 118 = .ok (.putfield 147, 3) := by decide +kernel
theorem dX9_readsThing_121 : decode cX9_readsThing 121 = .ok (.iconst 1, 1) := by decide +kernel
theorem dX9_readsThing_122 : decode cX9_readsThing 122 = .ok (.ireturn, 1) := by decide +kernel
theorem dX9_readsRank_0 : decode cX9_readsRank 0 = .ok (.iload_n 1, 1) := by decide +kernel
theorem dX9_readsRank_1 : decode cX9_readsRank 1 = .ok (.iconst 3, 1) := by decide +kernel
theorem dX9_readsRank_2 : decode cX9_readsRank 2 = .ok (.if_icmp .ne 8, 3) := by decide +kernel
theorem dX9_readsRank_5 : decode cX9_readsRank 5 = .ok (.aload_n 0, 1) := by decide +kernel
theorem dX9_readsRank_6 : decode cX9_readsRank 6 = .ok (.invokevirtual 225, 3) := by decide +kernel
theorem dX9_readsRank_9 : decode cX9_readsRank 9 = .ok (.ireturn, 1) := by decide +kernel
theorem dX9_readsRank_10 : decode cX9_readsRank 10 = .ok (.aload_n 0, 1) := by decide +kernel
theorem dX9_readsRank_11 : decode cX9_readsRank 11 = .ok (.iload_n 1, 1) := by decide +kernel
theorem dX9_readsRank_12 : decode cX9_readsRank 12 = .ok (.iconst 1, 1) := by decide +kernel
theorem dX9_readsRank_13 : decode cX9_readsRank 13 = .ok (.iadd, 1) := by decide +kernel
theorem dX9_readsRank_14 : decode cX9_readsRank 14 = .ok (.invokevirtual 238, 3) := by decide +kernel
theorem dX9_readsRank_17 : decode cX9_readsRank 17 = .ok (.ifCond .ne 5, 3) := by decide +kernel
theorem dX9_readsRank_20 : decode cX9_readsRank 20 = .ok (.iconst 0, 1) := by decide +kernel
theorem dX9_readsRank_21 : decode cX9_readsRank 21 = .ok (.ireturn, 1) := by decide +kernel
theorem dX9_readsRank_22 : decode cX9_readsRank 22 = .ok (.iconst 1, 1) := by decide +kernel
theorem dX9_readsRank_23 : decode cX9_readsRank 23 = .ok (.istore_n 2, 1) := by decide +kernel
theorem dX9_readsRank_24 : decode cX9_readsRank 24 = .ok (.iload_n 2, 1) := by decide +kernel
theorem dX9_readsRank_25 : decode cX9_readsRank 25 = .ok (.ifCond .eq 88, 3) := by decide +kernel
theorem dX9_readsRank_28 : decode cX9_readsRank 28 = .ok (.aload_n 0, 1) := by decide +kernel
theorem dX9_readsRank_29 : decode cX9_readsRank 29 = .ok (.iload_n 1, 1) := by decide +kernel
theorem dX9_readsRank_30 : decode cX9_readsRank 30 = .ok (.ifCond .ne 8, 3) := by decide +kernel
theorem dX9_readsRank_33 : decode cX9_readsRank 33 = .ok (.ldc 241, 2) := by decide +kernel
theorem dX9_readsRank_35 : decode cX9_readsRank 35 = .ok (.goto 15, 3) := by decide +kernel
theorem dX9_readsRank_38 : decode cX9_readsRank 38 = .ok (.iload_n 1, 1) := by decide +kernel
theorem dX9_readsRank_39 : decode cX9_readsRank 39 = .ok (.iconst 1, 1) := by decide +kernel
theorem dX9_readsRank_40 : decode cX9_readsRank 40 = .ok (.if_icmp .ne 8, 3) := by decide +kernel
theorem dX9_readsRank_43 : decode cX9_readsRank 43 = .ok (.ldc 243, 2) := by decide +kernel
theorem dX9_readsRank_45 : decode cX9_readsRank 45 = .ok (.goto 5, 3) := by decide +kernel
theorem dX9_readsRank_48 : decode cX9_readsRank 48 = .ok (.ldc 245, 2) := by decide +kernel
theorem dX9_readsRank_50 : decode cX9_readsRank 50 = .ok (.invokevirtual 234, 3) := by decide +kernel
theorem dX9_readsRank_53 : decode cX9_readsRank 53 = .ok (.istore_n 3, 1) := by decide +kernel
theorem dX9_readsRank_54 : decode cX9_readsRank 54 = .ok (.iload_n 3, 1) := by decide +kernel
theorem dX9_readsRank_55 : decode cX9_readsRank 55 = .ok (.ifCond .ge 5, 3) := by decide +kernel
theorem dX9_readsRank_58 : decode cX9_readsRank 58 = .ok (.iconst 1, 1) := by decide +kernel
theorem dX9_readsRank_59 : decode cX9_readsRank 59 = .ok (.ireturn, 1) := by decide +kernel
theorem dX9_readsRank_60 : decode cX9_readsRank 60 = .ok (.aload_n 0, 1) := by decide +kernel
theorem dX9_readsRank_61 : decode cX9_readsRank 61 = .ok (.iload_n 1, 1) := by decide +kernel
theorem dX9_readsRank_62 : decode cX9_readsRank 62 = .ok (.iconst 1, 1) := by decide +kernel
theorem dX9_readsRank_63 : decode cX9_readsRank 63 = .ok (.iadd, 1) := by decide +kernel
theorem dX9_readsRank_64 : decode cX9_readsRank 64 = .ok (.invokevirtual 238, 3) := by decide +kernel
theorem dX9_readsRank_67 : decode cX9_readsRank 67 = .ok (.ifCond .ne 5, 3) := by decide +kernel
theorem dX9_readsRank_70 : decode cX9_readsRank 70 = .ok (.iconst 0, 1) := by decide +kernel
theorem dX9_readsRank_71 : decode cX9_readsRank 71 = .ok (.ireturn, 1) := by decide +kernel
theorem dX9_readsRank_72 : decode cX9_readsRank 72 = .ok (.aload_n 0, 1) := by decide +kernel
theorem dX9_readsRank_73 : decode cX9_readsRank 73 = .ok (.sipush 2000, 3) := by decide +kernel
theorem dX9_readsRank_76 : decode cX9_readsRank 76 = .ok (.iload_n 3, 1) := by decide +kernel
theorem dX9_readsRank_77 : decode cX9_readsRank 77 = .ok (.iadd, 1) := by decide +kernel
theorem dX9_readsRank_78 : decode cX9_readsRank 78 = .ok (.iload_n 1, 1) := by decide +kernel
theorem dX9_readsRank_79 : decode cX9_readsRank 79 = .ok (.ifCond .ne 7, 3) := by decide +kernel
theorem dX9_readsRank_82 : decode cX9_readsRank 82 = .ok (.iconst 0, 1) := by decide +kernel
theorem dX9_readsRank_83 : decode cX9_readsRank 83 = .ok (.goto 13, 3) := by decide +kernel
theorem dX9_readsRank_86 : decode cX9_readsRank 86 = .ok (.iload_n 1, 1) := by decide +kernel
theorem dX9_readsRank_87 : decode cX9_readsRank 87 = .ok (.iconst 1, 1) := by decide +kernel
theorem dX9_readsRank_88 : decode cX9_readsRank 88 = .ok (.if_icmp .ne 7, 3) := by decide +kernel
theorem dX9_readsRank_91 : decode cX9_readsRank 91 = .ok (.iconst 3, 1) := by decide +kernel
theorem dX9_readsRank_92 : decode cX9_readsRank 92 = .ok (.goto 4, 3) := by decide +kernel
theorem dX9_readsRank_95 : decode cX9_readsRank 95 = .ok (.iconst 5, 1) := by decide +kernel
theorem dX9_readsRank_96 : decode cX9_readsRank 96 = .ok (.iadd, 1) := by decide +kernel
theorem dX9_readsRank_97 : decode cX9_readsRank 97 = .ok (.invokevirtual 228, 3) := by decide +kernel
theorem dX9_readsRank_100 : decode cX9_readsRank 100 = .ok (.iload_n 1, 1) := by decide +kernel
theorem dX9_readsRank_101 : decode cX9_readsRank 101 = .ok (.ifCond .le 7, 3) := by decide +kernel
theorem dX9_readsRank_104 : decode cX9_readsRank 104 = .ok (.iconst 1, 1) := by decide +kernel
theorem dX9_readsRank_105 : decode cX9_readsRank 105 = .ok (.goto 4, 3) := by decide +kernel
theorem dX9_readsRank_108 : decode cX9_readsRank 108 = .ok (.iconst 0, 1) := by decide +kernel
theorem dX9_readsRank_109 : decode cX9_readsRank 109 = .ok (.istore_n 2, 1) := by decide +kernel
theorem dX9_readsRank_110 : decode cX9_readsRank 110 = .ok (.goto (-86), 3) := by decide +kernel
theorem dX9_readsRank_113 : decode cX9_readsRank 113 = .ok (.iconst 1, 1) := by decide +kernel
theorem dX9_readsRank_114 : decode cX9_readsRank 114 = .ok (.ireturn, 1) := by decide +kernel
theorem dX9_readsRule_0 : decode cX9_readsRule 0 = .ok (.aload_n 0, 1) := by decide +kernel
theorem dX9_readsRule_1 : decode cX9_readsRule 1 = .ok (.bipush 40, 2) := by decide +kernel
theorem dX9_readsRule_3 : decode cX9_readsRule 3 = .ok (.invokevirtual 180, 3) := by decide +kernel
theorem dX9_readsRule_6 : decode cX9_readsRule 6 = .ok (.istore_n 1, 1) := by decide +kernel
theorem dX9_readsRule_7 : decode cX9_readsRule 7 = .ok (.aload_n 0, 1) := by decide +kernel
theorem dX9_readsRule_8 : decode cX9_readsRule 8 = .ok (.iconst 0, 1) := by decide +kernel
theorem dX9_readsRule_9 : decode cX9_readsRule 9 = .ok (.putfield 222, 3) := by decide +kernel
theorem dX9_readsRule_12 : decode cX9_readsRule 12 = .ok (.iload_n 1, 1) := by decide +kernel
theorem dX9_readsRule_13 : decode cX9_readsRule 13 = .ok (.ifCond .eq 11, 3) := by decide +kernel
theorem dX9_readsRule_16 : decode cX9_readsRule 16 = .ok (.aload_n 0, 1) := by decide +kernel
theorem dX9_readsRule_17 : decode cX9_readsRule 17 = .ok (.iconst 0, 1) := by decide +kernel
theorem dX9_readsRule_18 : decode cX9_readsRule 18 = .ok (.invokevirtual 238, 3) := by decide +kernel
theorem dX9_readsRule_21 : decode cX9_readsRule 21 = .ok (.ifCond .eq 7, 3) := by decide +kernel
theorem dX9_readsRule_24 : decode cX9_readsRule 24 = .ok (.iconst 1, 1) := by decide +kernel
theorem dX9_readsRule_25 : decode cX9_readsRule 25 = .ok (.goto 4, 3) := by decide +kernel
theorem dX9_readsRule_28 : decode cX9_readsRule 28 = .ok (.iconst 0, 1) := by decide +kernel
theorem dX9_readsRule_29 : decode cX9_readsRule 29 = .ok (.istore_n 2, 1) := by decide +kernel
theorem dX9_readsRule_30 : decode cX9_readsRule 30 = .ok (.aload_n 0, 1) := by decide +kernel
theorem dX9_readsRule_31 : decode cX9_readsRule 31 = .ok (.iload_n 1, 1) := by decide +kernel
theorem dX9_readsRule_32 : decode cX9_readsRule 32 = .ok (.bipush 40, 2) := by decide +kernel
theorem dX9_readsRule_34 : decode cX9_readsRule 34 = .ok (.iload_n 2, 1) := by decide +kernel
theorem dX9_readsRule_35 : decode cX9_readsRule 35 = .ok (.invokevirtual 192, 3) := by decide +kernel
theorem dX9_readsRule_38 : decode cX9_readsRule 38 = .ok (.ireturn, 1) := by decide +kernel
theorem dX9_laysCode_0 : decode cX9_laysCode 0 = .ok (.aload_n 0, 1) := by decide +kernel
theorem dX9_laysCode_1 : decode cX9_laysCode 1 = .ok (.iload_n 2, 1) := by decide +kernel
theorem dX9_laysCode_2 : decode cX9_laysCode 2 = .ok (.putfield 247, 3) := by decide +kernel
theorem dX9_laysCode_5 : decode cX9_laysCode 5 = .ok (.iconst 0, 1) := by decide +kernel
theorem dX9_laysCode_6 : decode cX9_laysCode 6 = .ok (.istore_n 3, 1) := by decide +kernel
theorem dX9_laysCode_7 : decode cX9_laysCode 7 = .ok (.iload_n 3, 1) := by decide +kernel
theorem dX9_laysCode_8 : decode cX9_laysCode 8 = .ok (.iload_n 2, 1) := by decide +kernel
theorem dX9_laysCode_9 : decode cX9_laysCode 9 = .ok (.if_icmp .ge 18, 3) := by decide +kernel
theorem dX9_laysCode_12 : decode cX9_laysCode 12 = .ok (.aload_n 0, 1) := by decide +kernel
theorem dX9_laysCode_13 : decode cX9_laysCode 13 = .ok (.getfield 46, 3) := by decide +kernel
theorem dX9_laysCode_16 : decode cX9_laysCode 16 = .ok (.iload_n 3, 1) := by decide +kernel
theorem dX9_laysCode_17 : decode cX9_laysCode 17 = .ok (.aload_n 1, 1) := by decide +kernel
theorem dX9_laysCode_18 : decode cX9_laysCode 18 = .ok (.iload_n 3, 1) := by decide +kernel
theorem dX9_laysCode_19 : decode cX9_laysCode 19 = .ok (.iaload, 1) := by decide +kernel
theorem dX9_laysCode_20 : decode cX9_laysCode 20 = .ok (.iastore, 1) := by decide +kernel
theorem dX9_laysCode_21 : decode cX9_laysCode 21 = .ok (.iinc 3 1, 3) := by decide +kernel
theorem dX9_laysCode_24 : decode cX9_laysCode 24 = .ok (.goto (-17), 3) := by decide +kernel
theorem dX9_laysCode_27 : decode cX9_laysCode 27 = .ok (.return_, 1) := by decide +kernel
theorem dX9_rule_0 : decode cX9_rule 0 = .ok (.aload_n 0, 1) := by decide +kernel
theorem dX9_rule_1 : decode cX9_rule 1 = .ok (.iconst 0, 1) := by decide +kernel
theorem dX9_rule_2 : decode cX9_rule 2 = .ok (.putfield 3, 3) := by decide +kernel
theorem dX9_rule_5 : decode cX9_rule 5 = .ok (.aload_n 0, 1) := by decide +kernel
theorem dX9_rule_6 : decode cX9_rule 6 = .ok (.invokevirtual 250, 3) := by decide +kernel
theorem dX9_rule_9 : decode cX9_rule 9 = .ok (.istore_n 1, 1) := by decide +kernel
theorem dX9_rule_10 : decode cX9_rule 10 = .ok (.iload_n 1, 1) := by decide +kernel
theorem dX9_rule_11 : decode cX9_rule 11 = .ok (.ifCond .ne 15, 3) := by decide +kernel
theorem dX9_rule_14 : decode cX9_rule 14 = .ok (.aload_n 0, 1) := by decide +kernel
theorem dX9_rule_15 : decode cX9_rule 15 = .ok (.aload_n 0, 1) := by decide +kernel
theorem dX9_rule_16 : decode cX9_rule 16 = .ok (.getfield 49, 3) := by decide +kernel
theorem dX9_rule_19 : decode cX9_rule 19 = .ok (.aload_n 0, 1) := by decide +kernel
theorem dX9_rule_20 : decode cX9_rule 20 = .ok (.getfield 222, 3) := by decide +kernel
theorem dX9_rule_23 : decode cX9_rule 23 = .ok (.invokevirtual 253, 3) := by decide +kernel
theorem dX9_rule_26 : decode cX9_rule 26 = .ok (.iload_n 1, 1) := by decide +kernel
theorem dX9_rule_27 : decode cX9_rule 27 = .ok (.ireturn, 1) := by decide +kernel
theorem dX9_worked_0 : decode cX9_worked 0 = .ok (.iload_n 0, 1) := by decide +kernel
theorem dX9_worked_1 : decode cX9_worked 1 = .ok (.tableswitch 93 0 5 #[39, 53, 67, 81, 85, 89], 39) := by decide +kernel
theorem dX9_worked_40 : decode cX9_worked 40 = .ok (.iload_n 1, 1) := by decide +kernel
theorem dX9_worked_41 : decode cX9_worked 41 = .ok (.iload_n 2, 1) := by decide +kernel
theorem dX9_worked_42 : decode cX9_worked 42 = .ok (.if_icmp .ge 7, 3) := by decide +kernel
theorem dX9_worked_45 : decode cX9_worked 45 = .ok (.iconst 1, 1) := by decide +kernel
theorem dX9_worked_46 : decode cX9_worked 46 = .ok (.goto 4, 3) := by decide +kernel
theorem dX9_worked_49 : decode cX9_worked 49 = .ok (.iconst 0, 1) := by decide +kernel
theorem dX9_worked_50 : decode cX9_worked 50 = .ok (.invokestatic 159, 3) := by decide +kernel
theorem dX9_worked_53 : decode cX9_worked 53 = .ok (.ireturn, 1) := by decide +kernel
theorem dX9_worked_54 : decode cX9_worked 54 = .ok (.iload_n 1, 1) := by decide +kernel
theorem dX9_worked_55 : decode cX9_worked 55 = .ok (.iload_n 2, 1) := by decide +kernel
theorem dX9_worked_56 : decode cX9_worked 56 = .ok (.if_icmp .le 7, 3) := by decide +kernel
theorem dX9_worked_59 : decode cX9_worked 59 = .ok (.iconst 1, 1) := by decide +kernel
theorem dX9_worked_60 : decode cX9_worked 60 = .ok (.goto 4, 3) := by decide +kernel
theorem dX9_worked_63 : decode cX9_worked 63 = .ok (.iconst 0, 1) := by decide +kernel
theorem dX9_worked_64 : decode cX9_worked 64 = .ok (.invokestatic 159, 3) := by decide +kernel
theorem dX9_worked_67 : decode cX9_worked 67 = .ok (.ireturn, 1) := by decide +kernel
theorem dX9_worked_68 : decode cX9_worked 68 = .ok (.iload_n 1, 1) := by decide +kernel
theorem dX9_worked_69 : decode cX9_worked 69 = .ok (.iload_n 2, 1) := by decide +kernel
theorem dX9_worked_70 : decode cX9_worked 70 = .ok (.if_icmp .ne 7, 3) := by decide +kernel
theorem dX9_worked_73 : decode cX9_worked 73 = .ok (.iconst 1, 1) := by decide +kernel
theorem dX9_worked_74 : decode cX9_worked 74 = .ok (.goto 4, 3) := by decide +kernel
theorem dX9_worked_77 : decode cX9_worked 77 = .ok (.iconst 0, 1) := by decide +kernel
theorem dX9_worked_78 : decode cX9_worked 78 = .ok (.invokestatic 159, 3) := by decide +kernel
theorem dX9_worked_81 : decode cX9_worked 81 = .ok (.ireturn, 1) := by decide +kernel
theorem dX9_worked_82 : decode cX9_worked 82 = .ok (.iload_n 1, 1) := by decide +kernel
theorem dX9_worked_83 : decode cX9_worked 83 = .ok (.iload_n 2, 1) := by decide +kernel
theorem dX9_worked_84 : decode cX9_worked 84 = .ok (.iadd, 1) := by decide +kernel
theorem dX9_worked_85 : decode cX9_worked 85 = .ok (.ireturn, 1) := by decide +kernel
theorem dX9_worked_86 : decode cX9_worked 86 = .ok (.iload_n 1, 1) := by decide +kernel
theorem dX9_worked_87 : decode cX9_worked 87 = .ok (.iload_n 2, 1) := by decide +kernel
theorem dX9_worked_88 : decode cX9_worked 88 = .ok (.isub, 1) := by decide +kernel
theorem dX9_worked_89 : decode cX9_worked 89 = .ok (.ireturn, 1) := by decide +kernel
theorem dX9_worked_90 : decode cX9_worked 90 = .ok (.iload_n 1, 1) := by decide +kernel
theorem dX9_worked_91 : decode cX9_worked 91 = .ok (.iload_n 2, 1) := by decide +kernel
theorem dX9_worked_92 : decode cX9_worked 92 = .ok (.imul, 1) := by decide +kernel
theorem dX9_worked_93 : decode cX9_worked 93 = .ok (.ireturn, 1) := by decide +kernel
theorem dX9_worked_94 : decode cX9_worked 94 = .ok (.iload_n 2, 1) := by decide +kernel
theorem dX9_worked_95 : decode cX9_worked 95 = .ok (.ifCond .ne 7, 3) := by decide +kernel
theorem dX9_worked_98 : decode cX9_worked 98 = .ok (.iconst 0, 1) := by decide +kernel
theorem dX9_worked_99 : decode cX9_worked 99 = .ok (.goto 6, 3) := by decide +kernel
theorem dX9_worked_102 : decode cX9_worked 102 = .ok (.iload_n 1, 1) := by decide +kernel
theorem dX9_worked_103 : decode cX9_worked 103 = .ok (.iload_n 2, 1) := by decide +kernel
theorem dX9_worked_104 : decode cX9_worked 104 = .ok (.idiv, 1) := by decide +kernel
theorem dX9_worked_105 : decode cX9_worked 105 = .ok (.ireturn, 1) := by decide +kernel
theorem dX9_ruled_0 : decode cX9_ruled 0 = .ok (.iconst 0, 1) := by decide +kernel
theorem dX9_ruled_1 : decode cX9_ruled 1 = .ok (.istore_n 1, 1) := by decide +kernel
theorem dX9_ruled_2 : decode cX9_ruled 2 = .ok (.iconst 0, 1) := by decide +kernel
theorem dX9_ruled_3 : decode cX9_ruled 3 = .ok (.istore_n 2, 1) := by decide +kernel
theorem dX9_ruled_4 : decode cX9_ruled 4 = .ok (.iload_n 2, 1) := by decide +kernel
theorem dX9_ruled_5 : decode cX9_ruled 5 = .ok (.aload_n 0, 1) := by decide +kernel
theorem dX9_ruled_6 : decode cX9_ruled 6 = .ok (.getfield 247, 3) := by decide +kernel
theorem dX9_ruled_9 : decode cX9_ruled 9 = .ok (.if_icmp .ge 116, 3) := by decide +kernel
theorem dX9_ruled_12 : decode cX9_ruled 12 = .ok (.aload_n 0, 1) := by decide +kernel
theorem dX9_ruled_13 : decode cX9_ruled 13 = .ok (.getfield 46, 3) := by decide +kernel
theorem dX9_ruled_16 : decode cX9_ruled 16 = .ok (.iload_n 2, 1) := by decide +kernel
theorem dX9_ruled_17 : decode cX9_ruled 17 = .ok (.iaload, 1) := by decide +kernel
theorem dX9_ruled_18 : decode cX9_ruled 18 = .ok (.istore_n 3, 1) := by decide +kernel
theorem dX9_ruled_19 : decode cX9_ruled 19 = .ok (.iload_n 3, 1) := by decide +kernel
theorem dX9_ruled_20 : decode cX9_ruled 20 = .ok (.sipush 3000, 3) := by decide +kernel
theorem dX9_ruled_23 : decode cX9_ruled 23 = .ok (.if_icmp .ne 23, 3) := by decide +kernel
theorem dX9_ruled_26 : decode cX9_ruled 26 = .ok (.aload_n 0, 1) := by decide +kernel
theorem dX9_ruled_27 : decode cX9_ruled 27 = .ok (.getfield 52, 3) := by decide +kernel
theorem dX9_ruled_30 : decode cX9_ruled 30 = .ok (.iload_n 1, 1) := by decide +kernel
theorem dX9_ruled_31 : decode cX9_ruled 31 = .ok (.iconst 1, 1) := by decide +kernel
theorem dX9_ruled_32 : decode cX9_ruled 32 = .ok (.isub, 1) := by decide +kernel
theorem dX9_ruled_33 : decode cX9_ruled 33 = .ok (.aload_n 0, 1) := by decide +kernel
theorem dX9_ruled_34 : decode cX9_ruled 34 = .ok (.getfield 52, 3) := by decide +kernel
theorem dX9_ruled_37 : decode cX9_ruled 37 = .ok (.iload_n 1, 1) := by decide +kernel
theorem dX9_ruled_38 : decode cX9_ruled 38 = .ok (.iconst 1, 1) := by decide +kernel
theorem dX9_ruled_39 : decode cX9_ruled 39 = .ok (.isub, 1) := by decide +kernel
theorem dX9_ruled_40 : decode cX9_ruled 40 = .ok (.iaload, 1) := by decide +kernel
theorem dX9_ruled_41 : decode cX9_ruled 41 = .ok (.ineg, 1) := by decide +kernel
theorem dX9_ruled_42 : decode cX9_ruled 42 = .ok (.iastore, 1) := by decide +kernel
theorem dX9_ruled_43 : decode cX9_ruled 43 = .ok (.goto 76, 3) := by decide +kernel
theorem dX9_ruled_46 : decode cX9_ruled 46 = .ok (.iload_n 3, 1) := by decide +kernel
theorem dX9_ruled_47 : decode cX9_ruled 47 = .ok (.sipush 2000, 3) := by decide +kernel
theorem dX9_ruled_50 : decode cX9_ruled 50 = .ok (.if_icmp .lt 39, 3) := by decide +kernel
theorem dX9_ruled_53 : decode cX9_ruled 53 = .ok (.iinc 1 (-1), 3) := by decide +kernel
theorem dX9_ruled_56 : decode cX9_ruled 56 = .ok (.aload_n 0, 1) := by decide +kernel
theorem dX9_ruled_57 : decode cX9_ruled 57 = .ok (.getfield 52, 3) := by decide +kernel
theorem dX9_ruled_60 : decode cX9_ruled 60 = .ok (.iload_n 1, 1) := by decide +kernel
theorem dX9_ruled_61 : decode cX9_ruled 61 = .ok (.iconst 1, 1) := by decide +kernel
theorem dX9_ruled_62 : decode cX9_ruled 62 = .ok (.isub, 1) := by decide +kernel
theorem dX9_ruled_63 : decode cX9_ruled 63 = .ok (.iload_n 3, 1) := by decide +kernel
theorem dX9_ruled_64 : decode cX9_ruled 64 = .ok (.sipush 2000, 3) := by decide +kernel
theorem dX9_ruled_67 : decode cX9_ruled 67 = .ok (.isub, 1) := by decide +kernel
theorem dX9_ruled_68 : decode cX9_ruled 68 = .ok (.aload_n 0, 1) := by decide +kernel
theorem dX9_ruled_69 : decode cX9_ruled 69 = .ok (.getfield 52, 3) := by decide +kernel
theorem dX9_ruled_72 : decode cX9_ruled 72 = .ok (.iload_n 1, 1) := by decide +kernel
theorem dX9_ruled_73 : decode cX9_ruled 73 = .ok (.iconst 1, 1) := by decide +kernel
theorem dX9_ruled_74 : decode cX9_ruled 74 = .ok (.isub, 1) := by decide +kernel
theorem dX9_ruled_75 : decode cX9_ruled 75 = .ok (.iaload, 1) := by decide +kernel
theorem dX9_ruled_76 : decode cX9_ruled 76 = .ok (.aload_n 0, 1) := by decide +kernel
theorem dX9_ruled_77 : decode cX9_ruled 77 = .ok (.getfield 52, 3) := by decide +kernel
theorem dX9_ruled_80 : decode cX9_ruled 80 = .ok (.iload_n 1, 1) := by decide +kernel
theorem dX9_ruled_81 : decode cX9_ruled 81 = .ok (.iaload, 1) := by decide +kernel
theorem dX9_ruled_82 : decode cX9_ruled 82 = .ok (.invokestatic 257, 3) := by decide +kernel
theorem dX9_ruled_85 : decode cX9_ruled 85 = .ok (.iastore, 1) := by decide +kernel
theorem dX9_ruled_86 : decode cX9_ruled 86 = .ok (.goto 33, 3) := by decide +kernel
theorem dX9_ruled_89 : decode cX9_ruled 89 = .ok (.aload_n 0, 1) := by decide +kernel
theorem dX9_ruled_90 : decode cX9_ruled 90 = .ok (.getfield 52, 3) := by decide +kernel
theorem dX9_ruled_93 : decode cX9_ruled 93 = .ok (.iload_n 1, 1) := by decide +kernel
theorem dX9_ruled_94 : decode cX9_ruled 94 = .ok (.iload_n 3, 1) := by decide +kernel
theorem dX9_ruled_95 : decode cX9_ruled 95 = .ok (.sipush 1000, 3) := by decide +kernel
theorem dX9_ruled_98 : decode cX9_ruled 98 = .ok (.if_icmp .lt 16, 3) := by decide +kernel
theorem dX9_ruled_101 : decode cX9_ruled 101 = .ok (.aload_n 0, 1) := by decide +kernel
theorem dX9_ruled_102 : decode cX9_ruled 102 = .ok (.getfield 55, 3) := by decide +kernel
theorem dX9_ruled_105 : decode cX9_ruled 105 = .ok (.iload_n 3, 1) := by decide +kernel
theorem dX9_ruled_106 : decode cX9_ruled 106 = .ok (.sipush 1000, 3) := by decide +kernel
theorem dX9_ruled_109 : decode cX9_ruled 109 = .ok (.isub, 1) := by decide +kernel
theorem dX9_ruled_110 : decode cX9_ruled 110 = .ok (.iaload, 1) := by decide +kernel
theorem dX9_ruled_111 : decode cX9_ruled 111 = .ok (.goto 4, 3) := by decide +kernel
theorem dX9_ruled_114 : decode cX9_ruled 114 = .ok (.iload_n 3, 1) := by decide +kernel
theorem dX9_ruled_115 : decode cX9_ruled 115 = .ok (.iastore, 1) := by decide +kernel
theorem dX9_ruled_116 : decode cX9_ruled 116 = .ok (.iinc 1 1, 3) := by decide +kernel
theorem dX9_ruled_119 : decode cX9_ruled 119 = .ok (.iinc 2 1, 3) := by decide +kernel
theorem dX9_ruled_122 : decode cX9_ruled 122 = .ok (.goto (-118), 3) := by decide +kernel
theorem dX9_ruled_125 : decode cX9_ruled 125 = .ok (.aload_n 0, 1) := by decide +kernel
theorem dX9_ruled_126 : decode cX9_ruled 126 = .ok (.getfield 247, 3) := by decide +kernel
theorem dX9_ruled_129 : decode cX9_ruled 129 = .ok (.ifCond .ne 23, 3) := by decide +kernel
theorem dX9_ruled_132 : decode cX9_ruled 132 = .ok (.aload_n 0, 1) := by decide +kernel
theorem dX9_ruled_133 : decode cX9_ruled 133 = .ok (.getfield 55, 3) := by decide +kernel
theorem dX9_ruled_136 : decode cX9_ruled 136 = .ok (.iconst 0, 1) := by decide +kernel
theorem dX9_ruled_137 : decode cX9_ruled 137 = .ok (.iaload, 1) := by decide +kernel
theorem dX9_ruled_138 : decode cX9_ruled 138 = .ok (.iconst 2, 1) := by decide +kernel
theorem dX9_ruled_139 : decode cX9_ruled 139 = .ok (.idiv, 1) := by decide +kernel
theorem dX9_ruled_140 : decode cX9_ruled 140 = .ok (.aload_n 0, 1) := by decide +kernel
theorem dX9_ruled_141 : decode cX9_ruled 141 = .ok (.getfield 55, 3) := by decide +kernel
theorem dX9_ruled_144 : decode cX9_ruled 144 = .ok (.iconst 1, 1) := by decide +kernel
theorem dX9_ruled_145 : decode cX9_ruled 145 = .ok (.iaload, 1) := by decide +kernel
theorem dX9_ruled_146 : decode cX9_ruled 146 = .ok (.iconst 3, 1) := by decide +kernel
theorem dX9_ruled_147 : decode cX9_ruled 147 = .ok (.idiv, 1) := by decide +kernel
theorem dX9_ruled_148 : decode cX9_ruled 148 = .ok (.iadd, 1) := by decide +kernel
theorem dX9_ruled_149 : decode cX9_ruled 149 = .ok (.goto 9, 3) := by decide +kernel
theorem dX9_ruled_152 : decode cX9_ruled 152 = .ok (.aload_n 0, 1) := by decide +kernel
theorem dX9_ruled_153 : decode cX9_ruled 153 = .ok (.getfield 52, 3) := by decide +kernel
theorem dX9_ruled_156 : decode cX9_ruled 156 = .ok (.iconst 0, 1) := by decide +kernel
theorem dX9_ruled_157 : decode cX9_ruled 157 = .ok (.iaload, 1) := by decide +kernel
theorem dX9_ruled_158 : decode cX9_ruled 158 = .ok (.ireturn, 1) := by decide +kernel
theorem dX9_need_0 : decode cX9_need 0 = .ok (.aload_n 1, 1) := by decide +kernel
theorem dX9_need_1 : decode cX9_need 1 = .ok (.bipush 32, 2) := by decide +kernel
theorem dX9_need_3 : decode cX9_need 3 = .ok (.iaload, 1) := by decide +kernel
theorem dX9_need_4 : decode cX9_need 4 = .ok (.iload_n 2, 1) := by decide +kernel
theorem dX9_need_5 : decode cX9_need 5 = .ok (.invokestatic 127, 3) := by decide +kernel
theorem dX9_need_8 : decode cX9_need 8 = .ok (.ifCond .eq 5, 3) := by decide +kernel
theorem dX9_need_11 : decode cX9_need 11 = .ok (.iconst 0, 1) := by decide +kernel
theorem dX9_need_12 : decode cX9_need 12 = .ok (.ireturn, 1) := by decide +kernel
theorem dX9_need_13 : decode cX9_need 13 = .ok (.aload_n 0, 1) := by decide +kernel
theorem dX9_need_14 : decode cX9_need 14 = .ok (.getfield 55, 3) := by decide +kernel
theorem dX9_need_17 : decode cX9_need 17 = .ok (.iconst 0, 1) := by decide +kernel
theorem dX9_need_18 : decode cX9_need 18 = .ok (.aload_n 0, 1) := by decide +kernel
theorem dX9_need_19 : decode cX9_need 19 = .ok (.getfield 27, 3) := by decide +kernel
theorem dX9_need_22 : decode cX9_need 22 = .ok (.iload_n 2, 1) := by decide +kernel
theorem dX9_need_23 : decode cX9_need 23 = .ok (.iaload, 1) := by decide +kernel
theorem dX9_need_24 : decode cX9_need 24 = .ok (.iastore, 1) := by decide +kernel
theorem dX9_need_25 : decode cX9_need 25 = .ok (.aload_n 0, 1) := by decide +kernel
theorem dX9_need_26 : decode cX9_need 26 = .ok (.getfield 55, 3) := by decide +kernel
theorem dX9_need_29 : decode cX9_need 29 = .ok (.iconst 1, 1) := by decide +kernel
theorem dX9_need_30 : decode cX9_need 30 = .ok (.aload_n 0, 1) := by decide +kernel
theorem dX9_need_31 : decode cX9_need 31 = .ok (.aload_n 1, 1) := by decide +kernel
theorem dX9_need_32 : decode cX9_need 32 = .ok (.bipush 36, 2) := by decide +kernel
theorem dX9_need_34 : decode cX9_need 34 = .ok (.iaload, 1) := by decide +kernel
theorem dX9_need_35 : decode cX9_need 35 = .ok (.invokevirtual 261, 3) := by decide +kernel
theorem dX9_need_38 : decode cX9_need 38 = .ok (.iastore, 1) := by decide +kernel
theorem dX9_need_39 : decode cX9_need 39 = .ok (.aload_n 0, 1) := by decide +kernel
theorem dX9_need_40 : decode cX9_need 40 = .ok (.getfield 55, 3) := by decide +kernel
theorem dX9_need_43 : decode cX9_need 43 = .ok (.iconst 2, 1) := by decide +kernel
theorem dX9_need_44 : decode cX9_need 44 = .ok (.aload_n 1, 1) := by decide +kernel
theorem dX9_need_45 : decode cX9_need 45 = .ok (.bipush 24, 2) := by decide +kernel
theorem dX9_need_47 : decode cX9_need 47 = .ok (.iload_n 2, 1) := by decide +kernel
theorem dX9_need_48 : decode cX9_need 48 = .ok (.iadd, 1) := by decide +kernel
theorem dX9_need_49 : decode cX9_need 49 = .ok (.iaload, 1) := by decide +kernel
theorem dX9_need_50 : decode cX9_need 50 = .ok (.invokestatic 135, 3) := by decide +kernel
theorem dX9_need_53 : decode cX9_need 53 = .ok (.iastore, 1) := by decide +kernel
theorem dX9_need_54 : decode cX9_need 54 = .ok (.aload_n 0, 1) := by decide +kernel
theorem dX9_need_55 : decode cX9_need 55 = .ok (.getfield 55, 3) := by decide +kernel
theorem dX9_need_58 : decode cX9_need 58 = .ok (.iconst 3, 1) := by decide +kernel
theorem dX9_need_59 : decode cX9_need 59 = .ok (.aload_n 1, 1) := by decide +kernel
theorem dX9_need_60 : decode cX9_need 60 = .ok (.iload_n 2, 1) := by decide +kernel
theorem dX9_need_61 : decode cX9_need 61 = .ok (.iaload, 1) := by decide +kernel
theorem dX9_need_62 : decode cX9_need 62 = .ok (.iastore, 1) := by decide +kernel
theorem dX9_need_63 : decode cX9_need 63 = .ok (.aload_n 0, 1) := by decide +kernel
theorem dX9_need_64 : decode cX9_need 64 = .ok (.getfield 55, 3) := by decide +kernel
theorem dX9_need_67 : decode cX9_need 67 = .ok (.iconst 4, 1) := by decide +kernel
theorem dX9_need_68 : decode cX9_need 68 = .ok (.aload_n 1, 1) := by decide +kernel
theorem dX9_need_69 : decode cX9_need 69 = .ok (.bipush 8, 2) := by decide +kernel
theorem dX9_need_71 : decode cX9_need 71 = .ok (.iload_n 2, 1) := by decide +kernel
theorem dX9_need_72 : decode cX9_need 72 = .ok (.iadd, 1) := by decide +kernel
theorem dX9_need_73 : decode cX9_need 73 = .ok (.iaload, 1) := by decide +kernel
theorem dX9_need_74 : decode cX9_need 74 = .ok (.iastore, 1) := by decide +kernel
theorem dX9_need_75 : decode cX9_need 75 = .ok (.aload_n 0, 1) := by decide +kernel
theorem dX9_need_76 : decode cX9_need 76 = .ok (.getfield 55, 3) := by decide +kernel
theorem dX9_need_79 : decode cX9_need 79 = .ok (.iconst 5, 1) := by decide +kernel
theorem dX9_need_80 : decode cX9_need 80 = .ok (.aload_n 1, 1) := by decide +kernel
theorem dX9_need_81 : decode cX9_need 81 = .ok (.bipush 16, 2) := by decide +kernel
theorem dX9_need_83 : decode cX9_need 83 = .ok (.iload_n 2, 1) := by decide +kernel
theorem dX9_need_84 : decode cX9_need 84 = .ok (.iadd, 1) := by decide +kernel
theorem dX9_need_85 : decode cX9_need 85 = .ok (.iaload, 1) := by decide +kernel
theorem dX9_need_86 : decode cX9_need 86 = .ok (.iastore, 1) := by decide +kernel
theorem dX9_need_87 : decode cX9_need 87 = .ok (.aload_n 0, 1) := by decide +kernel
theorem dX9_need_88 : decode cX9_need 88 = .ok (.getfield 55, 3) := by decide +kernel
theorem dX9_need_91 : decode cX9_need 91 = .ok (.bipush 6, 2) := by decide +kernel
theorem dX9_need_93 : decode cX9_need 93 = .ok (.iload_n 2, 1) := by decide +kernel
theorem dX9_need_94 : decode cX9_need 94 = .ok (.iastore, 1) := by decide +kernel
theorem dX9_need_95 : decode cX9_need 95 = .ok (.aload_n 0, 1) := by decide +kernel
theorem dX9_need_96 : decode cX9_need 96 = .ok (.getfield 55, 3) := by decide +kernel
theorem dX9_need_99 : decode cX9_need 99 = .ok (.bipush 7, 2) := by decide +kernel
theorem dX9_need_101 : decode cX9_need 101 = .ok (.aload_n 1, 1) := by decide +kernel
theorem dX9_need_102 : decode cX9_need 102 = .ok (.bipush 36, 2) := by decide +kernel
theorem dX9_need_104 : decode cX9_need 104 = .ok (.iaload, 1) := by decide +kernel
theorem dX9_need_105 : decode cX9_need 105 = .ok (.bipush 7, 2) := by decide +kernel
theorem dX9_need_107 : decode cX9_need 107 = .ok (.irem, 1) := by decide +kernel
theorem dX9_need_108 : decode cX9_need 108 = .ok (.iastore, 1) := by decide +kernel
theorem dX9_need_109 : decode cX9_need 109 = .ok (.iconst 0, 1) := by decide +kernel
theorem dX9_need_110 : decode cX9_need 110 = .ok (.bipush 9, 2) := by decide +kernel
theorem dX9_need_112 : decode cX9_need 112 = .ok (.aload_n 0, 1) := by decide +kernel
theorem dX9_need_113 : decode cX9_need 113 = .ok (.invokevirtual 264, 3) := by decide +kernel
theorem dX9_need_116 : decode cX9_need 116 = .ok (.invokestatic 150, 3) := by decide +kernel
theorem dX9_need_119 : decode cX9_need 119 = .ok (.invokestatic 267, 3) := by decide +kernel
theorem dX9_need_122 : decode cX9_need 122 = .ok (.ireturn, 1) := by decide +kernel
theorem dX9_needOf_0 : decode cX9_needOf 0 = .ok (.iconst 0, 1) := by decide +kernel
theorem dX9_needOf_1 : decode cX9_needOf 1 = .ok (.istore_n 3, 1) := by decide +kernel
theorem dX9_needOf_2 : decode cX9_needOf 2 = .ok (.iconst 0, 1) := by decide +kernel
theorem dX9_needOf_3 : decode cX9_needOf 3 = .ok (.istore 4, 2) := by decide +kernel
theorem dX9_needOf_5 : decode cX9_needOf 5 = .ok (.iload 4, 2) := by decide +kernel
theorem dX9_needOf_7 : decode cX9_needOf 7 = .ok (.aload_n 0, 1) := by decide +kernel
theorem dX9_needOf_8 : decode cX9_needOf 8 = .ok (.getfield 116, 3) := by decide +kernel
theorem dX9_needOf_11 : decode cX9_needOf 11 = .ok (.if_icmp .ge 32, 3) := by decide +kernel
theorem dX9_needOf_14 : decode cX9_needOf 14 = .ok (.iload_n 3, 1) := by decide +kernel
theorem dX9_needOf_15 : decode cX9_needOf 15 = .ok (.iload_n 2, 1) := by decide +kernel
theorem dX9_needOf_16 : decode cX9_needOf 16 = .ok (.iload 4, 2) := by decide +kernel
theorem dX9_needOf_18 : decode cX9_needOf 18 = .ok (.invokestatic 127, 3) := by decide +kernel
theorem dX9_needOf_21 : decode cX9_needOf 21 = .ok (.ifCond .eq 13, 3) := by decide +kernel
theorem dX9_needOf_24 : decode cX9_needOf 24 = .ok (.aload_n 0, 1) := by decide +kernel
theorem dX9_needOf_25 : decode cX9_needOf 25 = .ok (.aload_n 1, 1) := by decide +kernel
theorem dX9_needOf_26 : decode cX9_needOf 26 = .ok (.iload 4, 2) := by decide +kernel
theorem dX9_needOf_28 : decode cX9_needOf 28 = .ok (.invokevirtual 270, 3) := by decide +kernel
theorem dX9_needOf_31 : decode cX9_needOf 31 = .ok (.goto 4, 3) := by decide +kernel
theorem dX9_needOf_34 : decode cX9_needOf 34 = .ok (.iconst 0, 1) := by decide +kernel
theorem dX9_needOf_35 : decode cX9_needOf 35 = .ok (.iadd, 1) := by decide +kernel
theorem dX9_needOf_36 : decode cX9_needOf 36 = .ok (.istore_n 3, 1) := by decide +kernel
theorem dX9_needOf_37 : decode cX9_needOf 37 = .ok (.iinc 4 1, 3) := by decide +kernel
theorem dX9_needOf_40 : decode cX9_needOf 40 = .ok (.goto (-35), 3) := by decide +kernel
theorem dX9_needOf_43 : decode cX9_needOf 43 = .ok (.iload_n 3, 1) := by decide +kernel
theorem dX9_needOf_44 : decode cX9_needOf 44 = .ok (.ireturn, 1) := by decide +kernel
theorem dX9_above_0 : decode cX9_above 0 = .ok (.aload_n 0, 1) := by decide +kernel
theorem dX9_above_1 : decode cX9_above 1 = .ok (.aload_n 1, 1) := by decide +kernel
theorem dX9_above_2 : decode cX9_above 2 = .ok (.iconst 0, 1) := by decide +kernel
theorem dX9_above_3 : decode cX9_above 3 = .ok (.iload_n 2, 1) := by decide +kernel
theorem dX9_above_4 : decode cX9_above 4 = .ok (.invokevirtual 274, 3) := by decide +kernel
theorem dX9_above_7 : decode cX9_above 7 = .ok (.aload_n 0, 1) := by decide +kernel
theorem dX9_above_8 : decode cX9_above 8 = .ok (.aload_n 1, 1) := by decide +kernel
theorem dX9_above_9 : decode cX9_above 9 = .ok (.iload_n 2, 1) := by decide +kernel
theorem dX9_above_10 : decode cX9_above 10 = .ok (.invokevirtual 278, 3) := by decide +kernel
theorem dX9_above_13 : decode cX9_above 13 = .ok (.isub, 1) := by decide +kernel
theorem dX9_above_14 : decode cX9_above 14 = .ok (.ireturn, 1) := by decide +kernel
theorem dX9_firstOnes_0 : decode cX9_firstOnes 0 = .ok (.iconst 0, 1) := by decide +kernel
theorem dX9_firstOnes_1 : decode cX9_firstOnes 1 = .ok (.istore_n 2, 1) := by decide +kernel
theorem dX9_firstOnes_2 : decode cX9_firstOnes 2 = .ok (.iconst 0, 1) := by decide +kernel
theorem dX9_firstOnes_3 : decode cX9_firstOnes 3 = .ok (.istore_n 3, 1) := by decide +kernel
theorem dX9_firstOnes_4 : decode cX9_firstOnes 4 = .ok (.iload_n 3, 1) := by decide +kernel
theorem dX9_firstOnes_5 : decode cX9_firstOnes 5 = .ok (.aload_n 0, 1) := by decide +kernel
theorem dX9_firstOnes_6 : decode cX9_firstOnes 6 = .ok (.getfield 116, 3) := by decide +kernel
theorem dX9_firstOnes_9 : decode cX9_firstOnes 9 = .ok (.if_icmp .ge 41, 3) := by decide +kernel
theorem dX9_firstOnes_12 : decode cX9_firstOnes 12 = .ok (.aload_n 0, 1) := by decide +kernel
theorem dX9_firstOnes_13 : decode cX9_firstOnes 13 = .ok (.aload_n 1, 1) := by decide +kernel
theorem dX9_firstOnes_14 : decode cX9_firstOnes 14 = .ok (.iload_n 3, 1) := by decide +kernel
theorem dX9_firstOnes_15 : decode cX9_firstOnes 15 = .ok (.invokevirtual 281, 3) := by decide +kernel
theorem dX9_firstOnes_18 : decode cX9_firstOnes 18 = .ok (.istore 4, 2) := by decide +kernel
theorem dX9_firstOnes_20 : decode cX9_firstOnes 20 = .ok (.iload_n 2, 1) := by decide +kernel
theorem dX9_firstOnes_21 : decode cX9_firstOnes 21 = .ok (.iload 4, 2) := by decide +kernel
theorem dX9_firstOnes_23 : decode cX9_firstOnes 23 = .ok (.ifCond .eq 18, 3) := by decide +kernel
theorem dX9_firstOnes_26 : decode cX9_firstOnes 26 = .ok (.iload 4, 2) := by decide +kernel
theorem dX9_firstOnes_28 : decode cX9_firstOnes 28 = .ok (.invokestatic 284, 3) := by decide +kernel
theorem dX9_firstOnes_31 : decode cX9_firstOnes 31 = .ok (.iload_n 3, 1) := by decide +kernel
theorem dX9_firstOnes_32 : decode cX9_firstOnes 32 = .ok (.if_icmp .ne 9, 3) := by decide +kernel
theorem dX9_firstOnes_35 : decode cX9_firstOnes 35 = .ok (.iconst 1, 1) := by decide +kernel
theorem dX9_firstOnes_36 : decode cX9_firstOnes 36 = .ok (.iload_n 3, 1) := by decide +kernel
theorem dX9_firstOnes_37 : decode cX9_firstOnes 37 = .ok (.ishl, 1) := by decide +kernel
theorem dX9_firstOnes_38 : decode cX9_firstOnes 38 = .ok (.goto 4, 3) := by decide +kernel
theorem dX9_firstOnes_41 : decode cX9_firstOnes 41 = .ok (.iconst 0, 1) := by decide +kernel
theorem dX9_firstOnes_42 : decode cX9_firstOnes 42 = .ok (.ior, 1) := by decide +kernel
theorem dX9_firstOnes_43 : decode cX9_firstOnes 43 = .ok (.istore_n 2, 1) := by decide +kernel
theorem dX9_firstOnes_44 : decode cX9_firstOnes 44 = .ok (.iinc 3 1, 3) := by decide +kernel
theorem dX9_firstOnes_47 : decode cX9_firstOnes 47 = .ok (.goto (-43), 3) := by decide +kernel
theorem dX9_firstOnes_50 : decode cX9_firstOnes 50 = .ok (.iload_n 2, 1) := by decide +kernel
theorem dX9_firstOnes_51 : decode cX9_firstOnes 51 = .ok (.ireturn, 1) := by decide +kernel
theorem dX9_floating_0 : decode cX9_floating 0 = .ok (.iconst 0, 1) := by decide +kernel
theorem dX9_floating_1 : decode cX9_floating 1 = .ok (.istore_n 2, 1) := by decide +kernel
theorem dX9_floating_2 : decode cX9_floating 2 = .ok (.iconst 0, 1) := by decide +kernel
theorem dX9_floating_3 : decode cX9_floating 3 = .ok (.istore_n 3, 1) := by decide +kernel
theorem dX9_floating_4 : decode cX9_floating 4 = .ok (.iload_n 3, 1) := by decide +kernel
theorem dX9_floating_5 : decode cX9_floating 5 = .ok (.aload_n 0, 1) := by decide +kernel
theorem dX9_floating_6 : decode cX9_floating 6 = .ok (.getfield 116, 3) := by decide +kernel
theorem dX9_floating_9 : decode cX9_floating 9 = .ok (.if_icmp .ge 48, 3) := by decide +kernel
theorem dX9_floating_12 : decode cX9_floating 12 = .ok (.iload_n 2, 1) := by decide +kernel
theorem dX9_floating_13 : decode cX9_floating 13 = .ok (.iload_n 3, 1) := by decide +kernel
theorem dX9_floating_14 : decode cX9_floating 14 = .ok (.invokestatic 127, 3) := by decide +kernel
theorem dX9_floating_17 : decode cX9_floating 17 = .ok (.ifCond .eq 7, 3) := by decide +kernel
theorem dX9_floating_20 : decode cX9_floating 20 = .ok (.iconst 0, 1) := by decide +kernel
theorem dX9_floating_21 : decode cX9_floating 21 = .ok (.goto 9, 3) := by decide +kernel
theorem dX9_floating_24 : decode cX9_floating 24 = .ok (.aload_n 0, 1) := by decide +kernel
theorem dX9_floating_25 : decode cX9_floating 25 = .ok (.aload_n 1, 1) := by decide +kernel
theorem dX9_floating_26 : decode cX9_floating 26 = .ok (.iload_n 3, 1) := by decide +kernel
theorem dX9_floating_27 : decode cX9_floating 27 = .ok (.invokevirtual 281, 3) := by decide +kernel
theorem dX9_floating_30 : decode cX9_floating 30 = .ok (.istore 4, 2) := by decide +kernel
theorem dX9_floating_32 : decode cX9_floating 32 = .ok (.iload_n 2, 1) := by decide +kernel
theorem dX9_floating_33 : decode cX9_floating 33 = .ok (.aload_n 0, 1) := by decide +kernel
theorem dX9_floating_34 : decode cX9_floating 34 = .ok (.aload_n 1, 1) := by decide +kernel
theorem dX9_floating_35 : decode cX9_floating 35 = .ok (.iload 4, 2) := by decide +kernel
theorem dX9_floating_37 : decode cX9_floating 37 = .ok (.invokevirtual 287, 3) := by decide +kernel
theorem dX9_floating_40 : decode cX9_floating 40 = .ok (.ifCond .ge 8, 3) := by decide +kernel
theorem dX9_floating_43 : decode cX9_floating 43 = .ok (.iload 4, 2) := by decide +kernel
theorem dX9_floating_45 : decode cX9_floating 45 = .ok (.goto 4, 3) := by decide +kernel
theorem dX9_floating_48 : decode cX9_floating 48 = .ok (.iconst 0, 1) := by decide +kernel
theorem dX9_floating_49 : decode cX9_floating 49 = .ok (.ior, 1) := by decide +kernel
theorem dX9_floating_50 : decode cX9_floating 50 = .ok (.istore_n 2, 1) := by decide +kernel
theorem dX9_floating_51 : decode cX9_floating 51 = .ok (.iinc 3 1, 3) := by decide +kernel
theorem dX9_floating_54 : decode cX9_floating 54 = .ok (.goto (-50), 3) := by decide +kernel
theorem dX9_floating_57 : decode cX9_floating 57 = .ok (.iload_n 2, 1) := by decide +kernel
theorem dX9_floating_58 : decode cX9_floating 58 = .ok (.ireturn, 1) := by decide +kernel
theorem dX9_thing_0 : decode cX9_thing 0 = .ok (.aload_n 0, 1) := by decide +kernel
theorem dX9_thing_1 : decode cX9_thing 1 = .ok (.iconst 0, 1) := by decide +kernel
theorem dX9_thing_2 : decode cX9_thing 2 = .ok (.putfield 3, 3) := by decide +kernel
theorem dX9_thing_5 : decode cX9_thing 5 = .ok (.aload_n 0, 1) := by decide +kernel
theorem dX9_thing_6 : decode cX9_thing 6 = .ok (.iload_n 1, 1) := by decide +kernel
theorem dX9_thing_7 : decode cX9_thing 7 = .ok (.invokevirtual 123, 3) := by decide +kernel
theorem dX9_thing_10 : decode cX9_thing 10 = .ok (.ifCond .eq 15, 3) := by decide +kernel
theorem dX9_thing_13 : decode cX9_thing 13 = .ok (.iload_n 2, 1) := by decide +kernel
theorem dX9_thing_14 : decode cX9_thing 14 = .ok (.i2l, 1) := by decide +kernel
theorem dX9_thing_15 : decode cX9_thing 15 = .ok (.lconst 0, 1) := by decide +kernel
theorem dX9_thing_16 : decode cX9_thing 16 = .ok (.ldc2_w 290, 3) := by decide +kernel
theorem dX9_thing_19 : decode cX9_thing 19 = .ok (.invokestatic 119, 3) := by decide +kernel
theorem dX9_thing_22 : decode cX9_thing 22 = .ok (.ifCond .ne 8, 3) := by decide +kernel
theorem dX9_thing_25 : decode cX9_thing 25 = .ok (.aload_n 0, 1) := by decide +kernel
theorem dX9_thing_26 : decode cX9_thing 26 = .ok (.invokevirtual 292, 3) := by decide +kernel
theorem dX9_thing_29 : decode cX9_thing 29 = .ok (.ireturn, 1) := by decide +kernel
theorem dX9_thing_30 : decode cX9_thing 30 = .ok (.iload_n 2, 1) := by decide +kernel
theorem dX9_thing_31 : decode cX9_thing 31 = .ok (.tableswitch 110 0 6 #[41, 48, 55, 65, 75, 90, 100], 41) := by decide +kernel
theorem dX9_thing_72 : decode cX9_thing 72 = .ok (.aload_n 0, 1) := by decide +kernel
theorem dX9_thing_73 : decode cX9_thing 73 = .ok (.getfield 27, 3) := by decide +kernel
theorem dX9_thing_76 : decode cX9_thing 76 = .ok (.iload_n 1, 1) := by decide +kernel
theorem dX9_thing_77 : decode cX9_thing 77 = .ok (.iaload, 1) := by decide +kernel
theorem dX9_thing_78 : decode cX9_thing 78 = .ok (.ireturn, 1) := by decide +kernel
theorem dX9_thing_79 : decode cX9_thing 79 = .ok (.aload_n 0, 1) := by decide +kernel
theorem dX9_thing_80 : decode cX9_thing 80 = .ok (.getfield 34, 3) := by decide +kernel
theorem dX9_thing_83 : decode cX9_thing 83 = .ok (.iload_n 1, 1) := by decide +kernel
theorem dX9_thing_84 : decode cX9_thing 84 = .ok (.iaload, 1) := by decide +kernel
theorem dX9_thing_85 : decode cX9_thing 85 = .ok (.ireturn, 1) := by decide +kernel
theorem dX9_thing_86 : decode cX9_thing 86 = .ok (.aload_n 0, 1) := by decide +kernel
theorem dX9_thing_87 : decode cX9_thing 87 = .ok (.getfield 34, 3) := by decide +kernel
theorem dX9_thing_90 : decode cX9_thing 90 = .ok (.bipush 8, 2) := by decide +kernel
theorem dX9_thing_92 : decode cX9_thing 92 = .ok (.iload_n 1, 1) := by decide +kernel
theorem dX9_thing_93 : decode cX9_thing 93 = .ok (.iadd, 1) := by decide +kernel
theorem dX9_thing_94 : decode cX9_thing 94 = .ok (.iaload, 1) := by decide +kernel
theorem dX9_thing_95 : decode cX9_thing 95 = .ok (.ireturn, 1) := by decide +kernel
theorem dX9_thing_96 : decode cX9_thing 96 = .ok (.aload_n 0, 1) := by decide +kernel
theorem dX9_thing_97 : decode cX9_thing 97 = .ok (.getfield 34, 3) := by decide +kernel
theorem dX9_thing_100 : decode cX9_thing 100 = .ok (.bipush 16, 2) := by decide +kernel
theorem dX9_thing_102 : decode cX9_thing 102 = .ok (.iload_n 1, 1) := by decide +kernel
theorem dX9_thing_103 : decode cX9_thing 103 = .ok (.iadd, 1) := by decide +kernel
theorem dX9_thing_104 : decode cX9_thing 104 = .ok (.iaload, 1) := by decide +kernel
theorem dX9_thing_105 : decode cX9_thing 105 = .ok (.ireturn, 1) := by decide +kernel
theorem dX9_thing_106 : decode cX9_thing 106 = .ok (.aload_n 0, 1) := by decide +kernel
theorem dX9_thing_107 : decode cX9_thing 107 = .ok (.getfield 34, 3) := by decide +kernel
theorem dX9_thing_110 : decode cX9_thing 110 = .ok (.bipush 32, 2) := by decide +kernel
theorem dX9_thing_112 : decode cX9_thing 112 = .ok (.iaload, 1) := by decide +kernel
theorem dX9_thing_113 : decode cX9_thing 113 = .ok (.iload_n 1, 1) := by decide +kernel
theorem dX9_thing_114 : decode cX9_thing 114 = .ok (.invokestatic 127, 3) := by decide +kernel
theorem dX9_thing_117 : decode cX9_thing 117 = .ok (.invokestatic 159, 3) := by decide +kernel
theorem dX9_thing_120 : decode cX9_thing 120 = .ok (.ireturn, 1) := by decide +kernel
theorem dX9_thing_121 : decode cX9_thing 121 = .ok (.aload_n 0, 1) := by decide +kernel
theorem dX9_thing_122 : decode cX9_thing 122 = .ok (.aload_n 0, 1) := by decide +kernel
theorem dX9_thing_123 : decode cX9_thing 123 = .ok (.getfield 34, 3) := by decide +kernel
theorem dX9_thing_126 : decode cX9_thing 126 = .ok (.iload_n 1, 1) := by decide +kernel
theorem dX9_thing_127 : decode cX9_thing 127 = .ok (.invokevirtual 270, 3) := by decide +kernel
theorem dX9_thing_130 : decode cX9_thing 130 = .ok (.ireturn, 1) := by decide +kernel
theorem dX9_thing_131 : decode cX9_thing 131 = .ok (.aload_n 0, 1) := by decide +kernel
theorem dX9_thing_132 : decode cX9_thing 132 = .ok (.getfield 34, 3) := by decide +kernel
theorem dX9_thing_135 : decode cX9_thing 135 = .ok (.bipush 24, 2) := by decide +kernel
theorem dX9_thing_137 : decode cX9_thing 137 = .ok (.iload_n 1, 1) := by decide +kernel
theorem dX9_thing_138 : decode cX9_thing 138 = .ok (.iadd, 1) := by decide +kernel
theorem dX9_thing_139 : decode cX9_thing 139 = .ok (.iaload, 1) := by decide +kernel
theorem dX9_thing_140 : decode cX9_thing 140 = .ok (.ireturn, 1) := by decide +kernel
theorem dX9_thing_141 : decode cX9_thing 141 = .ok (.aload_n 0, 1) := by decide +kernel
theorem dX9_thing_142 : decode cX9_thing 142 = .ok (.aload_n 0, 1) := by decide +kernel
theorem dX9_thing_143 : decode cX9_thing 143 = .ok (.getfield 34, 3) := by decide +kernel
theorem dX9_thing_146 : decode cX9_thing 146 = .ok (.iload_n 1, 1) := by decide +kernel
theorem dX9_thing_147 : decode cX9_thing 147 = .ok (.invokevirtual 281, 3) := by decide +kernel
theorem dX9_thing_150 : decode cX9_thing 150 = .ok (.ireturn, 1) := by decide +kernel
theorem dX9_sheet_0 : decode cX9_sheet 0 = .ok (.aload_n 0, 1) := by decide +kernel
theorem dX9_sheet_1 : decode cX9_sheet 1 = .ok (.iconst 0, 1) := by decide +kernel
theorem dX9_sheet_2 : decode cX9_sheet 2 = .ok (.putfield 3, 3) := by decide +kernel
theorem dX9_sheet_5 : decode cX9_sheet 5 = .ok (.iload_n 1, 1) := by decide +kernel
theorem dX9_sheet_6 : decode cX9_sheet 6 = .ok (.i2l, 1) := by decide +kernel
theorem dX9_sheet_7 : decode cX9_sheet 7 = .ok (.lconst 0, 1) := by decide +kernel
theorem dX9_sheet_8 : decode cX9_sheet 8 = .ok (.ldc2_w 295, 3) := by decide +kernel
theorem dX9_sheet_11 : decode cX9_sheet 11 = .ok (.invokestatic 119, 3) := by decide +kernel
theorem dX9_sheet_14 : decode cX9_sheet 14 = .ok (.ifCond .eq 9, 3) := by decide +kernel
theorem dX9_sheet_17 : decode cX9_sheet 17 = .ok (.iload_n 2, 1) := by decide +kernel
theorem dX9_sheet_18 : decode cX9_sheet 18 = .ok (.bipush 8, 2) := by decide +kernel
theorem dX9_sheet_20 : decode cX9_sheet 20 = .ok (.if_icmp .le 5, 3) := by decide +kernel
theorem dX9_sheet_23 : decode cX9_sheet 23 = .ok (.iconst (-1), 1) := by decide +kernel
theorem dX9_sheet_24 : decode cX9_sheet 24 = .ok (.ireturn, 1) := by decide +kernel
theorem dX9_sheet_25 : decode cX9_sheet 25 = .ok (.iload_n 1, 1) := by decide +kernel
theorem dX9_sheet_26 : decode cX9_sheet 26 = .ok (.iconst 3, 1) := by decide +kernel
theorem dX9_sheet_27 : decode cX9_sheet 27 = .ok (.if_icmp .eq 10, 3) := by decide +kernel
theorem dX9_sheet_30 : decode cX9_sheet 30 = .ok (.iload_n 2, 1) := by decide +kernel
theorem dX9_sheet_31 : decode cX9_sheet 31 = .ok (.ifCond .ge 6, 3) := by decide +kernel
theorem dX9_sheet_34 : decode cX9_sheet 34 = .ok (.bipush (-2), 2) := by decide +kernel
theorem dX9_sheet_36 : decode cX9_sheet 36 = .ok (.ireturn, 1) := by decide +kernel
theorem dX9_sheet_37 : decode cX9_sheet 37 = .ok (.iconst 0, 1) := by decide +kernel
theorem dX9_sheet_38 : decode cX9_sheet 38 = .ok (.istore 5, 2) := by decide +kernel
theorem dX9_sheet_40 : decode cX9_sheet 40 = .ok (.iload_n 3, 1) := by decide +kernel
theorem dX9_sheet_41 : decode cX9_sheet 41 = .ok (.istore 6, 2) := by decide +kernel
theorem dX9_sheet_43 : decode cX9_sheet 43 = .ok (.iconst 0, 1) := by decide +kernel
theorem dX9_sheet_44 : decode cX9_sheet 44 = .ok (.istore 7, 2) := by decide +kernel
theorem dX9_sheet_46 : decode cX9_sheet 46 = .ok (.iload 7, 2) := by decide +kernel
theorem dX9_sheet_48 : decode cX9_sheet 48 = .ok (.aload_n 0, 1) := by decide +kernel
theorem dX9_sheet_49 : decode cX9_sheet 49 = .ok (.getfield 116, 3) := by decide +kernel
theorem dX9_sheet_52 : decode cX9_sheet 52 = .ok (.if_icmp .ge 86, 3) := by decide +kernel
theorem dX9_sheet_55 : decode cX9_sheet 55 = .ok (.iload_n 1, 1) := by decide +kernel
theorem dX9_sheet_56 : decode cX9_sheet 56 = .ok (.ifCond .ne 9, 3) := by decide +kernel
theorem dX9_sheet_59 : decode cX9_sheet 59 = .ok (.iload 6, 2) := by decide +kernel
theorem dX9_sheet_61 : decode cX9_sheet 61 = .ok (.i2b, 1) := by decide +kernel
theorem dX9_sheet_62 : decode cX9_sheet 62 = .ok (.goto 16, 3) := by decide +kernel
theorem dX9_sheet_65 : decode cX9_sheet 65 = .ok (.iload_n 1, 1) := by decide +kernel
theorem dX9_sheet_66 : decode cX9_sheet 66 = .ok (.iconst 1, 1) := by decide +kernel
theorem dX9_sheet_67 : decode cX9_sheet 67 = .ok (.if_icmp .ne 9, 3) := by decide +kernel
theorem dX9_sheet_70 : decode cX9_sheet 70 = .ok (.iload 6, 2) := by decide +kernel
theorem dX9_sheet_72 : decode cX9_sheet 72 = .ok (.i2s, 1) := by decide +kernel
theorem dX9_sheet_73 : decode cX9_sheet 73 = .ok (.goto 5, 3) := by decide +kernel
theorem dX9_sheet_76 : decode cX9_sheet 76 = .ok (.iload 6, 2) := by decide +kernel
theorem dX9_sheet_78 : decode cX9_sheet 78 = .ok (.istore 8, 2) := by decide +kernel
theorem dX9_sheet_80 : decode cX9_sheet 80 = .ok (.aload_n 0, 1) := by decide +kernel
theorem dX9_sheet_81 : decode cX9_sheet 81 = .ok (.getfield 27, 3) := by decide +kernel
theorem dX9_sheet_84 : decode cX9_sheet 84 = .ok (.iload 7, 2) := by decide +kernel
theorem dX9_sheet_86 : decode cX9_sheet 86 = .ok (.iload_n 1, 1) := by decide +kernel
theorem dX9_sheet_87 : decode cX9_sheet 87 = .ok (.iconst 3, 1) := by decide +kernel
theorem dX9_sheet_88 : decode cX9_sheet 88 = .ok (.if_icmp .eq 9, 3) := by decide +kernel
theorem dX9_sheet_91 : decode cX9_sheet 91 = .ok (.iload 7, 2) := by decide +kernel
theorem dX9_sheet_93 : decode cX9_sheet 93 = .ok (.iload_n 2, 1) := by decide +kernel
theorem dX9_sheet_94 : decode cX9_sheet 94 = .ok (.if_icmp .lt 7, 3) := by decide +kernel
theorem dX9_sheet_97 : decode cX9_sheet 97 = .ok (.iconst 1, 1) := by decide +kernel
theorem dX9_sheet_98 : decode cX9_sheet 98 = .ok (.goto 14, 3) := by decide +kernel
theorem dX9_sheet_101 : decode cX9_sheet 101 = .ok (.iconst 1, 1) := by decide +kernel
theorem dX9_sheet_102 : decode cX9_sheet 102 = .ok (.bipush 9, 2) := by decide +kernel
theorem dX9_sheet_104 : decode cX9_sheet 104 = .ok (.iload 8, 2) := by decide +kernel
theorem dX9_sheet_106 : decode cX9_sheet 106 = .ok (.invokestatic 150, 3) := by decide +kernel
theorem dX9_sheet_109 : decode cX9_sheet 109 = .ok (.invokestatic 267, 3) := by decide +kernel
theorem dX9_sheet_112 : decode cX9_sheet 112 = .ok (.iastore, 1) := by decide +kernel
theorem dX9_sheet_113 : decode cX9_sheet 113 = .ok (.iload 5, 2) := by decide +kernel
theorem dX9_sheet_115 : decode cX9_sheet 115 = .ok (.aload_n 0, 1) := by decide +kernel
theorem dX9_sheet_116 : decode cX9_sheet 116 = .ok (.getfield 27, 3) := by decide +kernel
theorem dX9_sheet_119 : decode cX9_sheet 119 = .ok (.iload 7, 2) := by decide +kernel
theorem dX9_sheet_121 : decode cX9_sheet 121 = .ok (.iaload, 1) := by decide +kernel
theorem dX9_sheet_122 : decode cX9_sheet 122 = .ok (.iadd, 1) := by decide +kernel
theorem dX9_sheet_123 : decode cX9_sheet 123 = .ok (.istore 5, 2) := by decide +kernel
theorem dX9_sheet_125 : decode cX9_sheet 125 = .ok (.iload 6, 2) := by decide +kernel
theorem dX9_sheet_127 : decode cX9_sheet 127 = .ok (.iload 4, 2) := by decide +kernel
theorem dX9_sheet_129 : decode cX9_sheet 129 = .ok (.iadd, 1) := by decide +kernel
theorem dX9_sheet_130 : decode cX9_sheet 130 = .ok (.istore 6, 2) := by decide +kernel
theorem dX9_sheet_132 : decode cX9_sheet 132 = .ok (.iinc 7 1, 3) := by decide +kernel
theorem dX9_sheet_135 : decode cX9_sheet 135 = .ok (.goto (-89), 3) := by decide +kernel
theorem dX9_sheet_138 : decode cX9_sheet 138 = .ok (.iload_n 1, 1) := by decide +kernel
theorem dX9_sheet_139 : decode cX9_sheet 139 = .ok (.iconst 3, 1) := by decide +kernel
theorem dX9_sheet_140 : decode cX9_sheet 140 = .ok (.if_icmp .ne 8, 3) := by decide +kernel
theorem dX9_sheet_143 : decode cX9_sheet 143 = .ok (.bipush (-3), 2) := by decide +kernel
theorem dX9_sheet_145 : decode cX9_sheet 145 = .ok (.goto 5, 3) := by decide +kernel
theorem dX9_sheet_148 : decode cX9_sheet 148 = .ok (.iload 5, 2) := by decide +kernel
theorem dX9_sheet_150 : decode cX9_sheet 150 = .ok (.ireturn, 1) := by decide +kernel
theorem dX9_putsBy_0 : decode cX9_putsBy 0 = .ok (.iconst 0, 1) := by decide +kernel
theorem dX9_putsBy_1 : decode cX9_putsBy 1 = .ok (.istore_n 1, 1) := by decide +kernel
theorem dX9_putsBy_2 : decode cX9_putsBy 2 = .ok (.iload_n 1, 1) := by decide +kernel
theorem dX9_putsBy_3 : decode cX9_putsBy 3 = .ok (.bipush 37, 2) := by decide +kernel
theorem dX9_putsBy_5 : decode cX9_putsBy 5 = .ok (.if_icmp .ge 29, 3) := by decide +kernel
theorem dX9_putsBy_8 : decode cX9_putsBy 8 = .ok (.aload_n 0, 1) := by decide +kernel
theorem dX9_putsBy_9 : decode cX9_putsBy 9 = .ok (.getfield 58, 3) := by decide +kernel
theorem dX9_putsBy_12 : decode cX9_putsBy 12 = .ok (.bipush 37, 2) := by decide +kernel
theorem dX9_putsBy_14 : decode cX9_putsBy 14 = .ok (.aload_n 0, 1) := by decide +kernel
theorem dX9_putsBy_15 : decode cX9_putsBy 15 = .ok (.getfield 196, 3) := by decide +kernel
theorem dX9_putsBy_18 : decode cX9_putsBy 18 = .ok (.imul, 1) := by decide +kernel
theorem dX9_putsBy_19 : decode cX9_putsBy 19 = .ok (.iload_n 1, 1) := by decide +kernel
theorem dX9_putsBy_20 : decode cX9_putsBy 20 = .ok (.iadd, 1) := by decide +kernel
theorem dX9_putsBy_21 : decode cX9_putsBy 21 = .ok (.aload_n 0, 1) := by decide +kernel
theorem dX9_putsBy_22 : decode cX9_putsBy 22 = .ok (.getfield 34, 3) := by decide +kernel
theorem dX9_putsBy_25 : decode cX9_putsBy 25 = .ok (.iload_n 1, 1) := by decide +kernel
theorem dX9_putsBy_26 : decode cX9_putsBy 26 = .ok (.iaload, 1) := by decide +kernel
theorem dX9_putsBy_27 : decode cX9_putsBy 27 = .ok (.iastore, 1) := by decide +kernel
theorem dX9_putsBy_28 : decode cX9_putsBy 28 = .ok (.iinc 1 1, 3) := by decide +kernel
theorem dX9_putsBy_31 : decode cX9_putsBy 31 = .ok (.goto (-29), 3) := by decide +kernel
theorem dX9_putsBy_34 : decode cX9_putsBy 34 = .ok (.return_, 1) := by decide +kernel
theorem dX9_adds_0 : decode cX9_adds 0 = .ok (.aload_n 0, 1) := by decide +kernel
theorem dX9_adds_1 : decode cX9_adds 1 = .ok (.dup, 1) := by decide +kernel
theorem dX9_adds_2 : decode cX9_adds 2 = .ok (.getfield 196, 3) := by decide +kernel
theorem dX9_adds_5 : decode cX9_adds 5 = .ok (.iconst 1, 1) := by decide +kernel
theorem dX9_adds_6 : decode cX9_adds 6 = .ok (.iadd, 1) := by decide +kernel
theorem dX9_adds_7 : decode cX9_adds 7 = .ok (.putfield 196, 3) := by decide +kernel
theorem dX9_adds_10 : decode cX9_adds 10 = .ok (.aload_n 0, 1) := by decide +kernel
theorem dX9_adds_11 : decode cX9_adds 11 = .ok (.getfield 196, 3) := by decide +kernel
theorem dX9_adds_14 : decode cX9_adds 14 = .ok (.bipush 15, 2) := by decide +kernel
theorem dX9_adds_16 : decode cX9_adds 16 = .ok (.if_icmp .le 43, 3) := by decide +kernel
theorem dX9_adds_19 : decode cX9_adds 19 = .ok (.iconst 0, 1) := by decide +kernel
theorem dX9_adds_20 : decode cX9_adds 20 = .ok (.istore_n 2, 1) := by decide +kernel
theorem dX9_adds_21 : decode cX9_adds 21 = .ok (.iload_n 2, 1) := by decide +kernel
theorem dX9_adds_22 : decode cX9_adds 22 = .ok (.sipush 555, 3) := by decide +kernel
theorem dX9_adds_25 : decode cX9_adds 25 = .ok (.if_icmp .ge 24, 3) := by decide +kernel
theorem dX9_adds_28 : decode cX9_adds 28 = .ok (.aload_n 0, 1) := by decide +kernel
theorem dX9_adds_29 : decode cX9_adds 29 = .ok (.getfield 58, 3) := by decide +kernel
theorem dX9_adds_32 : decode cX9_adds 32 = .ok (.iload_n 2, 1) := by decide +kernel
theorem dX9_adds_33 : decode cX9_adds 33 = .ok (.aload_n 0, 1) := by decide +kernel
theorem dX9_adds_34 : decode cX9_adds 34 = .ok (.getfield 58, 3) := by decide +kernel
theorem dX9_adds_37 : decode cX9_adds 37 = .ok (.iload_n 2, 1) := by decide +kernel
theorem dX9_adds_38 : decode cX9_adds 38 = .ok (.bipush 37, 2) := by decide +kernel
theorem dX9_adds_40 : decode cX9_adds 40 = .ok (.iadd, 1) := by decide +kernel
theorem dX9_adds_41 : decode cX9_adds 41 = .ok (.iaload, 1) := by decide +kernel
theorem dX9_adds_42 : decode cX9_adds 42 = .ok (.iastore, 1) := by decide +kernel
theorem dX9_adds_43 : decode cX9_adds 43 = .ok (.iinc 2 1, 3) := by decide +kernel
theorem dX9_adds_46 : decode cX9_adds 46 = .ok (.goto (-25), 3) := by decide +kernel
theorem dX9_adds_49 : decode cX9_adds 49 = .ok (.aload_n 0, 1) := by decide +kernel
theorem dX9_adds_50 : decode cX9_adds 50 = .ok (.dup, 1) := by decide +kernel
theorem dX9_adds_51 : decode cX9_adds 51 = .ok (.getfield 196, 3) := by decide +kernel
theorem dX9_adds_54 : decode cX9_adds 54 = .ok (.iconst 1, 1) := by decide +kernel
theorem dX9_adds_55 : decode cX9_adds 55 = .ok (.isub, 1) := by decide +kernel
theorem dX9_adds_56 : decode cX9_adds 56 = .ok (.putfield 196, 3) := by decide +kernel
theorem dX9_adds_59 : decode cX9_adds 59 = .ok (.iload_n 1, 1) := by decide +kernel
theorem dX9_adds_60 : decode cX9_adds 60 = .ok (.ireturn, 1) := by decide +kernel
theorem dX9_counted_0 : decode cX9_counted 0 = .ok (.iload_n 1, 1) := by decide +kernel
theorem dX9_counted_1 : decode cX9_counted 1 = .ok (.ifCond .ge 7, 3) := by decide +kernel
theorem dX9_counted_4 : decode cX9_counted 4 = .ok (.iload_n 1, 1) := by decide +kernel
theorem dX9_counted_5 : decode cX9_counted 5 = .ok (.goto 8, 3) := by decide +kernel
theorem dX9_counted_8 : decode cX9_counted 8 = .ok (.aload_n 0, 1) := by decide +kernel
theorem dX9_counted_9 : decode cX9_counted 9 = .ok (.iload_n 1, 1) := by decide +kernel
theorem dX9_counted_10 : decode cX9_counted 10 = .ok (.invokevirtual 216, 3) := by decide +kernel
theorem dX9_counted_13 : decode cX9_counted 13 = .ok (.ireturn, 1) := by decide +kernel
theorem dX9_undo_0 : decode cX9_undo 0 = .ok (.aload_n 0, 1) := by decide +kernel
theorem dX9_undo_1 : decode cX9_undo 1 = .ok (.iconst 0, 1) := by decide +kernel
theorem dX9_undo_2 : decode cX9_undo 2 = .ok (.putfield 3, 3) := by decide +kernel
theorem dX9_undo_5 : decode cX9_undo 5 = .ok (.aload_n 0, 1) := by decide +kernel
theorem dX9_undo_6 : decode cX9_undo 6 = .ok (.getfield 196, 3) := by decide +kernel
theorem dX9_undo_9 : decode cX9_undo 9 = .ok (.ifCond .ne 5, 3) := by decide +kernel
theorem dX9_undo_12 : decode cX9_undo 12 = .ok (.iconst (-1), 1) := by decide +kernel
theorem dX9_undo_13 : decode cX9_undo 13 = .ok (.ireturn, 1) := by decide +kernel
theorem dX9_undo_14 : decode cX9_undo 14 = .ok (.aload_n 0, 1) := by decide +kernel
theorem dX9_undo_15 : decode cX9_undo 15 = .ok (.dup, 1) := by decide +kernel
theorem dX9_undo_16 : decode cX9_undo 16 = .ok (.getfield 196, 3) := by decide +kernel
theorem dX9_undo_19 : decode cX9_undo 19 = .ok (.iconst 1, 1) := by decide +kernel
theorem dX9_undo_20 : decode cX9_undo 20 = .ok (.isub, 1) := by decide +kernel
theorem dX9_undo_21 : decode cX9_undo 21 = .ok (.putfield 196, 3) := by decide +kernel
theorem dX9_undo_24 : decode cX9_undo 24 = .ok (.iconst 0, 1) := by decide +kernel
theorem dX9_undo_25 : decode cX9_undo 25 = .ok (.istore_n 1, 1) := by decide +kernel
theorem dX9_undo_26 : decode cX9_undo 26 = .ok (.iload_n 1, 1) := by decide +kernel
theorem dX9_undo_27 : decode cX9_undo 27 = .ok (.bipush 37, 2) := by decide +kernel
theorem dX9_undo_29 : decode cX9_undo 29 = .ok (.if_icmp .ge 29, 3) := by decide +kernel
theorem dX9_undo_32 : decode cX9_undo 32 = .ok (.aload_n 0, 1) := by decide +kernel
theorem dX9_undo_33 : decode cX9_undo 33 = .ok (.getfield 34, 3) := by decide +kernel
theorem dX9_undo_36 : decode cX9_undo 36 = .ok (.iload_n 1, 1) := by decide +kernel
theorem dX9_undo_37 : decode cX9_undo 37 = .ok (.aload_n 0, 1) := by decide +kernel
theorem dX9_undo_38 : decode cX9_undo 38 = .ok (.getfield 58, 3) := by decide +kernel
theorem dX9_undo_41 : decode cX9_undo 41 = .ok (.bipush 37, 2) := by decide +kernel
theorem dX9_undo_43 : decode cX9_undo 43 = .ok (.aload_n 0, 1) := by decide +kernel
theorem dX9_undo_44 : decode cX9_undo 44 = .ok (.getfield 196, 3) := by decide +kernel
theorem dX9_undo_47 : decode cX9_undo 47 = .ok (.imul, 1) := by decide +kernel
theorem dX9_undo_48 : decode cX9_undo 48 = .ok (.iload_n 1, 1) := by decide +kernel
theorem dX9_undo_49 : decode cX9_undo 49 = .ok (.iadd, 1) := by decide +kernel
theorem dX9_undo_50 : decode cX9_undo 50 = .ok (.iaload, 1) := by decide +kernel
theorem dX9_undo_51 : decode cX9_undo 51 = .ok (.iastore, 1) := by decide +kernel
theorem dX9_undo_52 : decode cX9_undo 52 = .ok (.iinc 1 1, 3) := by decide +kernel
theorem dX9_undo_55 : decode cX9_undo 55 = .ok (.goto (-29), 3) := by decide +kernel
theorem dX9_undo_58 : decode cX9_undo 58 = .ok (.aload_n 0, 1) := by decide +kernel
theorem dX9_undo_59 : decode cX9_undo 59 = .ok (.getfield 196, 3) := by decide +kernel
theorem dX9_undo_62 : decode cX9_undo 62 = .ok (.ireturn, 1) := by decide +kernel
theorem dX9_goes_0 : decode cX9_goes 0 = .ok (.aload_n 0, 1) := by decide +kernel
theorem dX9_goes_1 : decode cX9_goes 1 = .ok (.dup, 1) := by decide +kernel
theorem dX9_goes_2 : decode cX9_goes 2 = .ok (.getfield 297, 3) := by decide +kernel
theorem dX9_goes_5 : decode cX9_goes 5 = .ok (.iconst 1, 1) := by decide +kernel
theorem dX9_goes_6 : decode cX9_goes 6 = .ok (.iadd, 1) := by decide +kernel
theorem dX9_goes_7 : decode cX9_goes 7 = .ok (.putfield 297, 3) := by decide +kernel
theorem dX9_goes_10 : decode cX9_goes 10 = .ok (.aload_n 0, 1) := by decide +kernel
theorem dX9_goes_11 : decode cX9_goes 11 = .ok (.dup, 1) := by decide +kernel
theorem dX9_goes_12 : decode cX9_goes 12 = .ok (.getfield 300, 3) := by decide +kernel
theorem dX9_goes_15 : decode cX9_goes 15 = .ok (.aload_n 1, 1) := by decide +kernel
theorem dX9_goes_16 : decode cX9_goes 16 = .ok (.iload_n 2, 1) := by decide +kernel
theorem dX9_goes_17 : decode cX9_goes 17 = .ok (.iaload, 1) := by decide +kernel
theorem dX9_goes_18 : decode cX9_goes 18 = .ok (.iadd, 1) := by decide +kernel
theorem dX9_goes_19 : decode cX9_goes 19 = .ok (.putfield 300, 3) := by decide +kernel
theorem dX9_goes_22 : decode cX9_goes 22 = .ok (.aload_n 1, 1) := by decide +kernel
theorem dX9_goes_23 : decode cX9_goes 23 = .ok (.bipush 35, 2) := by decide +kernel
theorem dX9_goes_25 : decode cX9_goes 25 = .ok (.sipush 999, 3) := by decide +kernel
theorem dX9_goes_28 : decode cX9_goes 28 = .ok (.aload_n 1, 1) := by decide +kernel
theorem dX9_goes_29 : decode cX9_goes 29 = .ok (.bipush 35, 2) := by decide +kernel
theorem dX9_goes_31 : decode cX9_goes 31 = .ok (.iaload, 1) := by decide +kernel
theorem dX9_goes_32 : decode cX9_goes 32 = .ok (.aload_n 1, 1) := by decide +kernel
theorem dX9_goes_33 : decode cX9_goes 33 = .ok (.iload_n 2, 1) := by decide +kernel
theorem dX9_goes_34 : decode cX9_goes 34 = .ok (.iaload, 1) := by decide +kernel
theorem dX9_goes_35 : decode cX9_goes 35 = .ok (.iadd, 1) := by decide +kernel
theorem dX9_goes_36 : decode cX9_goes 36 = .ok (.invokestatic 150, 3) := by decide +kernel
theorem dX9_goes_39 : decode cX9_goes 39 = .ok (.iastore, 1) := by decide +kernel
theorem dX9_goes_40 : decode cX9_goes 40 = .ok (.aload_n 1, 1) := by decide +kernel
theorem dX9_goes_41 : decode cX9_goes 41 = .ok (.iload_n 2, 1) := by decide +kernel
theorem dX9_goes_42 : decode cX9_goes 42 = .ok (.iconst 0, 1) := by decide +kernel
theorem dX9_goes_43 : decode cX9_goes 43 = .ok (.iastore, 1) := by decide +kernel
theorem dX9_goes_44 : decode cX9_goes 44 = .ok (.aload_n 1, 1) := by decide +kernel
theorem dX9_goes_45 : decode cX9_goes 45 = .ok (.bipush 32, 2) := by decide +kernel
theorem dX9_goes_47 : decode cX9_goes 47 = .ok (.dup2, 1) := by decide +kernel
theorem dX9_goes_48 : decode cX9_goes 48 = .ok (.iaload, 1) := by decide +kernel
theorem dX9_goes_49 : decode cX9_goes 49 = .ok (.iconst 1, 1) := by decide +kernel
theorem dX9_goes_50 : decode cX9_goes 50 = .ok (.iload_n 2, 1) := by decide +kernel
theorem dX9_goes_51 : decode cX9_goes 51 = .ok (.ishl, 1) := by decide +kernel
theorem dX9_goes_52 : decode cX9_goes 52 = .ok (.ior, 1) := by decide +kernel
theorem dX9_goes_53 : decode cX9_goes 53 = .ok (.iastore, 1) := by decide +kernel
theorem dX9_goes_54 : decode cX9_goes 54 = .ok (.iconst 0, 1) := by decide +kernel
theorem dX9_goes_55 : decode cX9_goes 55 = .ok (.istore_n 3, 1) := by decide +kernel
theorem dX9_goes_56 : decode cX9_goes 56 = .ok (.iload_n 3, 1) := by decide +kernel
theorem dX9_goes_57 : decode cX9_goes 57 = .ok (.aload_n 0, 1) := by decide +kernel
theorem dX9_goes_58 : decode cX9_goes 58 = .ok (.getfield 116, 3) := by decide +kernel
theorem dX9_goes_61 : decode cX9_goes 61 = .ok (.if_icmp .ge 23, 3) := by decide +kernel
theorem dX9_goes_64 : decode cX9_goes 64 = .ok (.aload_n 1, 1) := by decide +kernel
theorem dX9_goes_65 : decode cX9_goes 65 = .ok (.bipush 24, 2) := by decide +kernel
theorem dX9_goes_67 : decode cX9_goes 67 = .ok (.iload_n 3, 1) := by decide +kernel
theorem dX9_goes_68 : decode cX9_goes 68 = .ok (.iadd, 1) := by decide +kernel
theorem dX9_goes_69 : decode cX9_goes 69 = .ok (.dup2, 1) := by decide +kernel
theorem dX9_goes_70 : decode cX9_goes 70 = .ok (.iaload, 1) := by decide +kernel
theorem dX9_goes_71 : decode cX9_goes 71 = .ok (.iconst 1, 1) := by decide +kernel
theorem dX9_goes_72 : decode cX9_goes 72 = .ok (.iload_n 2, 1) := by decide +kernel
theorem dX9_goes_73 : decode cX9_goes 73 = .ok (.ishl, 1) := by decide +kernel
theorem dX9_goes_74 : decode cX9_goes 74 = .ok (.iconst (-1), 1) := by decide +kernel
theorem dX9_goes_75 : decode cX9_goes 75 = .ok (.ixor, 1) := by decide +kernel
theorem dX9_goes_76 : decode cX9_goes 76 = .ok (.iand, 1) := by decide +kernel
theorem dX9_goes_77 : decode cX9_goes 77 = .ok (.iastore, 1) := by decide +kernel
theorem dX9_goes_78 : decode cX9_goes 78 = .ok (.iinc 3 1, 3) := by decide +kernel
theorem dX9_goes_81 : decode cX9_goes 81 = .ok (.goto (-25), 3) := by decide +kernel
theorem dX9_goes_84 : decode cX9_goes 84 = .ok (.aload_n 1, 1) := by decide +kernel
theorem dX9_goes_85 : decode cX9_goes 85 = .ok (.bipush 24, 2) := by decide +kernel
theorem dX9_goes_87 : decode cX9_goes 87 = .ok (.iload_n 2, 1) := by decide +kernel
theorem dX9_goes_88 : decode cX9_goes 88 = .ok (.iadd, 1) := by decide +kernel
theorem dX9_goes_89 : decode cX9_goes 89 = .ok (.iconst 0, 1) := by decide +kernel
theorem dX9_goes_90 : decode cX9_goes 90 = .ok (.iastore, 1) := by decide +kernel
theorem dX9_goes_91 : decode cX9_goes 91 = .ok (.return_, 1) := by decide +kernel
theorem dX9_hourGoes_0 : decode cX9_hourGoes 0 = .ok (.aload_n 0, 1) := by decide +kernel
theorem dX9_hourGoes_1 : decode cX9_hourGoes 1 = .ok (.aload_n 1, 1) := by decide +kernel
theorem dX9_hourGoes_2 : decode cX9_hourGoes 2 = .ok (.invokevirtual 303, 3) := by decide +kernel
theorem dX9_hourGoes_5 : decode cX9_hourGoes 5 = .ok (.istore_n 2, 1) := by decide +kernel
theorem dX9_hourGoes_6 : decode cX9_hourGoes 6 = .ok (.aload_n 0, 1) := by decide +kernel
theorem dX9_hourGoes_7 : decode cX9_hourGoes 7 = .ok (.aload_n 1, 1) := by decide +kernel
theorem dX9_hourGoes_8 : decode cX9_hourGoes 8 = .ok (.invokevirtual 307, 3) := by decide +kernel
theorem dX9_hourGoes_11 : decode cX9_hourGoes 11 = .ok (.istore_n 3, 1) := by decide +kernel
theorem dX9_hourGoes_12 : decode cX9_hourGoes 12 = .ok (.iconst 0, 1) := by decide +kernel
theorem dX9_hourGoes_13 : decode cX9_hourGoes 13 = .ok (.istore 4, 2) := by decide +kernel
theorem dX9_hourGoes_15 : decode cX9_hourGoes 15 = .ok (.iload 4, 2) := by decide +kernel
theorem dX9_hourGoes_17 : decode cX9_hourGoes 17 = .ok (.aload_n 0, 1) := by decide +kernel
theorem dX9_hourGoes_18 : decode cX9_hourGoes 18 = .ok (.getfield 116, 3) := by decide +kernel
theorem dX9_hourGoes_21 : decode cX9_hourGoes 21 = .ok (.if_icmp .ge 82, 3) := by decide +kernel
theorem dX9_hourGoes_24 : decode cX9_hourGoes 24 = .ok (.iload_n 2, 1) := by decide +kernel
theorem dX9_hourGoes_25 : decode cX9_hourGoes 25 = .ok (.iload 4, 2) := by decide +kernel
theorem dX9_hourGoes_27 : decode cX9_hourGoes 27 = .ok (.invokestatic 127, 3) := by decide +kernel
theorem dX9_hourGoes_30 : decode cX9_hourGoes 30 = .ok (.ifCond .eq 25, 3) := by decide +kernel
theorem dX9_hourGoes_33 : decode cX9_hourGoes 33 = .ok (.aload_n 1, 1) := by decide +kernel
theorem dX9_hourGoes_34 : decode cX9_hourGoes 34 = .ok (.bipush 8, 2) := by decide +kernel
theorem dX9_hourGoes_36 : decode cX9_hourGoes 36 = .ok (.iload 4, 2) := by decide +kernel
theorem dX9_hourGoes_38 : decode cX9_hourGoes 38 = .ok (.iadd, 1) := by decide +kernel
theorem dX9_hourGoes_39 : decode cX9_hourGoes 39 = .ok (.iaload, 1) := by decide +kernel
theorem dX9_hourGoes_40 : decode cX9_hourGoes 40 = .ok (.bipush 9, 2) := by decide +kernel
theorem dX9_hourGoes_42 : decode cX9_hourGoes 42 = .ok (.if_icmp .ne 13, 3) := by decide +kernel
theorem dX9_hourGoes_45 : decode cX9_hourGoes 45 = .ok (.aload_n 0, 1) := by decide +kernel
theorem dX9_hourGoes_46 : decode cX9_hourGoes 46 = .ok (.aload_n 1, 1) := by decide +kernel
theorem dX9_hourGoes_47 : decode cX9_hourGoes 47 = .ok (.iload 4, 2) := by decide +kernel
theorem dX9_hourGoes_49 : decode cX9_hourGoes 49 = .ok (.invokevirtual 310, 3) := by decide +kernel
theorem dX9_hourGoes_52 : decode cX9_hourGoes 52 = .ok (.goto 45, 3) := by decide +kernel
theorem dX9_hourGoes_55 : decode cX9_hourGoes 55 = .ok (.iload_n 3, 1) := by decide +kernel
theorem dX9_hourGoes_56 : decode cX9_hourGoes 56 = .ok (.iload 4, 2) := by decide +kernel
theorem dX9_hourGoes_58 : decode cX9_hourGoes 58 = .ok (.invokestatic 127, 3) := by decide +kernel
theorem dX9_hourGoes_61 : decode cX9_hourGoes 61 = .ok (.ifCond .eq 36, 3) := by decide +kernel
theorem dX9_hourGoes_64 : decode cX9_hourGoes 64 = .ok (.aload_n 1, 1) := by decide +kernel
theorem dX9_hourGoes_65 : decode cX9_hourGoes 65 = .ok (.bipush 8, 2) := by decide +kernel
theorem dX9_hourGoes_67 : decode cX9_hourGoes 67 = .ok (.iload 4, 2) := by decide +kernel
theorem dX9_hourGoes_69 : decode cX9_hourGoes 69 = .ok (.iadd, 1) := by decide +kernel
theorem dX9_hourGoes_70 : decode cX9_hourGoes 70 = .ok (.iconst 0, 1) := by decide +kernel
theorem dX9_hourGoes_71 : decode cX9_hourGoes 71 = .ok (.aload_n 1, 1) := by decide +kernel
theorem dX9_hourGoes_72 : decode cX9_hourGoes 72 = .ok (.bipush 8, 2) := by decide +kernel
theorem dX9_hourGoes_74 : decode cX9_hourGoes 74 = .ok (.iload 4, 2) := by decide +kernel
theorem dX9_hourGoes_76 : decode cX9_hourGoes 76 = .ok (.iadd, 1) := by decide +kernel
theorem dX9_hourGoes_77 : decode cX9_hourGoes 77 = .ok (.iaload, 1) := by decide +kernel
theorem dX9_hourGoes_78 : decode cX9_hourGoes 78 = .ok (.iload_n 2, 1) := by decide +kernel
theorem dX9_hourGoes_79 : decode cX9_hourGoes 79 = .ok (.iload 4, 2) := by decide +kernel
theorem dX9_hourGoes_81 : decode cX9_hourGoes 81 = .ok (.invokestatic 127, 3) := by decide +kernel
theorem dX9_hourGoes_84 : decode cX9_hourGoes 84 = .ok (.ifCond .eq 7, 3) := by decide +kernel
theorem dX9_hourGoes_87 : decode cX9_hourGoes 87 = .ok (.iconst 1, 1) := by decide +kernel
theorem dX9_hourGoes_88 : decode cX9_hourGoes 88 = .ok (.goto 4, 3) := by decide +kernel
theorem dX9_hourGoes_91 : decode cX9_hourGoes 91 = .ok (.iconst (-1), 1) := by decide +kernel
theorem dX9_hourGoes_92 : decode cX9_hourGoes 92 = .ok (.iadd, 1) := by decide +kernel
theorem dX9_hourGoes_93 : decode cX9_hourGoes 93 = .ok (.invokestatic 267, 3) := by decide +kernel
theorem dX9_hourGoes_96 : decode cX9_hourGoes 96 = .ok (.iastore, 1) := by decide +kernel
theorem dX9_hourGoes_97 : decode cX9_hourGoes 97 = .ok (.iinc 4 1, 3) := by decide +kernel
theorem dX9_hourGoes_100 : decode cX9_hourGoes 100 = .ok (.goto (-85), 3) := by decide +kernel
theorem dX9_hourGoes_103 : decode cX9_hourGoes 103 = .ok (.iconst 0, 1) := by decide +kernel
theorem dX9_hourGoes_104 : decode cX9_hourGoes 104 = .ok (.istore 4, 2) := by decide +kernel
theorem dX9_hourGoes_106 : decode cX9_hourGoes 106 = .ok (.iload 4, 2) := by decide +kernel
theorem dX9_hourGoes_108 : decode cX9_hourGoes 108 = .ok (.aload_n 0, 1) := by decide +kernel
theorem dX9_hourGoes_109 : decode cX9_hourGoes 109 = .ok (.getfield 116, 3) := by decide +kernel
theorem dX9_hourGoes_112 : decode cX9_hourGoes 112 = .ok (.if_icmp .ge 56, 3) := by decide +kernel
theorem dX9_hourGoes_115 : decode cX9_hourGoes 115 = .ok (.aload_n 1, 1) := by decide +kernel
theorem dX9_hourGoes_116 : decode cX9_hourGoes 116 = .ok (.bipush 16, 2) := by decide +kernel
theorem dX9_hourGoes_118 : decode cX9_hourGoes 118 = .ok (.iload 4, 2) := by decide +kernel
theorem dX9_hourGoes_120 : decode cX9_hourGoes 120 = .ok (.iadd, 1) := by decide +kernel
theorem dX9_hourGoes_121 : decode cX9_hourGoes 121 = .ok (.aload_n 1, 1) := by decide +kernel
theorem dX9_hourGoes_122 : decode cX9_hourGoes 122 = .ok (.bipush 32, 2) := by decide +kernel
theorem dX9_hourGoes_124 : decode cX9_hourGoes 124 = .ok (.iaload, 1) := by decide +kernel
theorem dX9_hourGoes_125 : decode cX9_hourGoes 125 = .ok (.iload 4, 2) := by decide +kernel
theorem dX9_hourGoes_127 : decode cX9_hourGoes 127 = .ok (.invokestatic 127, 3) := by decide +kernel
theorem dX9_hourGoes_130 : decode cX9_hourGoes 130 = .ok (.ifCond .eq 13, 3) := by decide +kernel
theorem dX9_hourGoes_133 : decode cX9_hourGoes 133 = .ok (.aload_n 1, 1) := by decide +kernel
theorem dX9_hourGoes_134 : decode cX9_hourGoes 134 = .ok (.bipush 16, 2) := by decide +kernel
theorem dX9_hourGoes_136 : decode cX9_hourGoes 136 = .ok (.iload 4, 2) := by decide +kernel
theorem dX9_hourGoes_138 : decode cX9_hourGoes 138 = .ok (.iadd, 1) := by decide +kernel
theorem dX9_hourGoes_139 : decode cX9_hourGoes 139 = .ok (.iaload, 1) := by decide +kernel
theorem dX9_hourGoes_140 : decode cX9_hourGoes 140 = .ok (.goto 21, 3) := by decide +kernel
theorem dX9_hourGoes_143 : decode cX9_hourGoes 143 = .ok (.sipush 999, 3) := by decide +kernel
theorem dX9_hourGoes_146 : decode cX9_hourGoes 146 = .ok (.aload_n 1, 1) := by decide +kernel
theorem dX9_hourGoes_147 : decode cX9_hourGoes 147 = .ok (.bipush 16, 2) := by decide +kernel
theorem dX9_hourGoes_149 : decode cX9_hourGoes 149 = .ok (.iload 4, 2) := by decide +kernel
theorem dX9_hourGoes_151 : decode cX9_hourGoes 151 = .ok (.iadd, 1) := by decide +kernel
theorem dX9_hourGoes_152 : decode cX9_hourGoes 152 = .ok (.iaload, 1) := by decide +kernel
theorem dX9_hourGoes_153 : decode cX9_hourGoes 153 = .ok (.aload_n 1, 1) := by decide +kernel
theorem dX9_hourGoes_154 : decode cX9_hourGoes 154 = .ok (.iload 4, 2) := by decide +kernel
theorem dX9_hourGoes_156 : decode cX9_hourGoes 156 = .ok (.iaload, 1) := by decide +kernel
theorem dX9_hourGoes_157 : decode cX9_hourGoes 157 = .ok (.iadd, 1) := by decide +kernel
theorem dX9_hourGoes_158 : decode cX9_hourGoes 158 = .ok (.invokestatic 150, 3) := by decide +kernel
theorem dX9_hourGoes_161 : decode cX9_hourGoes 161 = .ok (.iastore, 1) := by decide +kernel
theorem dX9_hourGoes_162 : decode cX9_hourGoes 162 = .ok (.iinc 4 1, 3) := by decide +kernel
theorem dX9_hourGoes_165 : decode cX9_hourGoes 165 = .ok (.goto (-59), 3) := by decide +kernel
theorem dX9_hourGoes_168 : decode cX9_hourGoes 168 = .ok (.aload_n 1, 1) := by decide +kernel
theorem dX9_hourGoes_169 : decode cX9_hourGoes 169 = .ok (.bipush 36, 2) := by decide +kernel
theorem dX9_hourGoes_171 : decode cX9_hourGoes 171 = .ok (.dup2, 1) := by decide +kernel
theorem dX9_hourGoes_172 : decode cX9_hourGoes 172 = .ok (.iaload, 1) := by decide +kernel
theorem dX9_hourGoes_173 : decode cX9_hourGoes 173 = .ok (.iconst 1, 1) := by decide +kernel
