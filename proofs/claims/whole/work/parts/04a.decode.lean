theorem dX0_init_0 : decode cX0_init 0 = .ok (.aload_n 0, 1) := by decide +kernel
theorem dX0_init_1 : decode cX0_init 1 = .ok (.invokespecial 3, 3) := by decide +kernel
theorem dX0_init_4 : decode cX0_init 4 = .ok (.aload_n 0, 1) := by decide +kernel
theorem dX0_init_5 : decode cX0_init 5 = .ok (.bipush 8, 2) := by decide +kernel
theorem dX0_init_7 : decode cX0_init 7 = .ok (.newarray .int, 2) := by decide +kernel
theorem dX0_init_9 : decode cX0_init 9 = .ok (.putfield 9, 3) := by decide +kernel
theorem dX0_init_12 : decode cX0_init 12 = .ok (.aload_n 0, 1) := by decide +kernel
theorem dX0_init_13 : decode cX0_init 13 = .ok (.new 15, 3) := by decide +kernel
theorem dX0_init_16 : decode cX0_init 16 = .ok (.dup, 1) := by decide +kernel
theorem dX0_init_17 : decode cX0_init 17 = .ok (.invokespecial 17, 3) := by decide +kernel
theorem dX0_init_20 : decode cX0_init 20 = .ok (.putfield 18, 3) := by decide +kernel
theorem dX0_init_23 : decode cX0_init 23 = .ok (.aload_n 0, 1) := by decide +kernel
theorem dX0_init_24 : decode cX0_init 24 = .ok (.new 15, 3) := by decide +kernel
theorem dX0_init_27 : decode cX0_init 27 = .ok (.dup, 1) := by decide +kernel
theorem dX0_init_28 : decode cX0_init 28 = .ok (.invokespecial 17, 3) := by decide +kernel
theorem dX0_init_31 : decode cX0_init 31 = .ok (.putfield 22, 3) := by decide +kernel
theorem dX0_init_34 : decode cX0_init 34 = .ok (.aload_n 0, 1) := by decide +kernel
theorem dX0_init_35 : decode cX0_init 35 = .ok (.bipush 8, 2) := by decide +kernel
theorem dX0_init_37 : decode cX0_init 37 = .ok (.newarray .int, 2) := by decide +kernel
theorem dX0_init_39 : decode cX0_init 39 = .ok (.putfield 25, 3) := by decide +kernel
theorem dX0_init_42 : decode cX0_init 42 = .ok (.aload_n 0, 1) := by decide +kernel
theorem dX0_init_43 : decode cX0_init 43 = .ok (.bipush 8, 2) := by decide +kernel
theorem dX0_init_45 : decode cX0_init 45 = .ok (.newarray .int, 2) := by decide +kernel
theorem dX0_init_47 : decode cX0_init 47 = .ok (.putfield 28, 3) := by decide +kernel
theorem dX0_init_50 : decode cX0_init 50 = .ok (.aload_n 0, 1) := by decide +kernel
theorem dX0_init_51 : decode cX0_init 51 = .ok (.bipush 20, 2) := by decide +kernel
theorem dX0_init_53 : decode cX0_init 53 = .ok (.newarray .int, 2) := by decide +kernel
theorem dX0_init_55 : decode cX0_init 55 = .ok (.putfield 31, 3) := by decide +kernel
theorem dX0_init_58 : decode cX0_init 58 = .ok (.aload_n 0, 1) := by decide +kernel
theorem dX0_init_59 : decode cX0_init 59 = .ok (.iconst 1, 1) := by decide +kernel
theorem dX0_init_60 : decode cX0_init 60 = .ok (.putfield 34, 3) := by decide +kernel
theorem dX0_init_63 : decode cX0_init 63 = .ok (.aload_n 0, 1) := by decide +kernel
theorem dX0_init_64 : decode cX0_init 64 = .ok (.bipush 8, 2) := by decide +kernel
theorem dX0_init_66 : decode cX0_init 66 = .ok (.newarray .int, 2) := by decide +kernel
theorem dX0_init_68 : decode cX0_init 68 = .ok (.putfield 38, 3) := by decide +kernel
theorem dX0_init_71 : decode cX0_init 71 = .ok (.return_, 1) := by decide +kernel
theorem dX0_isThing_0 : decode cX0_isThing 0 = .ok (.iload_n 1, 1) := by decide +kernel
theorem dX0_isThing_1 : decode cX0_isThing 1 = .ok (.ifCond .lt 21, 3) := by decide +kernel
theorem dX0_isThing_4 : decode cX0_isThing 4 = .ok (.iload_n 1, 1) := by decide +kernel
theorem dX0_isThing_5 : decode cX0_isThing 5 = .ok (.aload_n 0, 1) := by decide +kernel
theorem dX0_isThing_6 : decode cX0_isThing 6 = .ok (.getfield 41, 3) := by decide +kernel
theorem dX0_isThing_9 : decode cX0_isThing 9 = .ok (.if_icmp .ge 13, 3) := by decide +kernel
theorem dX0_isThing_12 : decode cX0_isThing 12 = .ok (.iload_n 1, 1) := by decide +kernel
theorem dX0_isThing_13 : decode cX0_isThing 13 = .ok (.bipush 8, 2) := by decide +kernel
theorem dX0_isThing_15 : decode cX0_isThing 15 = .ok (.if_icmp .ge 7, 3) := by decide +kernel
theorem dX0_isThing_18 : decode cX0_isThing 18 = .ok (.iconst 1, 1) := by decide +kernel
theorem dX0_isThing_19 : decode cX0_isThing 19 = .ok (.goto 4, 3) := by decide +kernel
theorem dX0_isThing_22 : decode cX0_isThing 22 = .ok (.iconst 0, 1) := by decide +kernel
theorem dX0_isThing_23 : decode cX0_isThing 23 = .ok (.ireturn, 1) := by decide +kernel
theorem dX0_everything_0 : decode cX0_everything 0 = .ok (.iconst 1, 1) := by decide +kernel
theorem dX0_everything_1 : decode cX0_everything 1 = .ok (.aload_n 0, 1) := by decide +kernel
theorem dX0_everything_2 : decode cX0_everything 2 = .ok (.getfield 41, 3) := by decide +kernel
theorem dX0_everything_5 : decode cX0_everything 5 = .ok (.ishl, 1) := by decide +kernel
theorem dX0_everything_6 : decode cX0_everything 6 = .ok (.iconst 1, 1) := by decide +kernel
theorem dX0_everything_7 : decode cX0_everything 7 = .ok (.isub, 1) := by decide +kernel
theorem dX0_everything_8 : decode cX0_everything 8 = .ok (.ireturn, 1) := by decide +kernel
theorem dX0_present_0 : decode cX0_present 0 = .ok (.aload_n 0, 1) := by decide +kernel
theorem dX0_present_1 : decode cX0_present 1 = .ok (.invokevirtual 44, 3) := by decide +kernel
theorem dX0_present_4 : decode cX0_present 4 = .ok (.aload_n 1, 1) := by decide +kernel
theorem dX0_present_5 : decode cX0_present 5 = .ok (.getfield 48, 3) := by decide +kernel
theorem dX0_present_8 : decode cX0_present 8 = .ok (.iconst (-1), 1) := by decide +kernel
theorem dX0_present_9 : decode cX0_present 9 = .ok (.ixor, 1) := by decide +kernel
theorem dX0_present_10 : decode cX0_present 10 = .ok (.iand, 1) := by decide +kernel
theorem dX0_present_11 : decode cX0_present 11 = .ok (.ireturn, 1) := by decide +kernel
theorem dX0_addThing_0 : decode cX0_addThing 0 = .ok (.aload_n 0, 1) := by decide +kernel
theorem dX0_addThing_1 : decode cX0_addThing 1 = .ok (.getfield 41, 3) := by decide +kernel
theorem dX0_addThing_4 : decode cX0_addThing 4 = .ok (.bipush 8, 2) := by decide +kernel
theorem dX0_addThing_6 : decode cX0_addThing 6 = .ok (.if_icmp .ge 23, 3) := by decide +kernel
theorem dX0_addThing_9 : decode cX0_addThing 9 = .ok (.aload_n 0, 1) := by decide +kernel
theorem dX0_addThing_10 : decode cX0_addThing 10 = .ok (.getfield 9, 3) := by decide +kernel
theorem dX0_addThing_13 : decode cX0_addThing 13 = .ok (.aload_n 0, 1) := by decide +kernel
theorem dX0_addThing_14 : decode cX0_addThing 14 = .ok (.getfield 41, 3) := by decide +kernel
theorem dX0_addThing_17 : decode cX0_addThing 17 = .ok (.iload_n 1, 1) := by decide +kernel
theorem dX0_addThing_18 : decode cX0_addThing 18 = .ok (.iastore, 1) := by decide +kernel
theorem dX0_addThing_19 : decode cX0_addThing 19 = .ok (.aload_n 0, 1) := by decide +kernel
theorem dX0_addThing_20 : decode cX0_addThing 20 = .ok (.dup, 1) := by decide +kernel
theorem dX0_addThing_21 : decode cX0_addThing 21 = .ok (.getfield 41, 3) := by decide +kernel
theorem dX0_addThing_24 : decode cX0_addThing 24 = .ok (.iconst 1, 1) := by decide +kernel
theorem dX0_addThing_25 : decode cX0_addThing 25 = .ok (.iadd, 1) := by decide +kernel
theorem dX0_addThing_26 : decode cX0_addThing 26 = .ok (.putfield 41, 3) := by decide +kernel
theorem dX0_addThing_29 : decode cX0_addThing 29 = .ok (.return_, 1) := by decide +kernel
theorem dX0_setSizes_0 : decode cX0_setSizes 0 = .ok (.iconst 0, 1) := by decide +kernel
theorem dX0_setSizes_1 : decode cX0_setSizes 1 = .ok (.istore 5, 2) := by decide +kernel
theorem dX0_setSizes_3 : decode cX0_setSizes 3 = .ok (.iconst 0, 1) := by decide +kernel
theorem dX0_setSizes_4 : decode cX0_setSizes 4 = .ok (.istore 6, 2) := by decide +kernel
theorem dX0_setSizes_6 : decode cX0_setSizes 6 = .ok (.iload 6, 2) := by decide +kernel
theorem dX0_setSizes_8 : decode cX0_setSizes 8 = .ok (.aload_n 0, 1) := by decide +kernel
theorem dX0_setSizes_9 : decode cX0_setSizes 9 = .ok (.getfield 41, 3) := by decide +kernel
theorem dX0_setSizes_12 : decode cX0_setSizes 12 = .ok (.if_icmp .ge 79, 3) := by decide +kernel
theorem dX0_setSizes_15 : decode cX0_setSizes 15 = .ok (.iconst 1, 1) := by decide +kernel
theorem dX0_setSizes_16 : decode cX0_setSizes 16 = .ok (.istore 7, 2) := by decide +kernel
theorem dX0_setSizes_18 : decode cX0_setSizes 18 = .ok (.iload 6, 2) := by decide +kernel
theorem dX0_setSizes_20 : decode cX0_setSizes 20 = .ok (.iload_n 2, 1) := by decide +kernel
theorem dX0_setSizes_21 : decode cX0_setSizes 21 = .ok (.if_icmp .ge 34, 3) := by decide +kernel
theorem dX0_setSizes_24 : decode cX0_setSizes 24 = .ok (.iload_n 3, 1) := by decide +kernel
theorem dX0_setSizes_25 : decode cX0_setSizes 25 = .ok (.iload 6, 2) := by decide +kernel
theorem dX0_setSizes_27 : decode cX0_setSizes 27 = .ok (.iload 4, 2) := by decide +kernel
theorem dX0_setSizes_29 : decode cX0_setSizes 29 = .ok (.imul, 1) := by decide +kernel
theorem dX0_setSizes_30 : decode cX0_setSizes 30 = .ok (.iadd, 1) := by decide +kernel
theorem dX0_setSizes_31 : decode cX0_setSizes 31 = .ok (.istore 7, 2) := by decide +kernel
theorem dX0_setSizes_33 : decode cX0_setSizes 33 = .ok (.iload_n 1, 1) := by decide +kernel
theorem dX0_setSizes_34 : decode cX0_setSizes 34 = .ok (.ifCond .ne 11, 3) := by decide +kernel
theorem dX0_setSizes_37 : decode cX0_setSizes 37 = .ok (.iload 7, 2) := by decide +kernel
theorem dX0_setSizes_39 : decode cX0_setSizes 39 = .ok (.i2b, 1) := by decide +kernel
theorem dX0_setSizes_40 : decode cX0_setSizes 40 = .ok (.istore 7, 2) := by decide +kernel
theorem dX0_setSizes_42 : decode cX0_setSizes 42 = .ok (.goto 13, 3) := by decide +kernel
theorem dX0_setSizes_45 : decode cX0_setSizes 45 = .ok (.iload_n 1, 1) := by decide +kernel
theorem dX0_setSizes_46 : decode cX0_setSizes 46 = .ok (.iconst 1, 1) := by decide +kernel
theorem dX0_setSizes_47 : decode cX0_setSizes 47 = .ok (.if_icmp .ne 8, 3) := by decide +kernel
theorem dX0_setSizes_50 : decode cX0_setSizes 50 = .ok (.iload 7, 2) := by decide +kernel
theorem dX0_setSizes_52 : decode cX0_setSizes 52 = .ok (.i2s, 1) := by decide +kernel
theorem dX0_setSizes_53 : decode cX0_setSizes 53 = .ok (.istore 7, 2) := by decide +kernel
theorem dX0_setSizes_55 : decode cX0_setSizes 55 = .ok (.aload_n 0, 1) := by decide +kernel
theorem dX0_setSizes_56 : decode cX0_setSizes 56 = .ok (.getfield 9, 3) := by decide +kernel
theorem dX0_setSizes_59 : decode cX0_setSizes 59 = .ok (.iload 6, 2) := by decide +kernel
theorem dX0_setSizes_61 : decode cX0_setSizes 61 = .ok (.iconst 1, 1) := by decide +kernel
theorem dX0_setSizes_62 : decode cX0_setSizes 62 = .ok (.bipush 9, 2) := by decide +kernel
theorem dX0_setSizes_64 : decode cX0_setSizes 64 = .ok (.iload 7, 2) := by decide +kernel
theorem dX0_setSizes_66 : decode cX0_setSizes 66 = .ok (.invokestatic 53, 3) := by decide +kernel
theorem dX0_setSizes_69 : decode cX0_setSizes 69 = .ok (.invokestatic 59, 3) := by decide +kernel
theorem dX0_setSizes_72 : decode cX0_setSizes 72 = .ok (.iastore, 1) := by decide +kernel
theorem dX0_setSizes_73 : decode cX0_setSizes 73 = .ok (.iload 5, 2) := by decide +kernel
theorem dX0_setSizes_75 : decode cX0_setSizes 75 = .ok (.aload_n 0, 1) := by decide +kernel
theorem dX0_setSizes_76 : decode cX0_setSizes 76 = .ok (.getfield 9, 3) := by decide +kernel
theorem dX0_setSizes_79 : decode cX0_setSizes 79 = .ok (.iload 6, 2) := by decide +kernel
theorem dX0_setSizes_81 : decode cX0_setSizes 81 = .ok (.iaload, 1) := by decide +kernel
theorem dX0_setSizes_82 : decode cX0_setSizes 82 = .ok (.iadd, 1) := by decide +kernel
theorem dX0_setSizes_83 : decode cX0_setSizes 83 = .ok (.istore 5, 2) := by decide +kernel
theorem dX0_setSizes_85 : decode cX0_setSizes 85 = .ok (.iinc 6 1, 3) := by decide +kernel
theorem dX0_setSizes_88 : decode cX0_setSizes 88 = .ok (.goto (-82), 3) := by decide +kernel
theorem dX0_setSizes_91 : decode cX0_setSizes 91 = .ok (.iload 5, 2) := by decide +kernel
theorem dX0_setSizes_93 : decode cX0_setSizes 93 = .ok (.ireturn, 1) := by decide +kernel
theorem dX0_setWinds_0 : decode cX0_setWinds 0 = .ok (.aload_n 0, 1) := by decide +kernel
theorem dX0_setWinds_1 : decode cX0_setWinds 1 = .ok (.iconst 1, 1) := by decide +kernel
theorem dX0_setWinds_2 : decode cX0_setWinds 2 = .ok (.aload_n 1, 1) := by decide +kernel
theorem dX0_setWinds_3 : decode cX0_setWinds 3 = .ok (.getfield 62, 3) := by decide +kernel
theorem dX0_setWinds_6 : decode cX0_setWinds 6 = .ok (.bipush 20, 2) := by decide +kernel
theorem dX0_setWinds_8 : decode cX0_setWinds 8 = .ok (.invokestatic 53, 3) := by decide +kernel
theorem dX0_setWinds_11 : decode cX0_setWinds 11 = .ok (.invokestatic 59, 3) := by decide +kernel
theorem dX0_setWinds_14 : decode cX0_setWinds 14 = .ok (.putfield 34, 3) := by decide +kernel
theorem dX0_setWinds_17 : decode cX0_setWinds 17 = .ok (.iconst 0, 1) := by decide +kernel
theorem dX0_setWinds_18 : decode cX0_setWinds 18 = .ok (.istore_n 2, 1) := by decide +kernel
theorem dX0_setWinds_19 : decode cX0_setWinds 19 = .ok (.iload_n 2, 1) := by decide +kernel
theorem dX0_setWinds_20 : decode cX0_setWinds 20 = .ok (.aload_n 0, 1) := by decide +kernel
theorem dX0_setWinds_21 : decode cX0_setWinds 21 = .ok (.getfield 34, 3) := by decide +kernel
theorem dX0_setWinds_24 : decode cX0_setWinds 24 = .ok (.if_icmp .ge 24, 3) := by decide +kernel
theorem dX0_setWinds_27 : decode cX0_setWinds 27 = .ok (.aload_n 0, 1) := by decide +kernel
theorem dX0_setWinds_28 : decode cX0_setWinds 28 = .ok (.getfield 31, 3) := by decide +kernel
theorem dX0_setWinds_31 : decode cX0_setWinds 31 = .ok (.iload_n 2, 1) := by decide +kernel
theorem dX0_setWinds_32 : decode cX0_setWinds 32 = .ok (.iconst 0, 1) := by decide +kernel
theorem dX0_setWinds_33 : decode cX0_setWinds 33 = .ok (.aload_n 1, 1) := by decide +kernel
theorem dX0_setWinds_34 : decode cX0_setWinds 34 = .ok (.iload_n 2, 1) := by decide +kernel
theorem dX0_setWinds_35 : decode cX0_setWinds 35 = .ok (.invokevirtual 67, 3) := by decide +kernel
theorem dX0_setWinds_38 : decode cX0_setWinds 38 = .ok (.invokestatic 59, 3) := by decide +kernel
theorem dX0_setWinds_41 : decode cX0_setWinds 41 = .ok (.iastore, 1) := by decide +kernel
theorem dX0_setWinds_42 : decode cX0_setWinds 42 = .ok (.iinc 2 1, 3) := by decide +kernel
theorem dX0_setWinds_45 : decode cX0_setWinds 45 = .ok (.goto (-26), 3) := by decide +kernel
theorem dX0_setWinds_48 : decode cX0_setWinds 48 = .ok (.return_, 1) := by decide +kernel
theorem dX0_windAt_0 : decode cX0_windAt 0 = .ok (.aload_n 0, 1) := by decide +kernel
theorem dX0_windAt_1 : decode cX0_windAt 1 = .ok (.getfield 34, 3) := by decide +kernel
theorem dX0_windAt_4 : decode cX0_windAt 4 = .ok (.iconst 1, 1) := by decide +kernel
theorem dX0_windAt_5 : decode cX0_windAt 5 = .ok (.if_icmp .lt 12, 3) := by decide +kernel
theorem dX0_windAt_8 : decode cX0_windAt 8 = .ok (.aload_n 0, 1) := by decide +kernel
theorem dX0_windAt_9 : decode cX0_windAt 9 = .ok (.getfield 34, 3) := by decide +kernel
theorem dX0_windAt_12 : decode cX0_windAt 12 = .ok (.bipush 20, 2) := by decide +kernel
theorem dX0_windAt_14 : decode cX0_windAt 14 = .ok (.if_icmp .le 5, 3) := by decide +kernel
theorem dX0_windAt_17 : decode cX0_windAt 17 = .ok (.iconst 0, 1) := by decide +kernel
theorem dX0_windAt_18 : decode cX0_windAt 18 = .ok (.ireturn, 1) := by decide +kernel
theorem dX0_windAt_19 : decode cX0_windAt 19 = .ok (.aload_n 0, 1) := by decide +kernel
theorem dX0_windAt_20 : decode cX0_windAt 20 = .ok (.getfield 31, 3) := by decide +kernel
theorem dX0_windAt_23 : decode cX0_windAt 23 = .ok (.iload_n 1, 1) := by decide +kernel
theorem dX0_windAt_24 : decode cX0_windAt 24 = .ok (.aload_n 0, 1) := by decide +kernel
theorem dX0_windAt_25 : decode cX0_windAt 25 = .ok (.getfield 34, 3) := by decide +kernel
theorem dX0_windAt_28 : decode cX0_windAt 28 = .ok (.invokestatic 71, 3) := by decide +kernel
theorem dX0_windAt_31 : decode cX0_windAt 31 = .ok (.iaload, 1) := by decide +kernel
theorem dX0_windAt_32 : decode cX0_windAt 32 = .ok (.ireturn, 1) := by decide +kernel
theorem dX0_adoptDraft_0 : decode cX0_adoptDraft 0 = .ok (.aload_n 0, 1) := by decide +kernel
theorem dX0_adoptDraft_1 : decode cX0_adoptDraft 1 = .ok (.getfield 18, 3) := by decide +kernel
theorem dX0_adoptDraft_4 : decode cX0_adoptDraft 4 = .ok (.astore_n 1, 1) := by decide +kernel
theorem dX0_adoptDraft_5 : decode cX0_adoptDraft 5 = .ok (.aload_n 0, 1) := by decide +kernel
theorem dX0_adoptDraft_6 : decode cX0_adoptDraft 6 = .ok (.aload_n 0, 1) := by decide +kernel
theorem dX0_adoptDraft_7 : decode cX0_adoptDraft 7 = .ok (.getfield 22, 3) := by decide +kernel
theorem dX0_adoptDraft_10 : decode cX0_adoptDraft 10 = .ok (.putfield 18, 3) := by decide +kernel
theorem dX0_adoptDraft_13 : decode cX0_adoptDraft 13 = .ok (.aload_n 0, 1) := by decide +kernel
theorem dX0_adoptDraft_14 : decode cX0_adoptDraft 14 = .ok (.aload_n 1, 1) := by decide +kernel
theorem dX0_adoptDraft_15 : decode cX0_adoptDraft 15 = .ok (.putfield 22, 3) := by decide +kernel
theorem dX0_adoptDraft_18 : decode cX0_adoptDraft 18 = .ok (.return_, 1) := by decide +kernel
theorem dX0_weigh_0 : decode cX0_weigh 0 = .ok (.aload_n 0, 1) := by decide +kernel
theorem dX0_weigh_1 : decode cX0_weigh 1 = .ok (.getfield 38, 3) := by decide +kernel
theorem dX0_weigh_4 : decode cX0_weigh 4 = .ok (.iconst 1, 1) := by decide +kernel
theorem dX0_weigh_5 : decode cX0_weigh 5 = .ok (.aload_n 0, 1) := by decide +kernel
theorem dX0_weigh_6 : decode cX0_weigh 6 = .ok (.aload_n 1, 1) := by decide +kernel
theorem dX0_weigh_7 : decode cX0_weigh 7 = .ok (.getfield 74, 3) := by decide +kernel
theorem dX0_weigh_10 : decode cX0_weigh 10 = .ok (.invokevirtual 77, 3) := by decide +kernel
theorem dX0_weigh_13 : decode cX0_weigh 13 = .ok (.iastore, 1) := by decide +kernel
theorem dX0_weigh_14 : decode cX0_weigh 14 = .ok (.aload_n 0, 1) := by decide +kernel
theorem dX0_weigh_15 : decode cX0_weigh 15 = .ok (.getfield 38, 3) := by decide +kernel
theorem dX0_weigh_18 : decode cX0_weigh 18 = .ok (.bipush 7, 2) := by decide +kernel
theorem dX0_weigh_20 : decode cX0_weigh 20 = .ok (.aload_n 1, 1) := by decide +kernel
theorem dX0_weigh_21 : decode cX0_weigh 21 = .ok (.getfield 74, 3) := by decide +kernel
theorem dX0_weigh_24 : decode cX0_weigh 24 = .ok (.bipush 7, 2) := by decide +kernel
theorem dX0_weigh_26 : decode cX0_weigh 26 = .ok (.invokestatic 71, 3) := by decide +kernel
theorem dX0_weigh_29 : decode cX0_weigh 29 = .ok (.iastore, 1) := by decide +kernel
theorem dX0_weigh_30 : decode cX0_weigh 30 = .ok (.iconst 0, 1) := by decide +kernel
theorem dX0_weigh_31 : decode cX0_weigh 31 = .ok (.istore_n 3, 1) := by decide +kernel
theorem dX0_weigh_32 : decode cX0_weigh 32 = .ok (.iload_n 3, 1) := by decide +kernel
theorem dX0_weigh_33 : decode cX0_weigh 33 = .ok (.aload_n 0, 1) := by decide +kernel
theorem dX0_weigh_34 : decode cX0_weigh 34 = .ok (.getfield 41, 3) := by decide +kernel
theorem dX0_weigh_37 : decode cX0_weigh 37 = .ok (.if_icmp .ge 121, 3) := by decide +kernel
theorem dX0_weigh_40 : decode cX0_weigh 40 = .ok (.aload_n 1, 1) := by decide +kernel
theorem dX0_weigh_41 : decode cX0_weigh 41 = .ok (.iload_n 3, 1) := by decide +kernel
theorem dX0_weigh_42 : decode cX0_weigh 42 = .ok (.invokevirtual 80, 3) := by decide +kernel
theorem dX0_weigh_45 : decode cX0_weigh 45 = .ok (.ifCond .eq 13, 3) := by decide +kernel
theorem dX0_weigh_48 : decode cX0_weigh 48 = .ok (.aload_n 0, 1) := by decide +kernel
theorem dX0_weigh_49 : decode cX0_weigh 49 = .ok (.getfield 25, 3) := by decide +kernel
theorem dX0_weigh_52 : decode cX0_weigh 52 = .ok (.iload_n 3, 1) := by decide +kernel
theorem dX0_weigh_53 : decode cX0_weigh 53 = .ok (.iconst 0, 1) := by decide +kernel
theorem dX0_weigh_54 : decode cX0_weigh 54 = .ok (.iastore, 1) := by decide +kernel
theorem dX0_weigh_55 : decode cX0_weigh 55 = .ok (.goto 97, 3) := by decide +kernel
theorem dX0_weigh_58 : decode cX0_weigh 58 = .ok (.aload_n 0, 1) := by decide +kernel
theorem dX0_weigh_59 : decode cX0_weigh 59 = .ok (.getfield 38, 3) := by decide +kernel
theorem dX0_weigh_62 : decode cX0_weigh 62 = .ok (.iconst 0, 1) := by decide +kernel
theorem dX0_weigh_63 : decode cX0_weigh 63 = .ok (.aload_n 0, 1) := by decide +kernel
theorem dX0_weigh_64 : decode cX0_weigh 64 = .ok (.getfield 9, 3) := by decide +kernel
theorem dX0_weigh_67 : decode cX0_weigh 67 = .ok (.iload_n 3, 1) := by decide +kernel
theorem dX0_weigh_68 : decode cX0_weigh 68 = .ok (.iaload, 1) := by decide +kernel
theorem dX0_weigh_69 : decode cX0_weigh 69 = .ok (.iastore, 1) := by decide +kernel
theorem dX0_weigh_70 : decode cX0_weigh 70 = .ok (.aload_n 0, 1) := by decide +kernel
theorem dX0_weigh_71 : decode cX0_weigh 71 = .ok (.getfield 38, 3) := by decide +kernel
theorem dX0_weigh_74 : decode cX0_weigh 74 = .ok (.iconst 2, 1) := by decide +kernel
theorem dX0_weigh_75 : decode cX0_weigh 75 = .ok (.aload_n 1, 1) := by decide +kernel
theorem dX0_weigh_76 : decode cX0_weigh 76 = .ok (.getfield 84, 3) := by decide +kernel
theorem dX0_weigh_79 : decode cX0_weigh 79 = .ok (.iload_n 3, 1) := by decide +kernel
theorem dX0_weigh_80 : decode cX0_weigh 80 = .ok (.iaload, 1) := by decide +kernel
theorem dX0_weigh_81 : decode cX0_weigh 81 = .ok (.invokestatic 87, 3) := by decide +kernel
theorem dX0_weigh_84 : decode cX0_weigh 84 = .ok (.iastore, 1) := by decide +kernel
theorem dX0_weigh_85 : decode cX0_weigh 85 = .ok (.aload_n 0, 1) := by decide +kernel
theorem dX0_weigh_86 : decode cX0_weigh 86 = .ok (.getfield 38, 3) := by decide +kernel
theorem dX0_weigh_89 : decode cX0_weigh 89 = .ok (.iconst 3, 1) := by decide +kernel
theorem dX0_weigh_90 : decode cX0_weigh 90 = .ok (.aload_n 1, 1) := by decide +kernel
theorem dX0_weigh_91 : decode cX0_weigh 91 = .ok (.getfield 92, 3) := by decide +kernel
theorem dX0_weigh_94 : decode cX0_weigh 94 = .ok (.iload_n 3, 1) := by decide +kernel
theorem dX0_weigh_95 : decode cX0_weigh 95 = .ok (.iaload, 1) := by decide +kernel
theorem dX0_weigh_96 : decode cX0_weigh 96 = .ok (.iastore, 1) := by decide +kernel
theorem dX0_weigh_97 : decode cX0_weigh 97 = .ok (.aload_n 0, 1) := by decide +kernel
theorem dX0_weigh_98 : decode cX0_weigh 98 = .ok (.getfield 38, 3) := by decide +kernel
theorem dX0_weigh_101 : decode cX0_weigh 101 = .ok (.iconst 4, 1) := by decide +kernel
theorem dX0_weigh_102 : decode cX0_weigh 102 = .ok (.aload_n 1, 1) := by decide +kernel
theorem dX0_weigh_103 : decode cX0_weigh 103 = .ok (.getfield 95, 3) := by decide +kernel
theorem dX0_weigh_106 : decode cX0_weigh 106 = .ok (.iload_n 3, 1) := by decide +kernel
theorem dX0_weigh_107 : decode cX0_weigh 107 = .ok (.iaload, 1) := by decide +kernel
theorem dX0_weigh_108 : decode cX0_weigh 108 = .ok (.iastore, 1) := by decide +kernel
theorem dX0_weigh_109 : decode cX0_weigh 109 = .ok (.aload_n 0, 1) := by decide +kernel
theorem dX0_weigh_110 : decode cX0_weigh 110 = .ok (.getfield 38, 3) := by decide +kernel
theorem dX0_weigh_113 : decode cX0_weigh 113 = .ok (.iconst 5, 1) := by decide +kernel
theorem dX0_weigh_114 : decode cX0_weigh 114 = .ok (.aload_n 1, 1) := by decide +kernel
theorem dX0_weigh_115 : decode cX0_weigh 115 = .ok (.getfield 98, 3) := by decide +kernel
theorem dX0_weigh_118 : decode cX0_weigh 118 = .ok (.iload_n 3, 1) := by decide +kernel
theorem dX0_weigh_119 : decode cX0_weigh 119 = .ok (.iaload, 1) := by decide +kernel
theorem dX0_weigh_120 : decode cX0_weigh 120 = .ok (.iastore, 1) := by decide +kernel
theorem dX0_weigh_121 : decode cX0_weigh 121 = .ok (.aload_n 0, 1) := by decide +kernel
theorem dX0_weigh_122 : decode cX0_weigh 122 = .ok (.getfield 38, 3) := by decide +kernel
theorem dX0_weigh_125 : decode cX0_weigh 125 = .ok (.bipush 6, 2) := by decide +kernel
theorem dX0_weigh_127 : decode cX0_weigh 127 = .ok (.iload_n 3, 1) := by decide +kernel
theorem dX0_weigh_128 : decode cX0_weigh 128 = .ok (.iastore, 1) := by decide +kernel
theorem dX0_weigh_129 : decode cX0_weigh 129 = .ok (.aload_n 0, 1) := by decide +kernel
theorem dX0_weigh_130 : decode cX0_weigh 130 = .ok (.getfield 25, 3) := by decide +kernel
theorem dX0_weigh_133 : decode cX0_weigh 133 = .ok (.iload_n 3, 1) := by decide +kernel
theorem dX0_weigh_134 : decode cX0_weigh 134 = .ok (.iconst 0, 1) := by decide +kernel
theorem dX0_weigh_135 : decode cX0_weigh 135 = .ok (.bipush 9, 2) := by decide +kernel
theorem dX0_weigh_137 : decode cX0_weigh 137 = .ok (.aload_n 2, 1) := by decide +kernel
theorem dX0_weigh_138 : decode cX0_weigh 138 = .ok (.aload_n 0, 1) := by decide +kernel
theorem dX0_weigh_139 : decode cX0_weigh 139 = .ok (.getfield 38, 3) := by decide +kernel
theorem dX0_weigh_142 : decode cX0_weigh 142 = .ok (.invokevirtual 101, 3) := by decide +kernel
theorem dX0_weigh_145 : decode cX0_weigh 145 = .ok (.invokestatic 53, 3) := by decide +kernel
theorem dX0_weigh_148 : decode cX0_weigh 148 = .ok (.invokestatic 59, 3) := by decide +kernel
theorem dX0_weigh_151 : decode cX0_weigh 151 = .ok (.iastore, 1) := by decide +kernel
theorem dX0_weigh_152 : decode cX0_weigh 152 = .ok (.iinc 3 1, 3) := by decide +kernel
theorem dX0_weigh_155 : decode cX0_weigh 155 = .ok (.goto (-123), 3) := by decide +kernel
theorem dX0_weigh_158 : decode cX0_weigh 158 = .ok (.return_, 1) := by decide +kernel
theorem dX0_part_0 : decode cX0_part 0 = .ok (.aload_n 0, 1) := by decide +kernel
theorem dX0_part_1 : decode cX0_part 1 = .ok (.iconst 0, 1) := by decide +kernel
theorem dX0_part_2 : decode cX0_part 2 = .ok (.putfield 105, 3) := by decide +kernel
theorem dX0_part_5 : decode cX0_part 5 = .ok (.aload_n 0, 1) := by decide +kernel
theorem dX0_part_6 : decode cX0_part 6 = .ok (.aload_n 1, 1) := by decide +kernel
theorem dX0_part_7 : decode cX0_part 7 = .ok (.invokevirtual 108, 3) := by decide +kernel
theorem dX0_part_10 : decode cX0_part 10 = .ok (.istore_n 2, 1) := by decide +kernel
theorem dX0_part_11 : decode cX0_part 11 = .ok (.iconst 0, 1) := by decide +kernel
theorem dX0_part_12 : decode cX0_part 12 = .ok (.istore_n 3, 1) := by decide +kernel
theorem dX0_part_13 : decode cX0_part 13 = .ok (.iload_n 3, 1) := by decide +kernel
theorem dX0_part_14 : decode cX0_part 14 = .ok (.aload_n 0, 1) := by decide +kernel
theorem dX0_part_15 : decode cX0_part 15 = .ok (.getfield 41, 3) := by decide +kernel
theorem dX0_part_18 : decode cX0_part 18 = .ok (.if_icmp .ge 62, 3) := by decide +kernel
theorem dX0_part_21 : decode cX0_part 21 = .ok (.iload_n 2, 1) := by decide +kernel
theorem dX0_part_22 : decode cX0_part 22 = .ok (.iload_n 3, 1) := by decide +kernel
theorem dX0_part_23 : decode cX0_part 23 = .ok (.ishr, 1) := by decide +kernel
theorem dX0_part_24 : decode cX0_part 24 = .ok (.iconst 1, 1) := by decide +kernel
theorem dX0_part_25 : decode cX0_part 25 = .ok (.iand, 1) := by decide +kernel
theorem dX0_part_26 : decode cX0_part 26 = .ok (.iconst 1, 1) := by decide +kernel
theorem dX0_part_27 : decode cX0_part 27 = .ok (.if_icmp .ne 47, 3) := by decide +kernel
theorem dX0_part_30 : decode cX0_part 30 = .ok (.aload_n 0, 1) := by decide +kernel
theorem dX0_part_31 : decode cX0_part 31 = .ok (.getfield 105, 3) := by decide +kernel
theorem dX0_part_34 : decode cX0_part 34 = .ok (.bipush 8, 2) := by decide +kernel
theorem dX0_part_36 : decode cX0_part 36 = .ok (.if_icmp .ge 38, 3) := by decide +kernel
theorem dX0_part_39 : decode cX0_part 39 = .ok (.aload_n 1, 1) := by decide +kernel
theorem dX0_part_40 : decode cX0_part 40 = .ok (.iload_n 3, 1) := by decide +kernel
theorem dX0_part_41 : decode cX0_part 41 = .ok (.invokevirtual 112, 3) := by decide +kernel
theorem dX0_part_44 : decode cX0_part 44 = .ok (.istore 4, 2) := by decide +kernel
theorem dX0_part_46 : decode cX0_part 46 = .ok (.iload_n 2, 1) := by decide +kernel
theorem dX0_part_47 : decode cX0_part 47 = .ok (.iload 4, 2) := by decide +kernel
theorem dX0_part_49 : decode cX0_part 49 = .ok (.iconst (-1), 1) := by decide +kernel
theorem dX0_part_50 : decode cX0_part 50 = .ok (.ixor, 1) := by decide +kernel
theorem dX0_part_51 : decode cX0_part 51 = .ok (.iand, 1) := by decide +kernel
theorem dX0_part_52 : decode cX0_part 52 = .ok (.istore_n 2, 1) := by decide +kernel
theorem dX0_part_53 : decode cX0_part 53 = .ok (.aload_n 0, 1) := by decide +kernel
theorem dX0_part_54 : decode cX0_part 54 = .ok (.getfield 28, 3) := by decide +kernel
theorem dX0_part_57 : decode cX0_part 57 = .ok (.aload_n 0, 1) := by decide +kernel
theorem dX0_part_58 : decode cX0_part 58 = .ok (.getfield 105, 3) := by decide +kernel
theorem dX0_part_61 : decode cX0_part 61 = .ok (.iload 4, 2) := by decide +kernel
theorem dX0_part_63 : decode cX0_part 63 = .ok (.iastore, 1) := by decide +kernel
theorem dX0_part_64 : decode cX0_part 64 = .ok (.aload_n 0, 1) := by decide +kernel
theorem dX0_part_65 : decode cX0_part 65 = .ok (.dup, 1) := by decide +kernel
theorem dX0_part_66 : decode cX0_part 66 = .ok (.getfield 105, 3) := by decide +kernel
theorem dX0_part_69 : decode cX0_part 69 = .ok (.iconst 1, 1) := by decide +kernel
theorem dX0_part_70 : decode cX0_part 70 = .ok (.iadd, 1) := by decide +kernel
theorem dX0_part_71 : decode cX0_part 71 = .ok (.putfield 105, 3) := by decide +kernel
theorem dX0_part_74 : decode cX0_part 74 = .ok (.iinc 3 1, 3) := by decide +kernel
theorem dX0_part_77 : decode cX0_part 77 = .ok (.goto (-64), 3) := by decide +kernel
theorem dX0_part_80 : decode cX0_part 80 = .ok (.return_, 1) := by decide +kernel
theorem dX0_needOf_0 : decode cX0_needOf 0 = .ok (.iconst 0, 1) := by decide +kernel
theorem dX0_needOf_1 : decode cX0_needOf 1 = .ok (.istore_n 2, 1) := by decide +kernel
theorem dX0_needOf_2 : decode cX0_needOf 2 = .ok (.iconst 0, 1) := by decide +kernel
theorem dX0_needOf_3 : decode cX0_needOf 3 = .ok (.istore_n 3, 1) := by decide +kernel
theorem dX0_needOf_4 : decode cX0_needOf 4 = .ok (.iload_n 3, 1) := by decide +kernel
theorem dX0_needOf_5 : decode cX0_needOf 5 = .ok (.bipush 8, 2) := by decide +kernel
theorem dX0_needOf_7 : decode cX0_needOf 7 = .ok (.if_icmp .ge 27, 3) := by decide +kernel
theorem dX0_needOf_10 : decode cX0_needOf 10 = .ok (.iload_n 1, 1) := by decide +kernel
theorem dX0_needOf_11 : decode cX0_needOf 11 = .ok (.iload_n 3, 1) := by decide +kernel
theorem dX0_needOf_12 : decode cX0_needOf 12 = .ok (.ishr, 1) := by decide +kernel
theorem dX0_needOf_13 : decode cX0_needOf 13 = .ok (.iconst 1, 1) := by decide +kernel
theorem dX0_needOf_14 : decode cX0_needOf 14 = .ok (.iand, 1) := by decide +kernel
theorem dX0_needOf_15 : decode cX0_needOf 15 = .ok (.iconst 1, 1) := by decide +kernel
theorem dX0_needOf_16 : decode cX0_needOf 16 = .ok (.if_icmp .ne 12, 3) := by decide +kernel
theorem dX0_needOf_19 : decode cX0_needOf 19 = .ok (.iload_n 2, 1) := by decide +kernel
theorem dX0_needOf_20 : decode cX0_needOf 20 = .ok (.aload_n 0, 1) := by decide +kernel
theorem dX0_needOf_21 : decode cX0_needOf 21 = .ok (.getfield 25, 3) := by decide +kernel
theorem dX0_needOf_24 : decode cX0_needOf 24 = .ok (.iload_n 3, 1) := by decide +kernel
theorem dX0_needOf_25 : decode cX0_needOf 25 = .ok (.iaload, 1) := by decide +kernel
theorem dX0_needOf_26 : decode cX0_needOf 26 = .ok (.iadd, 1) := by decide +kernel
theorem dX0_needOf_27 : decode cX0_needOf 27 = .ok (.istore_n 2, 1) := by decide +kernel
theorem dX0_needOf_28 : decode cX0_needOf 28 = .ok (.iinc 3 1, 3) := by decide +kernel
theorem dX0_needOf_31 : decode cX0_needOf 31 = .ok (.goto (-27), 3) := by decide +kernel
theorem dX0_needOf_34 : decode cX0_needOf 34 = .ok (.iload_n 2, 1) := by decide +kernel
theorem dX0_needOf_35 : decode cX0_needOf 35 = .ok (.ireturn, 1) := by decide +kernel
theorem dX0_excess_0 : decode cX0_excess 0 = .ok (.aload_n 1, 1) := by decide +kernel
theorem dX0_excess_1 : decode cX0_excess 1 = .ok (.iload_n 2, 1) := by decide +kernel
theorem dX0_excess_2 : decode cX0_excess 2 = .ok (.invokevirtual 115, 3) := by decide +kernel
theorem dX0_excess_5 : decode cX0_excess 5 = .ok (.aload_n 0, 1) := by decide +kernel
theorem dX0_excess_6 : decode cX0_excess 6 = .ok (.iload_n 2, 1) := by decide +kernel
theorem dX0_excess_7 : decode cX0_excess 7 = .ok (.invokevirtual 118, 3) := by decide +kernel
theorem dX0_excess_10 : decode cX0_excess 10 = .ok (.isub, 1) := by decide +kernel
theorem dX0_excess_11 : decode cX0_excess 11 = .ok (.ireturn, 1) := by decide +kernel
theorem dX0_floating_0 : decode cX0_floating 0 = .ok (.aload_n 0, 1) := by decide +kernel
theorem dX0_floating_1 : decode cX0_floating 1 = .ok (.aload_n 1, 1) := by decide +kernel
theorem dX0_floating_2 : decode cX0_floating 2 = .ok (.aload_n 2, 1) := by decide +kernel
theorem dX0_floating_3 : decode cX0_floating 3 = .ok (.invokevirtual 121, 3) := by decide +kernel
theorem dX0_floating_6 : decode cX0_floating 6 = .ok (.aload_n 0, 1) := by decide +kernel
theorem dX0_floating_7 : decode cX0_floating 7 = .ok (.aload_n 1, 1) := by decide +kernel
theorem dX0_floating_8 : decode cX0_floating 8 = .ok (.invokevirtual 125, 3) := by decide +kernel
theorem dX0_floating_11 : decode cX0_floating 11 = .ok (.iconst 0, 1) := by decide +kernel
theorem dX0_floating_12 : decode cX0_floating 12 = .ok (.istore_n 3, 1) := by decide +kernel
theorem dX0_floating_13 : decode cX0_floating 13 = .ok (.iconst 0, 1) := by decide +kernel
theorem dX0_floating_14 : decode cX0_floating 14 = .ok (.istore 4, 2) := by decide +kernel
theorem dX0_floating_16 : decode cX0_floating 16 = .ok (.iload 4, 2) := by decide +kernel
theorem dX0_floating_18 : decode cX0_floating 18 = .ok (.aload_n 0, 1) := by decide +kernel
theorem dX0_floating_19 : decode cX0_floating 19 = .ok (.getfield 105, 3) := by decide +kernel
theorem dX0_floating_22 : decode cX0_floating 22 = .ok (.if_icmp .ge 34, 3) := by decide +kernel
theorem dX0_floating_25 : decode cX0_floating 25 = .ok (.aload_n 0, 1) := by decide +kernel
theorem dX0_floating_26 : decode cX0_floating 26 = .ok (.aload_n 1, 1) := by decide +kernel
theorem dX0_floating_27 : decode cX0_floating 27 = .ok (.aload_n 0, 1) := by decide +kernel
theorem dX0_floating_28 : decode cX0_floating 28 = .ok (.getfield 28, 3) := by decide +kernel
theorem dX0_floating_31 : decode cX0_floating 31 = .ok (.iload 4, 2) := by decide +kernel
theorem dX0_floating_33 : decode cX0_floating 33 = .ok (.iaload, 1) := by decide +kernel
theorem dX0_floating_34 : decode cX0_floating 34 = .ok (.invokevirtual 129, 3) := by decide +kernel
theorem dX0_floating_37 : decode cX0_floating 37 = .ok (.ifCond .ge 13, 3) := by decide +kernel
theorem dX0_floating_40 : decode cX0_floating 40 = .ok (.iload_n 3, 1) := by decide +kernel
theorem dX0_floating_41 : decode cX0_floating 41 = .ok (.aload_n 0, 1) := by decide +kernel
theorem dX0_floating_42 : decode cX0_floating 42 = .ok (.getfield 28, 3) := by decide +kernel
theorem dX0_floating_45 : decode cX0_floating 45 = .ok (.iload 4, 2) := by decide +kernel
theorem dX0_floating_47 : decode cX0_floating 47 = .ok (.iaload, 1) := by decide +kernel
theorem dX0_floating_48 : decode cX0_floating 48 = .ok (.ior, 1) := by decide +kernel
theorem dX0_floating_49 : decode cX0_floating 49 = .ok (.istore_n 3, 1) := by decide +kernel
theorem dX0_floating_50 : decode cX0_floating 50 = .ok (.iinc 4 1, 3) := by decide +kernel
theorem dX0_floating_53 : decode cX0_floating 53 = .ok (.goto (-37), 3) := by decide +kernel
theorem dX0_floating_56 : decode cX0_floating 56 = .ok (.iload_n 3, 1) := by decide +kernel
theorem dX0_floating_57 : decode cX0_floating 57 = .ok (.ireturn, 1) := by decide +kernel
theorem dX0_passHours_0 : decode cX0_passHours 0 = .ok (.iconst 0, 1) := by decide +kernel
theorem dX0_passHours_1 : decode cX0_passHours 1 = .ok (.istore_n 3, 1) := by decide +kernel
theorem dX0_passHours_2 : decode cX0_passHours 2 = .ok (.iconst 0, 1) := by decide +kernel
theorem dX0_passHours_3 : decode cX0_passHours 3 = .ok (.istore 4, 2) := by decide +kernel
theorem dX0_passHours_5 : decode cX0_passHours 5 = .ok (.iload 4, 2) := by decide +kernel
theorem dX0_passHours_7 : decode cX0_passHours 7 = .ok (.iload_n 2, 1) := by decide +kernel
theorem dX0_passHours_8 : decode cX0_passHours 8 = .ok (.if_icmp .ge 26, 3) := by decide +kernel
theorem dX0_passHours_11 : decode cX0_passHours 11 = .ok (.iload_n 3, 1) := by decide +kernel
theorem dX0_passHours_12 : decode cX0_passHours 12 = .ok (.aload_n 0, 1) := by decide +kernel
theorem dX0_passHours_13 : decode cX0_passHours 13 = .ok (.aload_n 1, 1) := by decide +kernel
theorem dX0_passHours_14 : decode cX0_passHours 14 = .ok (.aload_n 0, 1) := by decide +kernel
theorem dX0_passHours_15 : decode cX0_passHours 15 = .ok (.aload_n 1, 1) := by decide +kernel
theorem dX0_passHours_16 : decode cX0_passHours 16 = .ok (.aload_n 0, 1) := by decide +kernel
theorem dX0_passHours_17 : decode cX0_passHours 17 = .ok (.getfield 18, 3) := by decide +kernel
theorem dX0_passHours_20 : decode cX0_passHours 20 = .ok (.invokevirtual 133, 3) := by decide +kernel
theorem dX0_passHours_23 : decode cX0_passHours 23 = .ok (.invokevirtual 137, 3) := by decide +kernel
theorem dX0_passHours_26 : decode cX0_passHours 26 = .ok (.iadd, 1) := by decide +kernel
theorem dX0_passHours_27 : decode cX0_passHours 27 = .ok (.istore_n 3, 1) := by decide +kernel
theorem dX0_passHours_28 : decode cX0_passHours 28 = .ok (.iinc 4 1, 3) := by decide +kernel
theorem dX0_passHours_31 : decode cX0_passHours 31 = .ok (.goto (-26), 3) := by decide +kernel
theorem dX0_passHours_34 : decode cX0_passHours 34 = .ok (.iload_n 3, 1) := by decide +kernel
theorem dX0_passHours_35 : decode cX0_passHours 35 = .ok (.ireturn, 1) := by decide +kernel
theorem dX0_passHour_0 : decode cX0_passHour 0 = .ok (.iconst 0, 1) := by decide +kernel
theorem dX0_passHour_1 : decode cX0_passHour 1 = .ok (.istore_n 3, 1) := by decide +kernel
theorem dX0_passHour_2 : decode cX0_passHour 2 = .ok (.iconst 0, 1) := by decide +kernel
theorem dX0_passHour_3 : decode cX0_passHour 3 = .ok (.istore 4, 2) := by decide +kernel
theorem dX0_passHour_5 : decode cX0_passHour 5 = .ok (.iload 4, 2) := by decide +kernel
theorem dX0_passHour_7 : decode cX0_passHour 7 = .ok (.aload_n 0, 1) := by decide +kernel
theorem dX0_passHour_8 : decode cX0_passHour 8 = .ok (.getfield 41, 3) := by decide +kernel
theorem dX0_passHour_11 : decode cX0_passHour 11 = .ok (.if_icmp .ge 125, 3) := by decide +kernel
theorem dX0_passHour_14 : decode cX0_passHour 14 = .ok (.aload_n 1, 1) := by decide +kernel
theorem dX0_passHour_15 : decode cX0_passHour 15 = .ok (.iload 4, 2) := by decide +kernel
theorem dX0_passHour_17 : decode cX0_passHour 17 = .ok (.invokevirtual 80, 3) := by decide +kernel
theorem dX0_passHour_20 : decode cX0_passHour 20 = .ok (.ifCond .eq 6, 3) := by decide +kernel
theorem dX0_passHour_23 : decode cX0_passHour 23 = .ok (.goto 107, 3) := by decide +kernel
theorem dX0_passHour_26 : decode cX0_passHour 26 = .ok (.iload_n 2, 1) := by decide +kernel
theorem dX0_passHour_27 : decode cX0_passHour 27 = .ok (.iload 4, 2) := by decide +kernel
theorem dX0_passHour_29 : decode cX0_passHour 29 = .ok (.ishr, 1) := by decide +kernel
theorem dX0_passHour_30 : decode cX0_passHour 30 = .ok (.iconst 1, 1) := by decide +kernel
theorem dX0_passHour_31 : decode cX0_passHour 31 = .ok (.iand, 1) := by decide +kernel
theorem dX0_passHour_32 : decode cX0_passHour 32 = .ok (.ifCond .ne 26, 3) := by decide +kernel
theorem dX0_passHour_35 : decode cX0_passHour 35 = .ok (.aload_n 1, 1) := by decide +kernel
theorem dX0_passHour_36 : decode cX0_passHour 36 = .ok (.getfield 95, 3) := by decide +kernel
theorem dX0_passHour_39 : decode cX0_passHour 39 = .ok (.iload 4, 2) := by decide +kernel
theorem dX0_passHour_41 : decode cX0_passHour 41 = .ok (.iconst 0, 1) := by decide +kernel
theorem dX0_passHour_42 : decode cX0_passHour 42 = .ok (.aload_n 1, 1) := by decide +kernel
theorem dX0_passHour_43 : decode cX0_passHour 43 = .ok (.getfield 95, 3) := by decide +kernel
theorem dX0_passHour_46 : decode cX0_passHour 46 = .ok (.iload 4, 2) := by decide +kernel
theorem dX0_passHour_48 : decode cX0_passHour 48 = .ok (.iaload, 1) := by decide +kernel
theorem dX0_passHour_49 : decode cX0_passHour 49 = .ok (.iconst 1, 1) := by decide +kernel
theorem dX0_passHour_50 : decode cX0_passHour 50 = .ok (.isub, 1) := by decide +kernel
theorem dX0_passHour_51 : decode cX0_passHour 51 = .ok (.invokestatic 59, 3) := by decide +kernel
theorem dX0_passHour_54 : decode cX0_passHour 54 = .ok (.iastore, 1) := by decide +kernel
theorem dX0_passHour_55 : decode cX0_passHour 55 = .ok (.goto 38, 3) := by decide +kernel
theorem dX0_passHour_58 : decode cX0_passHour 58 = .ok (.aload_n 1, 1) := by decide +kernel
theorem dX0_passHour_59 : decode cX0_passHour 59 = .ok (.getfield 95, 3) := by decide +kernel
theorem dX0_passHour_62 : decode cX0_passHour 62 = .ok (.iload 4, 2) := by decide +kernel
theorem dX0_passHour_64 : decode cX0_passHour 64 = .ok (.iaload, 1) := by decide +kernel
theorem dX0_passHour_65 : decode cX0_passHour 65 = .ok (.bipush 9, 2) := by decide +kernel
theorem dX0_passHour_67 : decode cX0_passHour 67 = .ok (.if_icmp .ge 17, 3) := by decide +kernel
theorem dX0_passHour_70 : decode cX0_passHour 70 = .ok (.aload_n 1, 1) := by decide +kernel
theorem dX0_passHour_71 : decode cX0_passHour 71 = .ok (.getfield 95, 3) := by decide +kernel
theorem dX0_passHour_74 : decode cX0_passHour 74 = .ok (.iload 4, 2) := by decide +kernel
theorem dX0_passHour_76 : decode cX0_passHour 76 = .ok (.dup2, 1) := by decide +kernel
theorem dX0_passHour_77 : decode cX0_passHour 77 = .ok (.iaload, 1) := by decide +kernel
theorem dX0_passHour_78 : decode cX0_passHour 78 = .ok (.iconst 1, 1) := by decide +kernel
theorem dX0_passHour_79 : decode cX0_passHour 79 = .ok (.iadd, 1) := by decide +kernel
theorem dX0_passHour_80 : decode cX0_passHour 80 = .ok (.iastore, 1) := by decide +kernel
theorem dX0_passHour_81 : decode cX0_passHour 81 = .ok (.goto 12, 3) := by decide +kernel
theorem dX0_passHour_84 : decode cX0_passHour 84 = .ok (.iload_n 3, 1) := by decide +kernel
theorem dX0_passHour_85 : decode cX0_passHour 85 = .ok (.aload_n 1, 1) := by decide +kernel
theorem dX0_passHour_86 : decode cX0_passHour 86 = .ok (.iload 4, 2) := by decide +kernel
theorem dX0_passHour_88 : decode cX0_passHour 88 = .ok (.invokevirtual 140, 3) := by decide +kernel
theorem dX0_passHour_91 : decode cX0_passHour 91 = .ok (.iadd, 1) := by decide +kernel
theorem dX0_passHour_92 : decode cX0_passHour 92 = .ok (.istore_n 3, 1) := by decide +kernel
theorem dX0_passHour_93 : decode cX0_passHour 93 = .ok (.aload_n 1, 1) := by decide +kernel
theorem dX0_passHour_94 : decode cX0_passHour 94 = .ok (.iload 4, 2) := by decide +kernel
theorem dX0_passHour_96 : decode cX0_passHour 96 = .ok (.invokevirtual 80, 3) := by decide +kernel
theorem dX0_passHour_99 : decode cX0_passHour 99 = .ok (.ifCond .ne 31, 3) := by decide +kernel
theorem dX0_passHour_102 : decode cX0_passHour 102 = .ok (.aload_n 1, 1) := by decide +kernel
theorem dX0_passHour_103 : decode cX0_passHour 103 = .ok (.getfield 98, 3) := by decide +kernel
theorem dX0_passHour_106 : decode cX0_passHour 106 = .ok (.iload 4, 2) := by decide +kernel
theorem dX0_passHour_108 : decode cX0_passHour 108 = .ok (.aload_n 1, 1) := by decide +kernel
theorem dX0_passHour_109 : decode cX0_passHour 109 = .ok (.getfield 98, 3) := by decide +kernel
theorem dX0_passHour_112 : decode cX0_passHour 112 = .ok (.iload 4, 2) := by decide +kernel
theorem dX0_passHour_114 : decode cX0_passHour 114 = .ok (.iaload, 1) := by decide +kernel
theorem dX0_passHour_115 : decode cX0_passHour 115 = .ok (.aload_n 1, 1) := by decide +kernel
theorem dX0_passHour_116 : decode cX0_passHour 116 = .ok (.getfield 92, 3) := by decide +kernel
theorem dX0_passHour_119 : decode cX0_passHour 119 = .ok (.iload 4, 2) := by decide +kernel
theorem dX0_passHour_121 : decode cX0_passHour 121 = .ok (.iaload, 1) := by decide +kernel
theorem dX0_passHour_122 : decode cX0_passHour 122 = .ok (.iadd, 1) := by decide +kernel
theorem dX0_passHour_123 : decode cX0_passHour 123 = .ok (.sipush 999, 3) := by decide +kernel
theorem dX0_passHour_126 : decode cX0_passHour 126 = .ok (.invokestatic 53, 3) := by decide +kernel
theorem dX0_passHour_129 : decode cX0_passHour 129 = .ok (.iastore, 1) := by decide +kernel
theorem dX0_passHour_130 : decode cX0_passHour 130 = .ok (.iinc 4 1, 3) := by decide +kernel
theorem dX0_passHour_133 : decode cX0_passHour 133 = .ok (.goto (-128), 3) := by decide +kernel
theorem dX0_passHour_136 : decode cX0_passHour 136 = .ok (.aload_n 1, 1) := by decide +kernel
theorem dX0_passHour_137 : decode cX0_passHour 137 = .ok (.dup, 1) := by decide +kernel
theorem dX0_passHour_138 : decode cX0_passHour 138 = .ok (.getfield 74, 3) := by decide +kernel
theorem dX0_passHour_141 : decode cX0_passHour 141 = .ok (.iconst 1, 1) := by decide +kernel
theorem dX0_passHour_142 : decode cX0_passHour 142 = .ok (.iadd, 1) := by decide +kernel
theorem dX0_passHour_143 : decode cX0_passHour 143 = .ok (.putfield 74, 3) := by decide +kernel
theorem dX0_passHour_146 : decode cX0_passHour 146 = .ok (.iload_n 3, 1) := by decide +kernel
theorem dX0_passHour_147 : decode cX0_passHour 147 = .ok (.ireturn, 1) := by decide +kernel
theorem dX0_lend_0 : decode cX0_lend 0 = .ok (.aload_n 0, 1) := by decide +kernel
theorem dX0_lend_1 : decode cX0_lend 1 = .ok (.iload_n 2, 1) := by decide +kernel
theorem dX0_lend_2 : decode cX0_lend 2 = .ok (.invokevirtual 143, 3) := by decide +kernel
theorem dX0_lend_5 : decode cX0_lend 5 = .ok (.ifCond .eq 14, 3) := by decide +kernel
theorem dX0_lend_8 : decode cX0_lend 8 = .ok (.iload_n 3, 1) := by decide +kernel
theorem dX0_lend_9 : decode cX0_lend 9 = .ok (.iconst 1, 1) := by decide +kernel
theorem dX0_lend_10 : decode cX0_lend 10 = .ok (.if_icmp .lt 9, 3) := by decide +kernel
theorem dX0_lend_13 : decode cX0_lend 13 = .ok (.iload_n 3, 1) := by decide +kernel
theorem dX0_lend_14 : decode cX0_lend 14 = .ok (.bipush 9, 2) := by decide +kernel
theorem dX0_lend_16 : decode cX0_lend 16 = .ok (.if_icmp .le 5, 3) := by decide +kernel
theorem dX0_lend_19 : decode cX0_lend 19 = .ok (.iconst (-1), 1) := by decide +kernel
theorem dX0_lend_20 : decode cX0_lend 20 = .ok (.ireturn, 1) := by decide +kernel
theorem dX0_lend_21 : decode cX0_lend 21 = .ok (.aload_n 1, 1) := by decide +kernel
theorem dX0_lend_22 : decode cX0_lend 22 = .ok (.iload_n 2, 1) := by decide +kernel
theorem dX0_lend_23 : decode cX0_lend 23 = .ok (.invokevirtual 80, 3) := by decide +kernel
theorem dX0_lend_26 : decode cX0_lend 26 = .ok (.ifCond .eq 6, 3) := by decide +kernel
theorem dX0_lend_29 : decode cX0_lend 29 = .ok (.bipush (-2), 2) := by decide +kernel
theorem dX0_lend_31 : decode cX0_lend 31 = .ok (.ireturn, 1) := by decide +kernel
theorem dX0_lend_32 : decode cX0_lend 32 = .ok (.aload_n 1, 1) := by decide +kernel
theorem dX0_lend_33 : decode cX0_lend 33 = .ok (.getfield 146, 3) := by decide +kernel
theorem dX0_lend_36 : decode cX0_lend 36 = .ok (.iload_n 3, 1) := by decide +kernel
theorem dX0_lend_37 : decode cX0_lend 37 = .ok (.if_icmp .ge 6, 3) := by decide +kernel
theorem dX0_lend_40 : decode cX0_lend 40 = .ok (.bipush (-3), 2) := by decide +kernel
theorem dX0_lend_42 : decode cX0_lend 42 = .ok (.ireturn, 1) := by decide +kernel
theorem dX0_lend_43 : decode cX0_lend 43 = .ok (.aload_n 1, 1) := by decide +kernel
theorem dX0_lend_44 : decode cX0_lend 44 = .ok (.getfield 92, 3) := by decide +kernel
theorem dX0_lend_47 : decode cX0_lend 47 = .ok (.iload_n 2, 1) := by decide +kernel
theorem dX0_lend_48 : decode cX0_lend 48 = .ok (.iaload, 1) := by decide +kernel
theorem dX0_lend_49 : decode cX0_lend 49 = .ok (.iload_n 3, 1) := by decide +kernel
theorem dX0_lend_50 : decode cX0_lend 50 = .ok (.iadd, 1) := by decide +kernel
theorem dX0_lend_51 : decode cX0_lend 51 = .ok (.bipush 9, 2) := by decide +kernel
theorem dX0_lend_53 : decode cX0_lend 53 = .ok (.if_icmp .le 6, 3) := by decide +kernel
theorem dX0_lend_56 : decode cX0_lend 56 = .ok (.bipush (-4), 2) := by decide +kernel
theorem dX0_lend_58 : decode cX0_lend 58 = .ok (.ireturn, 1) := by decide +kernel
theorem dX0_lend_59 : decode cX0_lend 59 = .ok (.aload_n 1, 1) := by decide +kernel
theorem dX0_lend_60 : decode cX0_lend 60 = .ok (.dup, 1) := by decide +kernel
theorem dX0_lend_61 : decode cX0_lend 61 = .ok (.getfield 146, 3) := by decide +kernel
theorem dX0_lend_64 : decode cX0_lend 64 = .ok (.iload_n 3, 1) := by decide +kernel
theorem dX0_lend_65 : decode cX0_lend 65 = .ok (.isub, 1) := by decide +kernel
theorem dX0_lend_66 : decode cX0_lend 66 = .ok (.putfield 146, 3) := by decide +kernel
theorem dX0_lend_69 : decode cX0_lend 69 = .ok (.aload_n 1, 1) := by decide +kernel
theorem dX0_lend_70 : decode cX0_lend 70 = .ok (.getfield 92, 3) := by decide +kernel
theorem dX0_lend_73 : decode cX0_lend 73 = .ok (.iload_n 2, 1) := by decide +kernel
theorem dX0_lend_74 : decode cX0_lend 74 = .ok (.dup2, 1) := by decide +kernel
theorem dX0_lend_75 : decode cX0_lend 75 = .ok (.iaload, 1) := by decide +kernel
theorem dX0_lend_76 : decode cX0_lend 76 = .ok (.iload_n 3, 1) := by decide +kernel
theorem dX0_lend_77 : decode cX0_lend 77 = .ok (.iadd, 1) := by decide +kernel
theorem dX0_lend_78 : decode cX0_lend 78 = .ok (.iastore, 1) := by decide +kernel
theorem dX0_lend_79 : decode cX0_lend 79 = .ok (.aload_n 1, 1) := by decide +kernel
theorem dX0_lend_80 : decode cX0_lend 80 = .ok (.getfield 92, 3) := by decide +kernel
theorem dX0_lend_83 : decode cX0_lend 83 = .ok (.iload_n 2, 1) := by decide +kernel
theorem dX0_lend_84 : decode cX0_lend 84 = .ok (.iaload, 1) := by decide +kernel
theorem dX0_lend_85 : decode cX0_lend 85 = .ok (.ireturn, 1) := by decide +kernel
theorem dX0_takeBack_0 : decode cX0_takeBack 0 = .ok (.aload_n 0, 1) := by decide +kernel
theorem dX0_takeBack_1 : decode cX0_takeBack 1 = .ok (.iload_n 2, 1) := by decide +kernel
theorem dX0_takeBack_2 : decode cX0_takeBack 2 = .ok (.invokevirtual 143, 3) := by decide +kernel
theorem dX0_takeBack_5 : decode cX0_takeBack 5 = .ok (.ifCond .eq 14, 3) := by decide +kernel
theorem dX0_takeBack_8 : decode cX0_takeBack 8 = .ok (.iload_n 3, 1) := by decide +kernel
theorem dX0_takeBack_9 : decode cX0_takeBack 9 = .ok (.iconst 1, 1) := by decide +kernel
theorem dX0_takeBack_10 : decode cX0_takeBack 10 = .ok (.if_icmp .lt 9, 3) := by decide +kernel
theorem dX0_takeBack_13 : decode cX0_takeBack 13 = .ok (.iload_n 3, 1) := by decide +kernel
theorem dX0_takeBack_14 : decode cX0_takeBack 14 = .ok (.bipush 9, 2) := by decide +kernel
theorem dX0_takeBack_16 : decode cX0_takeBack 16 = .ok (.if_icmp .le 5, 3) := by decide +kernel
theorem dX0_takeBack_19 : decode cX0_takeBack 19 = .ok (.iconst (-1), 1) := by decide +kernel
theorem dX0_takeBack_20 : decode cX0_takeBack 20 = .ok (.ireturn, 1) := by decide +kernel
theorem dX0_takeBack_21 : decode cX0_takeBack 21 = .ok (.aload_n 1, 1) := by decide +kernel
theorem dX0_takeBack_22 : decode cX0_takeBack 22 = .ok (.getfield 92, 3) := by decide +kernel
theorem dX0_takeBack_25 : decode cX0_takeBack 25 = .ok (.iload_n 2, 1) := by decide +kernel
theorem dX0_takeBack_26 : decode cX0_takeBack 26 = .ok (.iaload, 1) := by decide +kernel
theorem dX0_takeBack_27 : decode cX0_takeBack 27 = .ok (.iload_n 3, 1) := by decide +kernel
theorem dX0_takeBack_28 : decode cX0_takeBack 28 = .ok (.if_icmp .ge 6, 3) := by decide +kernel
theorem dX0_takeBack_31 : decode cX0_takeBack 31 = .ok (.bipush (-2), 2) := by decide +kernel
theorem dX0_takeBack_33 : decode cX0_takeBack 33 = .ok (.ireturn, 1) := by decide +kernel
theorem dX0_takeBack_34 : decode cX0_takeBack 34 = .ok (.aload_n 1, 1) := by decide +kernel
theorem dX0_takeBack_35 : decode cX0_takeBack 35 = .ok (.getfield 146, 3) := by decide +kernel
theorem dX0_takeBack_38 : decode cX0_takeBack 38 = .ok (.iload_n 3, 1) := by decide +kernel
theorem dX0_takeBack_39 : decode cX0_takeBack 39 = .ok (.iadd, 1) := by decide +kernel
theorem dX0_takeBack_40 : decode cX0_takeBack 40 = .ok (.bipush 99, 2) := by decide +kernel
theorem dX0_takeBack_42 : decode cX0_takeBack 42 = .ok (.if_icmp .le 6, 3) := by decide +kernel
theorem dX0_takeBack_45 : decode cX0_takeBack 45 = .ok (.bipush (-3), 2) := by decide +kernel
theorem dX0_takeBack_47 : decode cX0_takeBack 47 = .ok (.ireturn, 1) := by decide +kernel
theorem dX0_takeBack_48 : decode cX0_takeBack 48 = .ok (.aload_n 1, 1) := by decide +kernel
theorem dX0_takeBack_49 : decode cX0_takeBack 49 = .ok (.getfield 92, 3) := by decide +kernel
theorem dX0_takeBack_52 : decode cX0_takeBack 52 = .ok (.iload_n 2, 1) := by decide +kernel
theorem dX0_takeBack_53 : decode cX0_takeBack 53 = .ok (.dup2, 1) := by decide +kernel
theorem dX0_takeBack_54 : decode cX0_takeBack 54 = .ok (.iaload, 1) := by decide +kernel
theorem dX0_takeBack_55 : decode cX0_takeBack 55 = .ok (.iload_n 3, 1) := by decide +kernel
theorem dX0_takeBack_56 : decode cX0_takeBack 56 = .ok (.isub, 1) := by decide +kernel
theorem dX0_takeBack_57 : decode cX0_takeBack 57 = .ok (.iastore, 1) := by decide +kernel
theorem dX0_takeBack_58 : decode cX0_takeBack 58 = .ok (.aload_n 1, 1) := by decide +kernel
theorem dX0_takeBack_59 : decode cX0_takeBack 59 = .ok (.dup, 1) := by decide +kernel
theorem dX0_takeBack_60 : decode cX0_takeBack 60 = .ok (.getfield 146, 3) := by decide +kernel
theorem dX0_takeBack_63 : decode cX0_takeBack 63 = .ok (.iload_n 3, 1) := by decide +kernel
theorem dX0_takeBack_64 : decode cX0_takeBack 64 = .ok (.iadd, 1) := by decide +kernel
theorem dX0_takeBack_65 : decode cX0_takeBack 65 = .ok (.putfield 146, 3) := by decide +kernel
theorem dX0_takeBack_68 : decode cX0_takeBack 68 = .ok (.aload_n 1, 1) := by decide +kernel
theorem dX0_takeBack_69 : decode cX0_takeBack 69 = .ok (.getfield 146, 3) := by decide +kernel
theorem dX0_takeBack_72 : decode cX0_takeBack 72 = .ok (.ireturn, 1) := by decide +kernel
theorem dX0_tieOrCut_0 : decode cX0_tieOrCut 0 = .ok (.aload_n 0, 1) := by decide +kernel
theorem dX0_tieOrCut_1 : decode cX0_tieOrCut 1 = .ok (.iload_n 2, 1) := by decide +kernel
theorem dX0_tieOrCut_2 : decode cX0_tieOrCut 2 = .ok (.invokevirtual 143, 3) := by decide +kernel
theorem dX0_tieOrCut_5 : decode cX0_tieOrCut 5 = .ok (.ifCond .eq 16, 3) := by decide +kernel
theorem dX0_tieOrCut_8 : decode cX0_tieOrCut 8 = .ok (.aload_n 0, 1) := by decide +kernel
theorem dX0_tieOrCut_9 : decode cX0_tieOrCut 9 = .ok (.iload_n 3, 1) := by decide +kernel
theorem dX0_tieOrCut_10 : decode cX0_tieOrCut 10 = .ok (.invokevirtual 143, 3) := by decide +kernel
theorem dX0_tieOrCut_13 : decode cX0_tieOrCut 13 = .ok (.ifCond .eq 8, 3) := by decide +kernel
theorem dX0_tieOrCut_16 : decode cX0_tieOrCut 16 = .ok (.iload_n 2, 1) := by decide +kernel
theorem dX0_tieOrCut_17 : decode cX0_tieOrCut 17 = .ok (.iload_n 3, 1) := by decide +kernel
theorem dX0_tieOrCut_18 : decode cX0_tieOrCut 18 = .ok (.if_icmp .ne 5, 3) := by decide +kernel
theorem dX0_tieOrCut_21 : decode cX0_tieOrCut 21 = .ok (.iconst (-1), 1) := by decide +kernel
theorem dX0_tieOrCut_22 : decode cX0_tieOrCut 22 = .ok (.ireturn, 1) := by decide +kernel
theorem dX0_tieOrCut_23 : decode cX0_tieOrCut 23 = .ok (.aload_n 1, 1) := by decide +kernel
theorem dX0_tieOrCut_24 : decode cX0_tieOrCut 24 = .ok (.iload_n 2, 1) := by decide +kernel
theorem dX0_tieOrCut_25 : decode cX0_tieOrCut 25 = .ok (.invokevirtual 80, 3) := by decide +kernel
theorem dX0_tieOrCut_28 : decode cX0_tieOrCut 28 = .ok (.ifCond .ne 11, 3) := by decide +kernel
theorem dX0_tieOrCut_31 : decode cX0_tieOrCut 31 = .ok (.aload_n 1, 1) := by decide +kernel
theorem dX0_tieOrCut_32 : decode cX0_tieOrCut 32 = .ok (.iload_n 3, 1) := by decide +kernel
theorem dX0_tieOrCut_33 : decode cX0_tieOrCut 33 = .ok (.invokevirtual 80, 3) := by decide +kernel
theorem dX0_tieOrCut_36 : decode cX0_tieOrCut 36 = .ok (.ifCond .eq 6, 3) := by decide +kernel
theorem dX0_tieOrCut_39 : decode cX0_tieOrCut 39 = .ok (.bipush (-2), 2) := by decide +kernel
theorem dX0_tieOrCut_41 : decode cX0_tieOrCut 41 = .ok (.ireturn, 1) := by decide +kernel
theorem dX0_tieOrCut_42 : decode cX0_tieOrCut 42 = .ok (.aload_n 1, 1) := by decide +kernel
theorem dX0_tieOrCut_43 : decode cX0_tieOrCut 43 = .ok (.iload_n 2, 1) := by decide +kernel
theorem dX0_tieOrCut_44 : decode cX0_tieOrCut 44 = .ok (.iload_n 3, 1) := by decide +kernel
theorem dX0_tieOrCut_45 : decode cX0_tieOrCut 45 = .ok (.invokevirtual 149, 3) := by decide +kernel
theorem dX0_tieOrCut_48 : decode cX0_tieOrCut 48 = .ok (.aload_n 1, 1) := by decide +kernel
theorem dX0_tieOrCut_49 : decode cX0_tieOrCut 49 = .ok (.invokevirtual 153, 3) := by decide +kernel
theorem dX0_tieOrCut_52 : decode cX0_tieOrCut 52 = .ok (.ireturn, 1) := by decide +kernel
theorem dX0_takeDebt_0 : decode cX0_takeDebt 0 = .ok (.aload_n 0, 1) := by decide +kernel
theorem dX0_takeDebt_1 : decode cX0_takeDebt 1 = .ok (.iload_n 2, 1) := by decide +kernel
theorem dX0_takeDebt_2 : decode cX0_takeDebt 2 = .ok (.invokevirtual 143, 3) := by decide +kernel
theorem dX0_takeDebt_5 : decode cX0_takeDebt 5 = .ok (.ifCond .ne 5, 3) := by decide +kernel
theorem dX0_takeDebt_8 : decode cX0_takeDebt 8 = .ok (.iconst (-1), 1) := by decide +kernel
theorem dX0_takeDebt_9 : decode cX0_takeDebt 9 = .ok (.ireturn, 1) := by decide +kernel
theorem dX0_takeDebt_10 : decode cX0_takeDebt 10 = .ok (.aload_n 1, 1) := by decide +kernel
theorem dX0_takeDebt_11 : decode cX0_takeDebt 11 = .ok (.getfield 98, 3) := by decide +kernel
theorem dX0_takeDebt_14 : decode cX0_takeDebt 14 = .ok (.iload_n 2, 1) := by decide +kernel
theorem dX0_takeDebt_15 : decode cX0_takeDebt 15 = .ok (.iaload, 1) := by decide +kernel
theorem dX0_takeDebt_16 : decode cX0_takeDebt 16 = .ok (.istore_n 3, 1) := by decide +kernel
theorem dX0_takeDebt_17 : decode cX0_takeDebt 17 = .ok (.iload_n 3, 1) := by decide +kernel
theorem dX0_takeDebt_18 : decode cX0_takeDebt 18 = .ok (.ifCond .ne 6, 3) := by decide +kernel
theorem dX0_takeDebt_21 : decode cX0_takeDebt 21 = .ok (.bipush (-2), 2) := by decide +kernel
theorem dX0_takeDebt_23 : decode cX0_takeDebt 23 = .ok (.ireturn, 1) := by decide +kernel
theorem dX0_takeDebt_24 : decode cX0_takeDebt 24 = .ok (.aload_n 1, 1) := by decide +kernel
theorem dX0_takeDebt_25 : decode cX0_takeDebt 25 = .ok (.getfield 98, 3) := by decide +kernel
theorem dX0_takeDebt_28 : decode cX0_takeDebt 28 = .ok (.iload_n 2, 1) := by decide +kernel
theorem dX0_takeDebt_29 : decode cX0_takeDebt 29 = .ok (.iconst 0, 1) := by decide +kernel
theorem dX0_takeDebt_30 : decode cX0_takeDebt 30 = .ok (.iastore, 1) := by decide +kernel
theorem dX0_takeDebt_31 : decode cX0_takeDebt 31 = .ok (.aload_n 1, 1) := by decide +kernel
theorem dX0_takeDebt_32 : decode cX0_takeDebt 32 = .ok (.aload_n 1, 1) := by decide +kernel
theorem dX0_takeDebt_33 : decode cX0_takeDebt 33 = .ok (.getfield 156, 3) := by decide +kernel
theorem dX0_takeDebt_36 : decode cX0_takeDebt 36 = .ok (.iload_n 3, 1) := by decide +kernel
theorem dX0_takeDebt_37 : decode cX0_takeDebt 37 = .ok (.iadd, 1) := by decide +kernel
theorem dX0_takeDebt_38 : decode cX0_takeDebt 38 = .ok (.sipush 9999, 3) := by decide +kernel
theorem dX0_takeDebt_41 : decode cX0_takeDebt 41 = .ok (.invokestatic 53, 3) := by decide +kernel
theorem dX0_takeDebt_44 : decode cX0_takeDebt 44 = .ok (.putfield 156, 3) := by decide +kernel
theorem dX0_takeDebt_47 : decode cX0_takeDebt 47 = .ok (.iload_n 3, 1) := by decide +kernel
theorem dX0_takeDebt_48 : decode cX0_takeDebt 48 = .ok (.ireturn, 1) := by decide +kernel
theorem dX1_init_0 : decode cX1_init 0 = .ok (.aload_n 0, 1) := by decide +kernel
theorem dX1_init_1 : decode cX1_init 1 = .ok (.invokespecial 3, 3) := by decide +kernel
theorem dX1_init_4 : decode cX1_init 4 = .ok (.aload_n 0, 1) := by decide +kernel
theorem dX1_init_5 : decode cX1_init 5 = .ok (.bipush 16, 2) := by decide +kernel
theorem dX1_init_7 : decode cX1_init 7 = .ok (.anewarray 11, 3) := by decide +kernel
theorem dX1_init_10 : decode cX1_init 10 = .ok (.putfield 13, 3) := by decide +kernel
theorem dX1_init_13 : decode cX1_init 13 = .ok (.iconst 0, 1) := by decide +kernel
theorem dX1_init_14 : decode cX1_init 14 = .ok (.istore_n 1, 1) := by decide +kernel
theorem dX1_init_15 : decode cX1_init 15 = .ok (.iload_n 1, 1) := by decide +kernel
theorem dX1_init_16 : decode cX1_init 16 = .ok (.bipush 16, 2) := by decide +kernel
theorem dX1_init_18 : decode cX1_init 18 = .ok (.if_icmp .ge 22, 3) := by decide +kernel
theorem dX1_init_21 : decode cX1_init 21 = .ok (.aload_n 0, 1) := by decide +kernel
theorem dX1_init_22 : decode cX1_init 22 = .ok (.getfield 13, 3) := by decide +kernel
theorem dX1_init_25 : decode cX1_init 25 = .ok (.iload_n 1, 1) := by decide +kernel
theorem dX1_init_26 : decode cX1_init 26 = .ok (.new 11, 3) := by decide +kernel
theorem dX1_init_29 : decode cX1_init 29 = .ok (.dup, 1) := by decide +kernel
theorem dX1_init_30 : decode cX1_init 30 = .ok (.invokespecial 17, 3) := by decide +kernel
theorem dX1_init_33 : decode cX1_init 33 = .ok (.aastore, 1) := by decide +kernel
theorem dX1_init_34 : decode cX1_init 34 = .ok (.iinc 1 1, 3) := by decide +kernel
theorem dX1_init_37 : decode cX1_init 37 = .ok (.goto (-22), 3) := by decide +kernel
theorem dX1_init_40 : decode cX1_init 40 = .ok (.return_, 1) := by decide +kernel
theorem dX1_clear_0 : decode cX1_clear 0 = .ok (.aload_n 0, 1) := by decide +kernel
theorem dX1_clear_1 : decode cX1_clear 1 = .ok (.iconst 0, 1) := by decide +kernel
theorem dX1_clear_2 : decode cX1_clear 2 = .ok (.putfield 18, 3) := by decide +kernel
theorem dX1_clear_5 : decode cX1_clear 5 = .ok (.return_, 1) := by decide +kernel
theorem dX1_draw_0 : decode cX1_draw 0 = .ok (.aload_n 0, 1) := by decide +kernel
theorem dX1_draw_1 : decode cX1_draw 1 = .ok (.getfield 13, 3) := by decide +kernel
theorem dX1_draw_4 : decode cX1_draw 4 = .ok (.aload_n 0, 1) := by decide +kernel
theorem dX1_draw_5 : decode cX1_draw 5 = .ok (.getfield 22, 3) := by decide +kernel
theorem dX1_draw_8 : decode cX1_draw 8 = .ok (.bipush 15, 2) := by decide +kernel
theorem dX1_draw_10 : decode cX1_draw 10 = .ok (.iand, 1) := by decide +kernel
theorem dX1_draw_11 : decode cX1_draw 11 = .ok (.aaload, 1) := by decide +kernel
theorem dX1_draw_12 : decode cX1_draw 12 = .ok (.aload_n 1, 1) := by decide +kernel
theorem dX1_draw_13 : decode cX1_draw 13 = .ok (.invokevirtual 25, 3) := by decide +kernel
theorem dX1_draw_16 : decode cX1_draw 16 = .ok (.return_, 1) := by decide +kernel
theorem dX1_commit_0 : decode cX1_commit 0 = .ok (.aload_n 0, 1) := by decide +kernel
theorem dX1_commit_1 : decode cX1_commit 1 = .ok (.aload_n 0, 1) := by decide +kernel
theorem dX1_commit_2 : decode cX1_commit 2 = .ok (.getfield 22, 3) := by decide +kernel
theorem dX1_commit_5 : decode cX1_commit 5 = .ok (.iconst 1, 1) := by decide +kernel
theorem dX1_commit_6 : decode cX1_commit 6 = .ok (.iadd, 1) := by decide +kernel
theorem dX1_commit_7 : decode cX1_commit 7 = .ok (.bipush 15, 2) := by decide +kernel
theorem dX1_commit_9 : decode cX1_commit 9 = .ok (.iand, 1) := by decide +kernel
theorem dX1_commit_10 : decode cX1_commit 10 = .ok (.putfield 22, 3) := by decide +kernel
theorem dX1_commit_13 : decode cX1_commit 13 = .ok (.aload_n 0, 1) := by decide +kernel
theorem dX1_commit_14 : decode cX1_commit 14 = .ok (.aload_n 0, 1) := by decide +kernel
theorem dX1_commit_15 : decode cX1_commit 15 = .ok (.getfield 18, 3) := by decide +kernel
theorem dX1_commit_18 : decode cX1_commit 18 = .ok (.iconst 1, 1) := by decide +kernel
theorem dX1_commit_19 : decode cX1_commit 19 = .ok (.iadd, 1) := by decide +kernel
theorem dX1_commit_20 : decode cX1_commit 20 = .ok (.bipush 15, 2) := by decide +kernel
theorem dX1_commit_22 : decode cX1_commit 22 = .ok (.invokestatic 29, 3) := by decide +kernel
theorem dX1_commit_25 : decode cX1_commit 25 = .ok (.putfield 18, 3) := by decide +kernel
theorem dX1_commit_28 : decode cX1_commit 28 = .ok (.return_, 1) := by decide +kernel
theorem dX1_settle_0 : decode cX1_settle 0 = .ok (.iload_n 1, 1) := by decide +kernel
theorem dX1_settle_1 : decode cX1_settle 1 = .ok (.ifCond .lt 7, 3) := by decide +kernel
theorem dX1_settle_4 : decode cX1_settle 4 = .ok (.aload_n 0, 1) := by decide +kernel
theorem dX1_settle_5 : decode cX1_settle 5 = .ok (.invokevirtual 35, 3) := by decide +kernel
theorem dX1_settle_8 : decode cX1_settle 8 = .ok (.iload_n 1, 1) := by decide +kernel
theorem dX1_settle_9 : decode cX1_settle 9 = .ok (.ireturn, 1) := by decide +kernel
theorem dX1_bringBack_0 : decode cX1_bringBack 0 = .ok (.aload_n 0, 1) := by decide +kernel
theorem dX1_bringBack_1 : decode cX1_bringBack 1 = .ok (.getfield 18, 3) := by decide +kernel
theorem dX1_bringBack_4 : decode cX1_bringBack 4 = .ok (.ifCond .ne 5, 3) := by decide +kernel
theorem dX1_bringBack_7 : decode cX1_bringBack 7 = .ok (.iconst (-1), 1) := by decide +kernel
theorem dX1_bringBack_8 : decode cX1_bringBack 8 = .ok (.ireturn, 1) := by decide +kernel
theorem dX1_bringBack_9 : decode cX1_bringBack 9 = .ok (.aload_n 0, 1) := by decide +kernel
theorem dX1_bringBack_10 : decode cX1_bringBack 10 = .ok (.aload_n 0, 1) := by decide +kernel
theorem dX1_bringBack_11 : decode cX1_bringBack 11 = .ok (.getfield 22, 3) := by decide +kernel
theorem dX1_bringBack_14 : decode cX1_bringBack 14 = .ok (.iconst 1, 1) := by decide +kernel
theorem dX1_bringBack_15 : decode cX1_bringBack 15 = .ok (.isub, 1) := by decide +kernel
theorem dX1_bringBack_16 : decode cX1_bringBack 16 = .ok (.bipush 15, 2) := by decide +kernel
theorem dX1_bringBack_18 : decode cX1_bringBack 18 = .ok (.iand, 1) := by decide +kernel
theorem dX1_bringBack_19 : decode cX1_bringBack 19 = .ok (.putfield 22, 3) := by decide +kernel
theorem dX1_bringBack_22 : decode cX1_bringBack 22 = .ok (.aload_n 0, 1) := by decide +kernel
theorem dX1_bringBack_23 : decode cX1_bringBack 23 = .ok (.dup, 1) := by decide +kernel
theorem dX1_bringBack_24 : decode cX1_bringBack 24 = .ok (.getfield 18, 3) := by decide +kernel
theorem dX1_bringBack_27 : decode cX1_bringBack 27 = .ok (.iconst 1, 1) := by decide +kernel
theorem dX1_bringBack_28 : decode cX1_bringBack 28 = .ok (.isub, 1) := by decide +kernel
theorem dX1_bringBack_29 : decode cX1_bringBack 29 = .ok (.putfield 18, 3) := by decide +kernel
theorem dX1_bringBack_32 : decode cX1_bringBack 32 = .ok (.aload_n 1, 1) := by decide +kernel
theorem dX1_bringBack_33 : decode cX1_bringBack 33 = .ok (.aload_n 0, 1) := by decide +kernel
theorem dX1_bringBack_34 : decode cX1_bringBack 34 = .ok (.getfield 13, 3) := by decide +kernel
theorem dX1_bringBack_37 : decode cX1_bringBack 37 = .ok (.aload_n 0, 1) := by decide +kernel
theorem dX1_bringBack_38 : decode cX1_bringBack 38 = .ok (.getfield 22, 3) := by decide +kernel
theorem dX1_bringBack_41 : decode cX1_bringBack 41 = .ok (.aaload, 1) := by decide +kernel
theorem dX1_bringBack_42 : decode cX1_bringBack 42 = .ok (.invokevirtual 25, 3) := by decide +kernel
theorem dX1_bringBack_45 : decode cX1_bringBack 45 = .ok (.aload_n 0, 1) := by decide +kernel
theorem dX1_bringBack_46 : decode cX1_bringBack 46 = .ok (.getfield 18, 3) := by decide +kernel
theorem dX1_bringBack_49 : decode cX1_bringBack 49 = .ok (.ireturn, 1) := by decide +kernel
theorem dX2_init_0 : decode cX2_init 0 = .ok (.aload_n 0, 1) := by decide +kernel
theorem dX2_init_1 : decode cX2_init 1 = .ok (.invokespecial 3, 3) := by decide +kernel
theorem dX2_init_4 : decode cX2_init 4 = .ok (.aload_n 0, 1) := by decide +kernel
theorem dX2_init_5 : decode cX2_init 5 = .ok (.bipush 10, 2) := by decide +kernel
theorem dX2_init_7 : decode cX2_init 7 = .ok (.newarray .long, 2) := by decide +kernel
theorem dX2_init_9 : decode cX2_init 9 = .ok (.putfield 11, 3) := by decide +kernel
theorem dX2_init_12 : decode cX2_init 12 = .ok (.return_, 1) := by decide +kernel
theorem dX2_clear_0 : decode cX2_clear 0 = .ok (.aload_n 0, 1) := by decide +kernel
theorem dX2_clear_1 : decode cX2_clear 1 = .ok (.iconst 0, 1) := by decide +kernel
theorem dX2_clear_2 : decode cX2_clear 2 = .ok (.putfield 15, 3) := by decide +kernel
theorem dX2_clear_5 : decode cX2_clear 5 = .ok (.return_, 1) := by decide +kernel
theorem dX2_add_0 : decode cX2_add 0 = .ok (.aload_n 0, 1) := by decide +kernel
theorem dX2_add_1 : decode cX2_add 1 = .ok (.getfield 15, 3) := by decide +kernel
theorem dX2_add_4 : decode cX2_add 4 = .ok (.bipush 10, 2) := by decide +kernel
theorem dX2_add_6 : decode cX2_add 6 = .ok (.if_icmp .ge 23, 3) := by decide +kernel
theorem dX2_add_9 : decode cX2_add 9 = .ok (.aload_n 0, 1) := by decide +kernel
theorem dX2_add_10 : decode cX2_add 10 = .ok (.getfield 11, 3) := by decide +kernel
theorem dX2_add_13 : decode cX2_add 13 = .ok (.aload_n 0, 1) := by decide +kernel
theorem dX2_add_14 : decode cX2_add 14 = .ok (.getfield 15, 3) := by decide +kernel
theorem dX2_add_17 : decode cX2_add 17 = .ok (.lload_n 1, 1) := by decide +kernel
theorem dX2_add_18 : decode cX2_add 18 = .ok (.lastore, 1) := by decide +kernel
theorem dX2_add_19 : decode cX2_add 19 = .ok (.aload_n 0, 1) := by decide +kernel
theorem dX2_add_20 : decode cX2_add 20 = .ok (.dup, 1) := by decide +kernel
theorem dX2_add_21 : decode cX2_add 21 = .ok (.getfield 15, 3) := by decide +kernel
theorem dX2_add_24 : decode cX2_add 24 = .ok (.iconst 1, 1) := by decide +kernel
theorem dX2_add_25 : decode cX2_add 25 = .ok (.iadd, 1) := by decide +kernel
theorem dX2_add_26 : decode cX2_add 26 = .ok (.putfield 15, 3) := by decide +kernel
theorem dX2_add_29 : decode cX2_add 29 = .ok (.return_, 1) := by decide +kernel
theorem dX2_tell_0 : decode cX2_tell 0 = .ok (.aload_n 0, 1) := by decide +kernel
theorem dX2_tell_1 : decode cX2_tell 1 = .ok (.invokevirtual 19, 3) := by decide +kernel
theorem dX2_tell_4 : decode cX2_tell 4 = .ok (.aload_n 0, 1) := by decide +kernel
theorem dX2_tell_5 : decode cX2_tell 5 = .ok (.lload_n 1, 1) := by decide +kernel
theorem dX2_tell_6 : decode cX2_tell 6 = .ok (.invokevirtual 22, 3) := by decide +kernel
theorem dX2_tell_9 : decode cX2_tell 9 = .ok (.return_, 1) := by decide +kernel
theorem dX2_tell__0 : decode cX2_tell_ 0 = .ok (.aload_n 0, 1) := by decide +kernel
theorem dX2_tell__1 : decode cX2_tell_ 1 = .ok (.invokevirtual 19, 3) := by decide +kernel
theorem dX2_tell__4 : decode cX2_tell_ 4 = .ok (.aload_n 0, 1) := by decide +kernel
theorem dX2_tell__5 : decode cX2_tell_ 5 = .ok (.lload_n 1, 1) := by decide +kernel
theorem dX2_tell__6 : decode cX2_tell_ 6 = .ok (.invokevirtual 22, 3) := by decide +kernel
theorem dX2_tell__9 : decode cX2_tell_ 9 = .ok (.aload_n 0, 1) := by decide +kernel
theorem dX2_tell__10 : decode cX2_tell_ 10 = .ok (.lload_n 3, 1) := by decide +kernel
theorem dX2_tell__11 : decode cX2_tell_ 11 = .ok (.invokevirtual 22, 3) := by decide +kernel
theorem dX2_tell__14 : decode cX2_tell_ 14 = .ok (.return_, 1) := by decide +kernel
theorem dX3_init_0 : decode cX3_init 0 = .ok (.aload_n 0, 1) := by decide +kernel
theorem dX3_init_1 : decode cX3_init 1 = .ok (.invokespecial 5, 3) := by decide +kernel
theorem dX3_init_4 : decode cX3_init 4 = .ok (.aload_n 0, 1) := by decide +kernel
theorem dX3_init_5 : decode cX3_init 5 = .ok (.bipush 40, 2) := by decide +kernel
theorem dX3_init_7 : decode cX3_init 7 = .ok (.newarray .int, 2) := by decide +kernel
theorem dX3_init_9 : decode cX3_init 9 = .ok (.putfield 11, 3) := by decide +kernel
theorem dX3_init_12 : decode cX3_init 12 = .ok (.aload_n 0, 1) := by decide +kernel
theorem dX3_init_13 : decode cX3_init 13 = .ok (.bipush 40, 2) := by decide +kernel
theorem dX3_init_15 : decode cX3_init 15 = .ok (.newarray .int, 2) := by decide +kernel
theorem dX3_init_17 : decode cX3_init 17 = .ok (.putfield 15, 3) := by decide +kernel
theorem dX3_init_20 : decode cX3_init 20 = .ok (.aload_n 0, 1) := by decide +kernel
theorem dX3_init_21 : decode cX3_init 21 = .ok (.bipush 40, 2) := by decide +kernel
theorem dX3_init_23 : decode cX3_init 23 = .ok (.newarray .char, 2) := by decide +kernel
theorem dX3_init_25 : decode cX3_init 25 = .ok (.putfield 18, 3) := by decide +kernel
theorem dX3_init_28 : decode cX3_init 28 = .ok (.aload_n 0, 1) := by decide +kernel
theorem dX3_init_29 : decode cX3_init 29 = .ok (.getstatic 22, 3) := by decide +kernel
theorem dX3_init_32 : decode cX3_init 32 = .ok (.getstatic 22, 3) := by decide +kernel
theorem dX3_init_35 : decode cX3_init 35 = .ok (.arraylength, 1) := by decide +kernel
theorem dX3_init_36 : decode cX3_init 36 = .ok (.invokevirtual 25, 3) := by decide +kernel
theorem dX3_init_39 : decode cX3_init 39 = .ok (.pop, 1) := by decide +kernel
theorem dX3_init_40 : decode cX3_init 40 = .ok (.return_, 1) := by decide +kernel
theorem dX3_compile_0 : decode cX3_compile 0 = .ok (.aload_n 0, 1) := by decide +kernel
theorem dX3_compile_1 : decode cX3_compile 1 = .ok (.iconst 0, 1) := by decide +kernel
theorem dX3_compile_2 : decode cX3_compile 2 = .ok (.putfield 29, 3) := by decide +kernel
theorem dX3_compile_5 : decode cX3_compile 5 = .ok (.aload_n 0, 1) := by decide +kernel
theorem dX3_compile_6 : decode cX3_compile 6 = .ok (.iconst 0, 1) := by decide +kernel
theorem dX3_compile_7 : decode cX3_compile 7 = .ok (.putfield 33, 3) := by decide +kernel
theorem dX3_compile_10 : decode cX3_compile 10 = .ok (.aload_n 0, 1) := by decide +kernel
theorem dX3_compile_11 : decode cX3_compile 11 = .ok (.iconst 0, 1) := by decide +kernel
theorem dX3_compile_12 : decode cX3_compile 12 = .ok (.putfield 36, 3) := by decide +kernel
theorem dX3_compile_15 : decode cX3_compile 15 = .ok (.aload_n 0, 1) := by decide +kernel
theorem dX3_compile_16 : decode cX3_compile 16 = .ok (.iconst 0, 1) := by decide +kernel
theorem dX3_compile_17 : decode cX3_compile 17 = .ok (.putfield 39, 3) := by decide +kernel
theorem dX3_compile_20 : decode cX3_compile 20 = .ok (.aload_n 0, 1) := by decide +kernel
theorem dX3_compile_21 : decode cX3_compile 21 = .ok (.iconst 0, 1) := by decide +kernel
theorem dX3_compile_22 : decode cX3_compile 22 = .ok (.putfield 42, 3) := by decide +kernel
theorem dX3_compile_25 : decode cX3_compile 25 = .ok (.aload_n 0, 1) := by decide +kernel
theorem dX3_compile_26 : decode cX3_compile 26 = .ok (.iconst 1, 1) := by decide +kernel
theorem dX3_compile_27 : decode cX3_compile 27 = .ok (.putfield 45, 3) := by decide +kernel
theorem dX3_compile_30 : decode cX3_compile 30 = .ok (.iload_n 2, 1) := by decide +kernel
theorem dX3_compile_31 : decode cX3_compile 31 = .ok (.aload_n 1, 1) := by decide +kernel
theorem dX3_compile_32 : decode cX3_compile 32 = .ok (.arraylength, 1) := by decide +kernel
theorem dX3_compile_33 : decode cX3_compile 33 = .ok (.invokestatic 49, 3) := by decide +kernel
theorem dX3_compile_36 : decode cX3_compile 36 = .ok (.bipush 40, 2) := by decide +kernel
theorem dX3_compile_38 : decode cX3_compile 38 = .ok (.invokestatic 49, 3) := by decide +kernel
theorem dX3_compile_41 : decode cX3_compile 41 = .ok (.istore_n 3, 1) := by decide +kernel
theorem dX3_compile_42 : decode cX3_compile 42 = .ok (.iconst 0, 1) := by decide +kernel
theorem dX3_compile_43 : decode cX3_compile 43 = .ok (.istore 4, 2) := by decide +kernel
theorem dX3_compile_45 : decode cX3_compile 45 = .ok (.iload 4, 2) := by decide +kernel
theorem dX3_compile_47 : decode cX3_compile 47 = .ok (.iload_n 3, 1) := by decide +kernel
theorem dX3_compile_48 : decode cX3_compile 48 = .ok (.if_icmp .ge 45, 3) := by decide +kernel
theorem dX3_compile_51 : decode cX3_compile 51 = .ok (.aload_n 0, 1) := by decide +kernel
theorem dX3_compile_52 : decode cX3_compile 52 = .ok (.getfield 45, 3) := by decide +kernel
theorem dX3_compile_55 : decode cX3_compile 55 = .ok (.ifCond .eq 14, 3) := by decide +kernel
theorem dX3_compile_58 : decode cX3_compile 58 = .ok (.aload_n 0, 1) := by decide +kernel
theorem dX3_compile_59 : decode cX3_compile 59 = .ok (.aload_n 1, 1) := by decide +kernel
theorem dX3_compile_60 : decode cX3_compile 60 = .ok (.iload 4, 2) := by decide +kernel
theorem dX3_compile_62 : decode cX3_compile 62 = .ok (.caload, 1) := by decide +kernel
theorem dX3_compile_63 : decode cX3_compile 63 = .ok (.invokevirtual 55, 3) := by decide +kernel
theorem dX3_compile_66 : decode cX3_compile 66 = .ok (.goto 11, 3) := by decide +kernel
theorem dX3_compile_69 : decode cX3_compile 69 = .ok (.aload_n 0, 1) := by decide +kernel
theorem dX3_compile_70 : decode cX3_compile 70 = .ok (.aload_n 1, 1) := by decide +kernel
theorem dX3_compile_71 : decode cX3_compile 71 = .ok (.iload 4, 2) := by decide +kernel
theorem dX3_compile_73 : decode cX3_compile 73 = .ok (.caload, 1) := by decide +kernel
theorem dX3_compile_74 : decode cX3_compile 74 = .ok (.invokevirtual 59, 3) := by decide +kernel
theorem dX3_compile_77 : decode cX3_compile 77 = .ok (.istore 5, 2) := by decide +kernel
theorem dX3_compile_79 : decode cX3_compile 79 = .ok (.iload 5, 2) := by decide +kernel
theorem dX3_compile_81 : decode cX3_compile 81 = .ok (.ifCond .ne 6, 3) := by decide +kernel
theorem dX3_compile_84 : decode cX3_compile 84 = .ok (.iload 4, 2) := by decide +kernel
theorem dX3_compile_86 : decode cX3_compile 86 = .ok (.ireturn, 1) := by decide +kernel
theorem dX3_compile_87 : decode cX3_compile 87 = .ok (.iinc 4 1, 3) := by decide +kernel
theorem dX3_compile_90 : decode cX3_compile 90 = .ok (.goto (-45), 3) := by decide +kernel
theorem dX3_compile_93 : decode cX3_compile 93 = .ok (.iload_n 2, 1) := by decide +kernel
theorem dX3_compile_94 : decode cX3_compile 94 = .ok (.iload_n 3, 1) := by decide +kernel
theorem dX3_compile_95 : decode cX3_compile 95 = .ok (.if_icmp .gt 17, 3) := by decide +kernel
theorem dX3_compile_98 : decode cX3_compile 98 = .ok (.aload_n 0, 1) := by decide +kernel
theorem dX3_compile_99 : decode cX3_compile 99 = .ok (.getfield 45, 3) := by decide +kernel
theorem dX3_compile_102 : decode cX3_compile 102 = .ok (.ifCond .ne 10, 3) := by decide +kernel
theorem dX3_compile_105 : decode cX3_compile 105 = .ok (.aload_n 0, 1) := by decide +kernel
theorem dX3_compile_106 : decode cX3_compile 106 = .ok (.getfield 36, 3) := by decide +kernel
theorem dX3_compile_109 : decode cX3_compile 109 = .ok (.ifCond .le 5, 3) := by decide +kernel
theorem dX3_compile_112 : decode cX3_compile 112 = .ok (.iload_n 3, 1) := by decide +kernel
theorem dX3_compile_113 : decode cX3_compile 113 = .ok (.ireturn, 1) := by decide +kernel
theorem dX3_compile_114 : decode cX3_compile 114 = .ok (.aload_n 0, 1) := by decide +kernel
theorem dX3_compile_115 : decode cX3_compile 115 = .ok (.iconst 1, 1) := by decide +kernel
theorem dX3_compile_116 : decode cX3_compile 116 = .ok (.invokevirtual 62, 3) := by decide +kernel
theorem dX3_compile_119 : decode cX3_compile 119 = .ok (.iconst (-1), 1) := by decide +kernel
theorem dX3_compile_120 : decode cX3_compile 120 = .ok (.ireturn, 1) := by decide +kernel
theorem dX3_takeThing_0 : decode cX3_takeThing 0 = .ok (.iload_n 1, 1) := by decide +kernel
theorem dX3_takeThing_1 : decode cX3_takeThing 1 = .ok (.bipush 45, 2) := by decide +kernel
theorem dX3_takeThing_3 : decode cX3_takeThing 3 = .ok (.if_icmp .ne 11, 3) := by decide +kernel
theorem dX3_takeThing_6 : decode cX3_takeThing 6 = .ok (.aload_n 0, 1) := by decide +kernel
theorem dX3_takeThing_7 : decode cX3_takeThing 7 = .ok (.bipush 126, 2) := by decide +kernel
theorem dX3_takeThing_9 : decode cX3_takeThing 9 = .ok (.invokevirtual 66, 3) := by decide +kernel
theorem dX3_takeThing_12 : decode cX3_takeThing 12 = .ok (.iconst 1, 1) := by decide +kernel
theorem dX3_takeThing_13 : decode cX3_takeThing 13 = .ok (.ireturn, 1) := by decide +kernel
theorem dX3_takeThing_14 : decode cX3_takeThing 14 = .ok (.iload_n 1, 1) := by decide +kernel
theorem dX3_takeThing_15 : decode cX3_takeThing 15 = .ok (.bipush 40, 2) := by decide +kernel
theorem dX3_takeThing_17 : decode cX3_takeThing 17 = .ok (.if_icmp .ne 8, 3) := by decide +kernel
theorem dX3_takeThing_20 : decode cX3_takeThing 20 = .ok (.aload_n 0, 1) := by decide +kernel
theorem dX3_takeThing_21 : decode cX3_takeThing 21 = .ok (.invokevirtual 70, 3) := by decide +kernel
theorem dX3_takeThing_24 : decode cX3_takeThing 24 = .ok (.ireturn, 1) := by decide +kernel
theorem dX3_takeThing_25 : decode cX3_takeThing 25 = .ok (.iload_n 1, 1) := by decide +kernel
theorem dX3_takeThing_26 : decode cX3_takeThing 26 = .ok (.bipush 48, 2) := by decide +kernel
theorem dX3_takeThing_28 : decode cX3_takeThing 28 = .ok (.if_icmp .lt 29, 3) := by decide +kernel
theorem dX3_takeThing_31 : decode cX3_takeThing 31 = .ok (.iload_n 1, 1) := by decide +kernel
theorem dX3_takeThing_32 : decode cX3_takeThing 32 = .ok (.bipush 57, 2) := by decide +kernel
theorem dX3_takeThing_34 : decode cX3_takeThing 34 = .ok (.if_icmp .gt 23, 3) := by decide +kernel
theorem dX3_takeThing_37 : decode cX3_takeThing 37 = .ok (.aload_n 0, 1) := by decide +kernel
theorem dX3_takeThing_38 : decode cX3_takeThing 38 = .ok (.iload_n 1, 1) := by decide +kernel
theorem dX3_takeThing_39 : decode cX3_takeThing 39 = .ok (.bipush 48, 2) := by decide +kernel
theorem dX3_takeThing_41 : decode cX3_takeThing 41 = .ok (.isub, 1) := by decide +kernel
theorem dX3_takeThing_42 : decode cX3_takeThing 42 = .ok (.invokevirtual 74, 3) := by decide +kernel
theorem dX3_takeThing_45 : decode cX3_takeThing 45 = .ok (.aload_n 0, 1) := by decide +kernel
theorem dX3_takeThing_46 : decode cX3_takeThing 46 = .ok (.iconst 1, 1) := by decide +kernel
theorem dX3_takeThing_47 : decode cX3_takeThing 47 = .ok (.putfield 42, 3) := by decide +kernel
theorem dX3_takeThing_50 : decode cX3_takeThing 50 = .ok (.aload_n 0, 1) := by decide +kernel
theorem dX3_takeThing_51 : decode cX3_takeThing 51 = .ok (.iconst 0, 1) := by decide +kernel
theorem dX3_takeThing_52 : decode cX3_takeThing 52 = .ok (.putfield 45, 3) := by decide +kernel
theorem dX3_takeThing_55 : decode cX3_takeThing 55 = .ok (.iconst 1, 1) := by decide +kernel
theorem dX3_takeThing_56 : decode cX3_takeThing 56 = .ok (.ireturn, 1) := by decide +kernel
theorem dX3_takeThing_57 : decode cX3_takeThing 57 = .ok (.iconst 0, 1) := by decide +kernel
theorem dX3_takeThing_58 : decode cX3_takeThing 58 = .ok (.istore_n 2, 1) := by decide +kernel
theorem dX3_takeThing_59 : decode cX3_takeThing 59 = .ok (.iload_n 2, 1) := by decide +kernel
theorem dX3_takeThing_60 : decode cX3_takeThing 60 = .ok (.getstatic 77, 3) := by decide +kernel
theorem dX3_takeThing_63 : decode cX3_takeThing 63 = .ok (.arraylength, 1) := by decide +kernel
theorem dX3_takeThing_64 : decode cX3_takeThing 64 = .ok (.if_icmp .ge 34, 3) := by decide +kernel
theorem dX3_takeThing_67 : decode cX3_takeThing 67 = .ok (.getstatic 77, 3) := by decide +kernel
theorem dX3_takeThing_70 : decode cX3_takeThing 70 = .ok (.iload_n 2, 1) := by decide +kernel
theorem dX3_takeThing_71 : decode cX3_takeThing 71 = .ok (.caload, 1) := by decide +kernel
theorem dX3_takeThing_72 : decode cX3_takeThing 72 = .ok (.iload_n 1, 1) := by decide +kernel
theorem dX3_takeThing_73 : decode cX3_takeThing 73 = .ok (.if_icmp .ne 19, 3) := by decide +kernel
theorem dX3_takeThing_76 : decode cX3_takeThing 76 = .ok (.aload_n 0, 1) := by decide +kernel
theorem dX3_takeThing_77 : decode cX3_takeThing 77 = .ok (.sipush 1000, 3) := by decide +kernel
theorem dX3_takeThing_80 : decode cX3_takeThing 80 = .ok (.iload_n 2, 1) := by decide +kernel
theorem dX3_takeThing_81 : decode cX3_takeThing 81 = .ok (.iadd, 1) := by decide +kernel
theorem dX3_takeThing_82 : decode cX3_takeThing 82 = .ok (.invokevirtual 74, 3) := by decide +kernel
theorem dX3_takeThing_85 : decode cX3_takeThing 85 = .ok (.aload_n 0, 1) := by decide +kernel
theorem dX3_takeThing_86 : decode cX3_takeThing 86 = .ok (.iconst 0, 1) := by decide +kernel
theorem dX3_takeThing_87 : decode cX3_takeThing 87 = .ok (.putfield 45, 3) := by decide +kernel
theorem dX3_takeThing_90 : decode cX3_takeThing 90 = .ok (.iconst 1, 1) := by decide +kernel
theorem dX3_takeThing_91 : decode cX3_takeThing 91 = .ok (.ireturn, 1) := by decide +kernel
theorem dX3_takeThing_92 : decode cX3_takeThing 92 = .ok (.iinc 2 1, 3) := by decide +kernel
theorem dX3_takeThing_95 : decode cX3_takeThing 95 = .ok (.goto (-36), 3) := by decide +kernel
theorem dX3_takeThing_98 : decode cX3_takeThing 98 = .ok (.iconst 0, 1) := by decide +kernel
theorem dX3_takeThing_99 : decode cX3_takeThing 99 = .ok (.ireturn, 1) := by decide +kernel
theorem dX3_takeBehind_0 : decode cX3_takeBehind 0 = .ok (.iload_n 1, 1) := by decide +kernel
theorem dX3_takeBehind_1 : decode cX3_takeBehind 1 = .ok (.bipush 48, 2) := by decide +kernel
theorem dX3_takeBehind_3 : decode cX3_takeBehind 3 = .ok (.if_icmp .lt 18, 3) := by decide +kernel
theorem dX3_takeBehind_6 : decode cX3_takeBehind 6 = .ok (.iload_n 1, 1) := by decide +kernel
theorem dX3_takeBehind_7 : decode cX3_takeBehind 7 = .ok (.bipush 57, 2) := by decide +kernel
theorem dX3_takeBehind_9 : decode cX3_takeBehind 9 = .ok (.if_icmp .gt 12, 3) := by decide +kernel
theorem dX3_takeBehind_12 : decode cX3_takeBehind 12 = .ok (.aload_n 0, 1) := by decide +kernel
theorem dX3_takeBehind_13 : decode cX3_takeBehind 13 = .ok (.iload_n 1, 1) := by decide +kernel
theorem dX3_takeBehind_14 : decode cX3_takeBehind 14 = .ok (.bipush 48, 2) := by decide +kernel
theorem dX3_takeBehind_16 : decode cX3_takeBehind 16 = .ok (.isub, 1) := by decide +kernel
theorem dX3_takeBehind_17 : decode cX3_takeBehind 17 = .ok (.invokevirtual 80, 3) := by decide +kernel
theorem dX3_takeBehind_20 : decode cX3_takeBehind 20 = .ok (.ireturn, 1) := by decide +kernel
theorem dX3_takeBehind_21 : decode cX3_takeBehind 21 = .ok (.aload_n 0, 1) := by decide +kernel
theorem dX3_takeBehind_22 : decode cX3_takeBehind 22 = .ok (.iconst 0, 1) := by decide +kernel
theorem dX3_takeBehind_23 : decode cX3_takeBehind 23 = .ok (.putfield 42, 3) := by decide +kernel
theorem dX3_takeBehind_26 : decode cX3_takeBehind 26 = .ok (.iload_n 1, 1) := by decide +kernel
theorem dX3_takeBehind_27 : decode cX3_takeBehind 27 = .ok (.bipush 41, 2) := by decide +kernel
theorem dX3_takeBehind_29 : decode cX3_takeBehind 29 = .ok (.if_icmp .ne 8, 3) := by decide +kernel
theorem dX3_takeBehind_32 : decode cX3_takeBehind 32 = .ok (.aload_n 0, 1) := by decide +kernel
theorem dX3_takeBehind_33 : decode cX3_takeBehind 33 = .ok (.invokevirtual 84, 3) := by decide +kernel
theorem dX3_takeBehind_36 : decode cX3_takeBehind 36 = .ok (.ireturn, 1) := by decide +kernel
theorem dX3_takeBehind_37 : decode cX3_takeBehind 37 = .ok (.iload_n 1, 1) := by decide +kernel
theorem dX3_takeBehind_38 : decode cX3_takeBehind 38 = .ok (.invokestatic 87, 3) := by decide +kernel
theorem dX3_takeBehind_41 : decode cX3_takeBehind 41 = .ok (.istore_n 2, 1) := by decide +kernel
theorem dX3_takeBehind_42 : decode cX3_takeBehind 42 = .ok (.iload_n 2, 1) := by decide +kernel
theorem dX3_takeBehind_43 : decode cX3_takeBehind 43 = .ok (.iconst 1, 1) := by decide +kernel
theorem dX3_takeBehind_44 : decode cX3_takeBehind 44 = .ok (.if_icmp .lt 8, 3) := by decide +kernel
theorem dX3_takeBehind_47 : decode cX3_takeBehind 47 = .ok (.iload_n 2, 1) := by decide +kernel
theorem dX3_takeBehind_48 : decode cX3_takeBehind 48 = .ok (.iconst 3, 1) := by decide +kernel
theorem dX3_takeBehind_49 : decode cX3_takeBehind 49 = .ok (.if_icmp .le 5, 3) := by decide +kernel
theorem dX3_takeBehind_52 : decode cX3_takeBehind 52 = .ok (.iconst 0, 1) := by decide +kernel
theorem dX3_takeBehind_53 : decode cX3_takeBehind 53 = .ok (.ireturn, 1) := by decide +kernel
theorem dX3_takeBehind_54 : decode cX3_takeBehind 54 = .ok (.iload_n 2, 1) := by decide +kernel
theorem dX3_takeBehind_55 : decode cX3_takeBehind 55 = .ok (.iconst 1, 1) := by decide +kernel
theorem dX3_takeBehind_56 : decode cX3_takeBehind 56 = .ok (.if_icmp .ne 35, 3) := by decide +kernel
theorem dX3_takeBehind_59 : decode cX3_takeBehind 59 = .ok (.aload_n 0, 1) := by decide +kernel
theorem dX3_takeBehind_60 : decode cX3_takeBehind 60 = .ok (.getfield 39, 3) := by decide +kernel
theorem dX3_takeBehind_63 : decode cX3_takeBehind 63 = .ok (.aload_n 0, 1) := by decide +kernel
theorem dX3_takeBehind_64 : decode cX3_takeBehind 64 = .ok (.getfield 36, 3) := by decide +kernel
theorem dX3_takeBehind_67 : decode cX3_takeBehind 67 = .ok (.ishr, 1) := by decide +kernel
theorem dX3_takeBehind_68 : decode cX3_takeBehind 68 = .ok (.iconst 1, 1) := by decide +kernel
theorem dX3_takeBehind_69 : decode cX3_takeBehind 69 = .ok (.iand, 1) := by decide +kernel
theorem dX3_takeBehind_70 : decode cX3_takeBehind 70 = .ok (.iconst 1, 1) := by decide +kernel
theorem dX3_takeBehind_71 : decode cX3_takeBehind 71 = .ok (.if_icmp .ne 5, 3) := by decide +kernel
theorem dX3_takeBehind_74 : decode cX3_takeBehind 74 = .ok (.iconst 0, 1) := by decide +kernel
theorem dX3_takeBehind_75 : decode cX3_takeBehind 75 = .ok (.ireturn, 1) := by decide +kernel
theorem dX3_takeBehind_76 : decode cX3_takeBehind 76 = .ok (.aload_n 0, 1) := by decide +kernel
theorem dX3_takeBehind_77 : decode cX3_takeBehind 77 = .ok (.dup, 1) := by decide +kernel
theorem dX3_takeBehind_78 : decode cX3_takeBehind 78 = .ok (.getfield 39, 3) := by decide +kernel
theorem dX3_takeBehind_81 : decode cX3_takeBehind 81 = .ok (.iconst 1, 1) := by decide +kernel
theorem dX3_takeBehind_82 : decode cX3_takeBehind 82 = .ok (.aload_n 0, 1) := by decide +kernel
theorem dX3_takeBehind_83 : decode cX3_takeBehind 83 = .ok (.getfield 36, 3) := by decide +kernel
theorem dX3_takeBehind_86 : decode cX3_takeBehind 86 = .ok (.ishl, 1) := by decide +kernel
theorem dX3_takeBehind_87 : decode cX3_takeBehind 87 = .ok (.ior, 1) := by decide +kernel
theorem dX3_takeBehind_88 : decode cX3_takeBehind 88 = .ok (.putfield 39, 3) := by decide +kernel
theorem dX3_takeBehind_91 : decode cX3_takeBehind 91 = .ok (.aload_n 0, 1) := by decide +kernel
theorem dX3_takeBehind_92 : decode cX3_takeBehind 92 = .ok (.iload_n 2, 1) := by decide +kernel
theorem dX3_takeBehind_93 : decode cX3_takeBehind 93 = .ok (.invokevirtual 62, 3) := by decide +kernel
theorem dX3_takeBehind_96 : decode cX3_takeBehind 96 = .ok (.aload_n 0, 1) := by decide +kernel
theorem dX3_takeBehind_97 : decode cX3_takeBehind 97 = .ok (.iload_n 1, 1) := by decide +kernel
theorem dX3_takeBehind_98 : decode cX3_takeBehind 98 = .ok (.invokevirtual 66, 3) := by decide +kernel
theorem dX3_takeBehind_101 : decode cX3_takeBehind 101 = .ok (.aload_n 0, 1) := by decide +kernel
theorem dX3_takeBehind_102 : decode cX3_takeBehind 102 = .ok (.iconst 1, 1) := by decide +kernel
theorem dX3_takeBehind_103 : decode cX3_takeBehind 103 = .ok (.putfield 45, 3) := by decide +kernel
theorem dX3_takeBehind_106 : decode cX3_takeBehind 106 = .ok (.iconst 1, 1) := by decide +kernel
theorem dX3_takeBehind_107 : decode cX3_takeBehind 107 = .ok (.ireturn, 1) := by decide +kernel
theorem dX3_lengthen_0 : decode cX3_lengthen 0 = .ok (.aload_n 0, 1) := by decide +kernel
theorem dX3_lengthen_1 : decode cX3_lengthen 1 = .ok (.getfield 42, 3) := by decide +kernel
theorem dX3_lengthen_4 : decode cX3_lengthen 4 = .ok (.ifCond .eq 19, 3) := by decide +kernel
theorem dX3_lengthen_7 : decode cX3_lengthen 7 = .ok (.aload_n 0, 1) := by decide +kernel
theorem dX3_lengthen_8 : decode cX3_lengthen 8 = .ok (.getfield 42, 3) := by decide +kernel
theorem dX3_lengthen_11 : decode cX3_lengthen 11 = .ok (.iconst 3, 1) := by decide +kernel
theorem dX3_lengthen_12 : decode cX3_lengthen 12 = .ok (.if_icmp .eq 11, 3) := by decide +kernel
theorem dX3_lengthen_15 : decode cX3_lengthen 15 = .ok (.aload_n 0, 1) := by decide +kernel
theorem dX3_lengthen_16 : decode cX3_lengthen 16 = .ok (.getfield 29, 3) := by decide +kernel
theorem dX3_lengthen_19 : decode cX3_lengthen 19 = .ok (.iconst 1, 1) := by decide +kernel
theorem dX3_lengthen_20 : decode cX3_lengthen 20 = .ok (.if_icmp .ge 5, 3) := by decide +kernel
theorem dX3_lengthen_23 : decode cX3_lengthen 23 = .ok (.iconst 0, 1) := by decide +kernel
theorem dX3_lengthen_24 : decode cX3_lengthen 24 = .ok (.ireturn, 1) := by decide +kernel
theorem dX3_lengthen_25 : decode cX3_lengthen 25 = .ok (.aload_n 0, 1) := by decide +kernel
theorem dX3_lengthen_26 : decode cX3_lengthen 26 = .ok (.getfield 11, 3) := by decide +kernel
theorem dX3_lengthen_29 : decode cX3_lengthen 29 = .ok (.aload_n 0, 1) := by decide +kernel
theorem dX3_lengthen_30 : decode cX3_lengthen 30 = .ok (.getfield 29, 3) := by decide +kernel
theorem dX3_lengthen_33 : decode cX3_lengthen 33 = .ok (.iconst 1, 1) := by decide +kernel
theorem dX3_lengthen_34 : decode cX3_lengthen 34 = .ok (.isub, 1) := by decide +kernel
theorem dX3_lengthen_35 : decode cX3_lengthen 35 = .ok (.aload_n 0, 1) := by decide +kernel
theorem dX3_lengthen_36 : decode cX3_lengthen 36 = .ok (.getfield 11, 3) := by decide +kernel
theorem dX3_lengthen_39 : decode cX3_lengthen 39 = .ok (.aload_n 0, 1) := by decide +kernel
theorem dX3_lengthen_40 : decode cX3_lengthen 40 = .ok (.getfield 29, 3) := by decide +kernel
theorem dX3_lengthen_43 : decode cX3_lengthen 43 = .ok (.iconst 1, 1) := by decide +kernel
theorem dX3_lengthen_44 : decode cX3_lengthen 44 = .ok (.isub, 1) := by decide +kernel
theorem dX3_lengthen_45 : decode cX3_lengthen 45 = .ok (.iaload, 1) := by decide +kernel
theorem dX3_lengthen_46 : decode cX3_lengthen 46 = .ok (.bipush 10, 2) := by decide +kernel
theorem dX3_lengthen_48 : decode cX3_lengthen 48 = .ok (.imul, 1) := by decide +kernel
theorem dX3_lengthen_49 : decode cX3_lengthen 49 = .ok (.iload_n 1, 1) := by decide +kernel
theorem dX3_lengthen_50 : decode cX3_lengthen 50 = .ok (.iadd, 1) := by decide +kernel
theorem dX3_lengthen_51 : decode cX3_lengthen 51 = .ok (.iastore, 1) := by decide +kernel
theorem dX3_lengthen_52 : decode cX3_lengthen 52 = .ok (.aload_n 0, 1) := by decide +kernel
theorem dX3_lengthen_53 : decode cX3_lengthen 53 = .ok (.dup, 1) := by decide +kernel
theorem dX3_lengthen_54 : decode cX3_lengthen 54 = .ok (.getfield 42, 3) := by decide +kernel
theorem dX3_lengthen_57 : decode cX3_lengthen 57 = .ok (.iconst 1, 1) := by decide +kernel
theorem dX3_lengthen_58 : decode cX3_lengthen 58 = .ok (.iadd, 1) := by decide +kernel
theorem dX3_lengthen_59 : decode cX3_lengthen 59 = .ok (.putfield 42, 3) := by decide +kernel
theorem dX3_lengthen_62 : decode cX3_lengthen 62 = .ok (.iconst 1, 1) := by decide +kernel
theorem dX3_lengthen_63 : decode cX3_lengthen 63 = .ok (.ireturn, 1) := by decide +kernel
theorem dX3_open_0 : decode cX3_open 0 = .ok (.aload_n 0, 1) := by decide +kernel
theorem dX3_open_1 : decode cX3_open 1 = .ok (.getfield 36, 3) := by decide +kernel
theorem dX3_open_4 : decode cX3_open 4 = .ok (.iconst 4, 1) := by decide +kernel
theorem dX3_open_5 : decode cX3_open 5 = .ok (.if_icmp .ne 5, 3) := by decide +kernel
theorem dX3_open_8 : decode cX3_open 8 = .ok (.iconst 0, 1) := by decide +kernel
theorem dX3_open_9 : decode cX3_open 9 = .ok (.ireturn, 1) := by decide +kernel
theorem dX3_open_10 : decode cX3_open 10 = .ok (.aload_n 0, 1) := by decide +kernel
theorem dX3_open_11 : decode cX3_open 11 = .ok (.dup, 1) := by decide +kernel
theorem dX3_open_12 : decode cX3_open 12 = .ok (.getfield 36, 3) := by decide +kernel
theorem dX3_open_15 : decode cX3_open 15 = .ok (.iconst 1, 1) := by decide +kernel
theorem dX3_open_16 : decode cX3_open 16 = .ok (.iadd, 1) := by decide +kernel
theorem dX3_open_17 : decode cX3_open 17 = .ok (.putfield 36, 3) := by decide +kernel
theorem dX3_open_20 : decode cX3_open 20 = .ok (.aload_n 0, 1) := by decide +kernel
theorem dX3_open_21 : decode cX3_open 21 = .ok (.dup, 1) := by decide +kernel
theorem dX3_open_22 : decode cX3_open 22 = .ok (.getfield 39, 3) := by decide +kernel
theorem dX3_open_25 : decode cX3_open 25 = .ok (.iconst 1, 1) := by decide +kernel
theorem dX3_open_26 : decode cX3_open 26 = .ok (.aload_n 0, 1) := by decide +kernel
theorem dX3_open_27 : decode cX3_open 27 = .ok (.getfield 36, 3) := by decide +kernel
theorem dX3_open_30 : decode cX3_open 30 = .ok (.ishl, 1) := by decide +kernel
theorem dX3_open_31 : decode cX3_open 31 = .ok (.iconst (-1), 1) := by decide +kernel
theorem dX3_open_32 : decode cX3_open 32 = .ok (.ixor, 1) := by decide +kernel
theorem dX3_open_33 : decode cX3_open 33 = .ok (.iand, 1) := by decide +kernel
theorem dX3_open_34 : decode cX3_open 34 = .ok (.putfield 39, 3) := by decide +kernel
theorem dX3_open_37 : decode cX3_open 37 = .ok (.aload_n 0, 1) := by decide +kernel
theorem dX3_open_38 : decode cX3_open 38 = .ok (.bipush 40, 2) := by decide +kernel
theorem dX3_open_40 : decode cX3_open 40 = .ok (.invokevirtual 66, 3) := by decide +kernel
theorem dX3_open_43 : decode cX3_open 43 = .ok (.iconst 1, 1) := by decide +kernel
theorem dX3_open_44 : decode cX3_open 44 = .ok (.ireturn, 1) := by decide +kernel
theorem dX3_close_0 : decode cX3_close 0 = .ok (.aload_n 0, 1) := by decide +kernel
theorem dX3_close_1 : decode cX3_close 1 = .ok (.getfield 36, 3) := by decide +kernel
theorem dX3_close_4 : decode cX3_close 4 = .ok (.ifCond .ne 5, 3) := by decide +kernel
theorem dX3_close_7 : decode cX3_close 7 = .ok (.iconst 0, 1) := by decide +kernel
theorem dX3_close_8 : decode cX3_close 8 = .ok (.ireturn, 1) := by decide +kernel
theorem dX3_close_9 : decode cX3_close 9 = .ok (.aload_n 0, 1) := by decide +kernel
theorem dX3_close_10 : decode cX3_close 10 = .ok (.dup, 1) := by decide +kernel
theorem dX3_close_11 : decode cX3_close 11 = .ok (.getfield 36, 3) := by decide +kernel
theorem dX3_close_14 : decode cX3_close 14 = .ok (.iconst 1, 1) := by decide +kernel
theorem dX3_close_15 : decode cX3_close 15 = .ok (.isub, 1) := by decide +kernel
theorem dX3_close_16 : decode cX3_close 16 = .ok (.putfield 36, 3) := by decide +kernel
theorem dX3_close_19 : decode cX3_close 19 = .ok (.aload_n 0, 1) := by decide +kernel
theorem dX3_close_20 : decode cX3_close 20 = .ok (.iconst 1, 1) := by decide +kernel
theorem dX3_close_21 : decode cX3_close 21 = .ok (.invokevirtual 62, 3) := by decide +kernel
theorem dX3_close_24 : decode cX3_close 24 = .ok (.aload_n 0, 1) := by decide +kernel
theorem dX3_close_25 : decode cX3_close 25 = .ok (.aload_n 0, 1) := by decide +kernel
theorem dX3_close_26 : decode cX3_close 26 = .ok (.getfield 33, 3) := by decide +kernel
theorem dX3_close_29 : decode cX3_close 29 = .ok (.iconst 1, 1) := by decide +kernel
theorem dX3_close_30 : decode cX3_close 30 = .ok (.isub, 1) := by decide +kernel
theorem dX3_close_31 : decode cX3_close 31 = .ok (.iconst 0, 1) := by decide +kernel
theorem dX3_close_32 : decode cX3_close 32 = .ok (.invokestatic 91, 3) := by decide +kernel
theorem dX3_close_35 : decode cX3_close 35 = .ok (.putfield 33, 3) := by decide +kernel
theorem dX3_close_38 : decode cX3_close 38 = .ok (.iconst 1, 1) := by decide +kernel
theorem dX3_close_39 : decode cX3_close 39 = .ok (.ireturn, 1) := by decide +kernel
theorem dX3_strengthOf_0 : decode cX3_strengthOf 0 = .ok (.iload_n 0, 1) := by decide +kernel
theorem dX3_strengthOf_1 : decode cX3_strengthOf 1 = .ok (.lookupswitch 83 #[(42, 79), (43, 77), (45, 77), (47, 79), (60, 75), (61, 75), (62, 75), (126, 81)], 75) := by decide +kernel
theorem dX3_strengthOf_76 : decode cX3_strengthOf 76 = .ok (.iconst 1, 1) := by decide +kernel
theorem dX3_strengthOf_77 : decode cX3_strengthOf 77 = .ok (.ireturn, 1) := by decide +kernel
theorem dX3_strengthOf_78 : decode cX3_strengthOf 78 = .ok (.iconst 2, 1) := by decide +kernel
theorem dX3_strengthOf_79 : decode cX3_strengthOf 79 = .ok (.ireturn, 1) := by decide +kernel
theorem dX3_strengthOf_80 : decode cX3_strengthOf 80 = .ok (.iconst 3, 1) := by decide +kernel
theorem dX3_strengthOf_81 : decode cX3_strengthOf 81 = .ok (.ireturn, 1) := by decide +kernel
theorem dX3_strengthOf_82 : decode cX3_strengthOf 82 = .ok (.iconst 4, 1) := by decide +kernel
theorem dX3_strengthOf_83 : decode cX3_strengthOf 83 = .ok (.ireturn, 1) := by decide +kernel
theorem dX3_strengthOf_84 : decode cX3_strengthOf 84 = .ok (.iconst 0, 1) := by decide +kernel
theorem dX3_strengthOf_85 : decode cX3_strengthOf 85 = .ok (.ireturn, 1) := by decide +kernel
theorem dX3_hold_0 : decode cX3_hold 0 = .ok (.aload_n 0, 1) := by decide +kernel
theorem dX3_hold_1 : decode cX3_hold 1 = .ok (.getfield 33, 3) := by decide +kernel
theorem dX3_hold_4 : decode cX3_hold 4 = .ok (.bipush 40, 2) := by decide +kernel
theorem dX3_hold_6 : decode cX3_hold 6 = .ok (.if_icmp .ge 23, 3) := by decide +kernel
theorem dX3_hold_9 : decode cX3_hold 9 = .ok (.aload_n 0, 1) := by decide +kernel
theorem dX3_hold_10 : decode cX3_hold 10 = .ok (.getfield 18, 3) := by decide +kernel
theorem dX3_hold_13 : decode cX3_hold 13 = .ok (.aload_n 0, 1) := by decide +kernel
theorem dX3_hold_14 : decode cX3_hold 14 = .ok (.getfield 33, 3) := by decide +kernel
theorem dX3_hold_17 : decode cX3_hold 17 = .ok (.iload_n 1, 1) := by decide +kernel
theorem dX3_hold_18 : decode cX3_hold 18 = .ok (.castore, 1) := by decide +kernel
theorem dX3_hold_19 : decode cX3_hold 19 = .ok (.aload_n 0, 1) := by decide +kernel
theorem dX3_hold_20 : decode cX3_hold 20 = .ok (.dup, 1) := by decide +kernel
theorem dX3_hold_21 : decode cX3_hold 21 = .ok (.getfield 33, 3) := by decide +kernel
theorem dX3_hold_24 : decode cX3_hold 24 = .ok (.iconst 1, 1) := by decide +kernel
theorem dX3_hold_25 : decode cX3_hold 25 = .ok (.iadd, 1) := by decide +kernel
theorem dX3_hold_26 : decode cX3_hold 26 = .ok (.putfield 33, 3) := by decide +kernel
theorem dX3_hold_29 : decode cX3_hold 29 = .ok (.return_, 1) := by decide +kernel
theorem dX3_release_0 : decode cX3_release 0 = .ok (.aload_n 0, 1) := by decide +kernel
theorem dX3_release_1 : decode cX3_release 1 = .ok (.getfield 33, 3) := by decide +kernel
theorem dX3_release_4 : decode cX3_release 4 = .ok (.iconst 1, 1) := by decide +kernel
theorem dX3_release_5 : decode cX3_release 5 = .ok (.isub, 1) := by decide +kernel
theorem dX3_release_6 : decode cX3_release 6 = .ok (.istore_n 2, 1) := by decide +kernel
theorem dX3_release_7 : decode cX3_release 7 = .ok (.iload_n 2, 1) := by decide +kernel
theorem dX3_release_8 : decode cX3_release 8 = .ok (.ifCond .lt 41, 3) := by decide +kernel
theorem dX3_release_11 : decode cX3_release 11 = .ok (.aload_n 0, 1) := by decide +kernel
theorem dX3_release_12 : decode cX3_release 12 = .ok (.getfield 18, 3) := by decide +kernel
theorem dX3_release_15 : decode cX3_release 15 = .ok (.iload_n 2, 1) := by decide +kernel
theorem dX3_release_16 : decode cX3_release 16 = .ok (.caload, 1) := by decide +kernel
theorem dX3_release_17 : decode cX3_release 17 = .ok (.invokestatic 87, 3) := by decide +kernel
theorem dX3_release_20 : decode cX3_release 20 = .ok (.iload_n 1, 1) := by decide +kernel
theorem dX3_release_21 : decode cX3_release 21 = .ok (.if_icmp .lt 28, 3) := by decide +kernel
theorem dX3_release_24 : decode cX3_release 24 = .ok (.aload_n 0, 1) := by decide +kernel
theorem dX3_release_25 : decode cX3_release 25 = .ok (.sipush 1008, 3) := by decide +kernel
theorem dX3_release_28 : decode cX3_release 28 = .ok (.aload_n 0, 1) := by decide +kernel
theorem dX3_release_29 : decode cX3_release 29 = .ok (.getfield 18, 3) := by decide +kernel
theorem dX3_release_32 : decode cX3_release 32 = .ok (.iload_n 2, 1) := by decide +kernel
theorem dX3_release_33 : decode cX3_release 33 = .ok (.caload, 1) := by decide +kernel
theorem dX3_release_34 : decode cX3_release 34 = .ok (.iadd, 1) := by decide +kernel
theorem dX3_release_35 : decode cX3_release 35 = .ok (.invokevirtual 74, 3) := by decide +kernel
theorem dX3_release_38 : decode cX3_release 38 = .ok (.aload_n 0, 1) := by decide +kernel
theorem dX3_release_39 : decode cX3_release 39 = .ok (.iload_n 2, 1) := by decide +kernel
theorem dX3_release_40 : decode cX3_release 40 = .ok (.putfield 33, 3) := by decide +kernel
theorem dX3_release_43 : decode cX3_release 43 = .ok (.iinc 2 (-1), 3) := by decide +kernel
theorem dX3_release_46 : decode cX3_release 46 = .ok (.goto (-39), 3) := by decide +kernel
theorem dX3_release_49 : decode cX3_release 49 = .ok (.return_, 1) := by decide +kernel
theorem dX3_emit_0 : decode cX3_emit 0 = .ok (.aload_n 0, 1) := by decide +kernel
theorem dX3_emit_1 : decode cX3_emit 1 = .ok (.getfield 29, 3) := by decide +kernel
theorem dX3_emit_4 : decode cX3_emit 4 = .ok (.bipush 40, 2) := by decide +kernel
theorem dX3_emit_6 : decode cX3_emit 6 = .ok (.if_icmp .ge 23, 3) := by decide +kernel
theorem dX3_emit_9 : decode cX3_emit 9 = .ok (.aload_n 0, 1) := by decide +kernel
theorem dX3_emit_10 : decode cX3_emit 10 = .ok (.getfield 11, 3) := by decide +kernel
theorem dX3_emit_13 : decode cX3_emit 13 = .ok (.aload_n 0, 1) := by decide +kernel
theorem dX3_emit_14 : decode cX3_emit 14 = .ok (.getfield 29, 3) := by decide +kernel
theorem dX3_emit_17 : decode cX3_emit 17 = .ok (.iload_n 1, 1) := by decide +kernel
theorem dX3_emit_18 : decode cX3_emit 18 = .ok (.iastore, 1) := by decide +kernel
theorem dX3_emit_19 : decode cX3_emit 19 = .ok (.aload_n 0, 1) := by decide +kernel
theorem dX3_emit_20 : decode cX3_emit 20 = .ok (.dup, 1) := by decide +kernel
theorem dX3_emit_21 : decode cX3_emit 21 = .ok (.getfield 29, 3) := by decide +kernel
theorem dX3_emit_24 : decode cX3_emit 24 = .ok (.iconst 1, 1) := by decide +kernel
theorem dX3_emit_25 : decode cX3_emit 25 = .ok (.iadd, 1) := by decide +kernel
theorem dX3_emit_26 : decode cX3_emit 26 = .ok (.putfield 29, 3) := by decide +kernel
theorem dX3_emit_29 : decode cX3_emit 29 = .ok (.return_, 1) := by decide +kernel
theorem dX3_valueOf_0 : decode cX3_valueOf 0 = .ok (.iconst 0, 1) := by decide +kernel
theorem dX3_valueOf_1 : decode cX3_valueOf 1 = .ok (.istore_n 2, 1) := by decide +kernel
theorem dX3_valueOf_2 : decode cX3_valueOf 2 = .ok (.iconst 0, 1) := by decide +kernel
theorem dX3_valueOf_3 : decode cX3_valueOf 3 = .ok (.istore_n 3, 1) := by decide +kernel
theorem dX3_valueOf_4 : decode cX3_valueOf 4 = .ok (.iload_n 3, 1) := by decide +kernel
theorem dX3_valueOf_5 : decode cX3_valueOf 5 = .ok (.aload_n 0, 1) := by decide +kernel
theorem dX3_valueOf_6 : decode cX3_valueOf 6 = .ok (.getfield 29, 3) := by decide +kernel
theorem dX3_valueOf_9 : decode cX3_valueOf 9 = .ok (.if_icmp .ge 144, 3) := by decide +kernel
theorem dX3_valueOf_12 : decode cX3_valueOf 12 = .ok (.iload_n 2, 1) := by decide +kernel
theorem dX3_valueOf_13 : decode cX3_valueOf 13 = .ok (.bipush 40, 2) := by decide +kernel
theorem dX3_valueOf_15 : decode cX3_valueOf 15 = .ok (.if_icmp .ge 138, 3) := by decide +kernel
theorem dX3_valueOf_18 : decode cX3_valueOf 18 = .ok (.aload_n 0, 1) := by decide +kernel
theorem dX3_valueOf_19 : decode cX3_valueOf 19 = .ok (.getfield 11, 3) := by decide +kernel
theorem dX3_valueOf_22 : decode cX3_valueOf 22 = .ok (.iload_n 3, 1) := by decide +kernel
theorem dX3_valueOf_23 : decode cX3_valueOf 23 = .ok (.iaload, 1) := by decide +kernel
theorem dX3_valueOf_24 : decode cX3_valueOf 24 = .ok (.istore 4, 2) := by decide +kernel
theorem dX3_valueOf_26 : decode cX3_valueOf 26 = .ok (.iload 4, 2) := by decide +kernel
theorem dX3_valueOf_28 : decode cX3_valueOf 28 = .ok (.sipush 1000, 3) := by decide +kernel
theorem dX3_valueOf_31 : decode cX3_valueOf 31 = .ok (.if_icmp .ge 17, 3) := by decide +kernel
theorem dX3_valueOf_34 : decode cX3_valueOf 34 = .ok (.aload_n 0, 1) := by decide +kernel
theorem dX3_valueOf_35 : decode cX3_valueOf 35 = .ok (.getfield 15, 3) := by decide +kernel
theorem dX3_valueOf_38 : decode cX3_valueOf 38 = .ok (.iload_n 2, 1) := by decide +kernel
theorem dX3_valueOf_39 : decode cX3_valueOf 39 = .ok (.iload 4, 2) := by decide +kernel
theorem dX3_valueOf_41 : decode cX3_valueOf 41 = .ok (.iastore, 1) := by decide +kernel
theorem dX3_valueOf_42 : decode cX3_valueOf 42 = .ok (.iinc 2 1, 3) := by decide +kernel
theorem dX3_valueOf_45 : decode cX3_valueOf 45 = .ok (.goto 102, 3) := by decide +kernel
theorem dX3_valueOf_48 : decode cX3_valueOf 48 = .ok (.iload 4, 2) := by decide +kernel
theorem dX3_valueOf_50 : decode cX3_valueOf 50 = .ok (.sipush 1008, 3) := by decide +kernel
theorem dX3_valueOf_53 : decode cX3_valueOf 53 = .ok (.if_icmp .ge 23, 3) := by decide +kernel
theorem dX3_valueOf_56 : decode cX3_valueOf 56 = .ok (.aload_n 0, 1) := by decide +kernel
theorem dX3_valueOf_57 : decode cX3_valueOf 57 = .ok (.getfield 15, 3) := by decide +kernel
theorem dX3_valueOf_60 : decode cX3_valueOf 60 = .ok (.iload_n 2, 1) := by decide +kernel
theorem dX3_valueOf_61 : decode cX3_valueOf 61 = .ok (.aload_n 1, 1) := by decide +kernel
theorem dX3_valueOf_62 : decode cX3_valueOf 62 = .ok (.iload 4, 2) := by decide +kernel
theorem dX3_valueOf_64 : decode cX3_valueOf 64 = .ok (.sipush 1000, 3) := by decide +kernel
theorem dX3_valueOf_67 : decode cX3_valueOf 67 = .ok (.isub, 1) := by decide +kernel
theorem dX3_valueOf_68 : decode cX3_valueOf 68 = .ok (.iaload, 1) := by decide +kernel
theorem dX3_valueOf_69 : decode cX3_valueOf 69 = .ok (.iastore, 1) := by decide +kernel
theorem dX3_valueOf_70 : decode cX3_valueOf 70 = .ok (.iinc 2 1, 3) := by decide +kernel
theorem dX3_valueOf_73 : decode cX3_valueOf 73 = .ok (.goto 74, 3) := by decide +kernel
theorem dX3_valueOf_76 : decode cX3_valueOf 76 = .ok (.iload 4, 2) := by decide +kernel
theorem dX3_valueOf_78 : decode cX3_valueOf 78 = .ok (.sipush 1134, 3) := by decide +kernel
theorem dX3_valueOf_81 : decode cX3_valueOf 81 = .ok (.if_icmp .ne 27, 3) := by decide +kernel
theorem dX3_valueOf_84 : decode cX3_valueOf 84 = .ok (.iload_n 2, 1) := by decide +kernel
theorem dX3_valueOf_85 : decode cX3_valueOf 85 = .ok (.ifCond .le 62, 3) := by decide +kernel
theorem dX3_valueOf_88 : decode cX3_valueOf 88 = .ok (.aload_n 0, 1) := by decide +kernel
theorem dX3_valueOf_89 : decode cX3_valueOf 89 = .ok (.getfield 15, 3) := by decide +kernel
theorem dX3_valueOf_92 : decode cX3_valueOf 92 = .ok (.iload_n 2, 1) := by decide +kernel
theorem dX3_valueOf_93 : decode cX3_valueOf 93 = .ok (.iconst 1, 1) := by decide +kernel
theorem dX3_valueOf_94 : decode cX3_valueOf 94 = .ok (.isub, 1) := by decide +kernel
theorem dX3_valueOf_95 : decode cX3_valueOf 95 = .ok (.aload_n 0, 1) := by decide +kernel
theorem dX3_valueOf_96 : decode cX3_valueOf 96 = .ok (.getfield 15, 3) := by decide +kernel
theorem dX3_valueOf_99 : decode cX3_valueOf 99 = .ok (.iload_n 2, 1) := by decide +kernel
theorem dX3_valueOf_100 : decode cX3_valueOf 100 = .ok (.iconst 1, 1) := by decide +kernel
theorem dX3_valueOf_101 : decode cX3_valueOf 101 = .ok (.isub, 1) := by decide +kernel
theorem dX3_valueOf_102 : decode cX3_valueOf 102 = .ok (.iaload, 1) := by decide +kernel
theorem dX3_valueOf_103 : decode cX3_valueOf 103 = .ok (.ineg, 1) := by decide +kernel
theorem dX3_valueOf_104 : decode cX3_valueOf 104 = .ok (.iastore, 1) := by decide +kernel
theorem dX3_valueOf_105 : decode cX3_valueOf 105 = .ok (.goto 42, 3) := by decide +kernel
theorem dX3_valueOf_108 : decode cX3_valueOf 108 = .ok (.iload_n 2, 1) := by decide +kernel
theorem dX3_valueOf_109 : decode cX3_valueOf 109 = .ok (.iconst 1, 1) := by decide +kernel
theorem dX3_valueOf_110 : decode cX3_valueOf 110 = .ok (.if_icmp .le 37, 3) := by decide +kernel
theorem dX3_valueOf_113 : decode cX3_valueOf 113 = .ok (.iinc 2 (-1), 3) := by decide +kernel
theorem dX3_valueOf_116 : decode cX3_valueOf 116 = .ok (.aload_n 0, 1) := by decide +kernel
theorem dX3_valueOf_117 : decode cX3_valueOf 117 = .ok (.getfield 15, 3) := by decide +kernel
theorem dX3_valueOf_120 : decode cX3_valueOf 120 = .ok (.iload_n 2, 1) := by decide +kernel
theorem dX3_valueOf_121 : decode cX3_valueOf 121 = .ok (.iconst 1, 1) := by decide +kernel
theorem dX3_valueOf_122 : decode cX3_valueOf 122 = .ok (.isub, 1) := by decide +kernel
theorem dX3_valueOf_123 : decode cX3_valueOf 123 = .ok (.iload 4, 2) := by decide +kernel
theorem dX3_valueOf_125 : decode cX3_valueOf 125 = .ok (.sipush 1008, 3) := by decide +kernel
theorem dX3_valueOf_128 : decode cX3_valueOf 128 = .ok (.isub, 1) := by decide +kernel
theorem dX3_valueOf_129 : decode cX3_valueOf 129 = .ok (.aload_n 0, 1) := by decide +kernel
theorem dX3_valueOf_130 : decode cX3_valueOf 130 = .ok (.getfield 15, 3) := by decide +kernel
theorem dX3_valueOf_133 : decode cX3_valueOf 133 = .ok (.iload_n 2, 1) := by decide +kernel
theorem dX3_valueOf_134 : decode cX3_valueOf 134 = .ok (.iconst 1, 1) := by decide +kernel
theorem dX3_valueOf_135 : decode cX3_valueOf 135 = .ok (.isub, 1) := by decide +kernel
theorem dX3_valueOf_136 : decode cX3_valueOf 136 = .ok (.iaload, 1) := by decide +kernel
theorem dX3_valueOf_137 : decode cX3_valueOf 137 = .ok (.aload_n 0, 1) := by decide +kernel
theorem dX3_valueOf_138 : decode cX3_valueOf 138 = .ok (.getfield 15, 3) := by decide +kernel
theorem dX3_valueOf_141 : decode cX3_valueOf 141 = .ok (.iload_n 2, 1) := by decide +kernel
theorem dX3_valueOf_142 : decode cX3_valueOf 142 = .ok (.iaload, 1) := by decide +kernel
theorem dX3_valueOf_143 : decode cX3_valueOf 143 = .ok (.invokestatic 94, 3) := by decide +kernel
theorem dX3_valueOf_146 : decode cX3_valueOf 146 = .ok (.iastore, 1) := by decide +kernel
theorem dX3_valueOf_147 : decode cX3_valueOf 147 = .ok (.iinc 3 1, 3) := by decide +kernel
theorem dX3_valueOf_150 : decode cX3_valueOf 150 = .ok (.goto (-146), 3) := by decide +kernel
theorem dX3_valueOf_153 : decode cX3_valueOf 153 = .ok (.aload_n 0, 1) := by decide +kernel
theorem dX3_valueOf_154 : decode cX3_valueOf 154 = .ok (.getfield 15, 3) := by decide +kernel
theorem dX3_valueOf_157 : decode cX3_valueOf 157 = .ok (.iconst 0, 1) := by decide +kernel
theorem dX3_valueOf_158 : decode cX3_valueOf 158 = .ok (.iaload, 1) := by decide +kernel
theorem dX3_valueOf_159 : decode cX3_valueOf 159 = .ok (.ireturn, 1) := by decide +kernel
theorem dX3_combine_0 : decode cX3_combine 0 = .ok (.iload_n 0, 1) := by decide +kernel
theorem dX3_combine_1 : decode cX3_combine 1 = .ok (.lookupswitch 104 #[(42, 100), (43, 92), (45, 96), (60, 59), (61, 81), (62, 70)], 59) := by decide +kernel
theorem dX3_combine_60 : decode cX3_combine 60 = .ok (.iload_n 1, 1) := by decide +kernel
theorem dX3_combine_61 : decode cX3_combine 61 = .ok (.iload_n 2, 1) := by decide +kernel
theorem dX3_combine_62 : decode cX3_combine 62 = .ok (.if_icmp .ge 7, 3) := by decide +kernel
theorem dX3_combine_65 : decode cX3_combine 65 = .ok (.iconst 1, 1) := by decide +kernel
theorem dX3_combine_66 : decode cX3_combine 66 = .ok (.goto 4, 3) := by decide +kernel
theorem dX3_combine_69 : decode cX3_combine 69 = .ok (.iconst 0, 1) := by decide +kernel
theorem dX3_combine_70 : decode cX3_combine 70 = .ok (.ireturn, 1) := by decide +kernel
theorem dX3_combine_71 : decode cX3_combine 71 = .ok (.iload_n 1, 1) := by decide +kernel
theorem dX3_combine_72 : decode cX3_combine 72 = .ok (.iload_n 2, 1) := by decide +kernel
theorem dX3_combine_73 : decode cX3_combine 73 = .ok (.if_icmp .le 7, 3) := by decide +kernel
theorem dX3_combine_76 : decode cX3_combine 76 = .ok (.iconst 1, 1) := by decide +kernel
theorem dX3_combine_77 : decode cX3_combine 77 = .ok (.goto 4, 3) := by decide +kernel
theorem dX3_combine_80 : decode cX3_combine 80 = .ok (.iconst 0, 1) := by decide +kernel
theorem dX3_combine_81 : decode cX3_combine 81 = .ok (.ireturn, 1) := by decide +kernel
theorem dX3_combine_82 : decode cX3_combine 82 = .ok (.iload_n 1, 1) := by decide +kernel
theorem dX3_combine_83 : decode cX3_combine 83 = .ok (.iload_n 2, 1) := by decide +kernel
theorem dX3_combine_84 : decode cX3_combine 84 = .ok (.if_icmp .ne 7, 3) := by decide +kernel
theorem dX3_combine_87 : decode cX3_combine 87 = .ok (.iconst 1, 1) := by decide +kernel
theorem dX3_combine_88 : decode cX3_combine 88 = .ok (.goto 4, 3) := by decide +kernel
theorem dX3_combine_91 : decode cX3_combine 91 = .ok (.iconst 0, 1) := by decide +kernel
theorem dX3_combine_92 : decode cX3_combine 92 = .ok (.ireturn, 1) := by decide +kernel
theorem dX3_combine_93 : decode cX3_combine 93 = .ok (.iload_n 1, 1) := by decide +kernel
theorem dX3_combine_94 : decode cX3_combine 94 = .ok (.iload_n 2, 1) := by decide +kernel
theorem dX3_combine_95 : decode cX3_combine 95 = .ok (.iadd, 1) := by decide +kernel
theorem dX3_combine_96 : decode cX3_combine 96 = .ok (.ireturn, 1) := by decide +kernel
theorem dX3_combine_97 : decode cX3_combine 97 = .ok (.iload_n 1, 1) := by decide +kernel
theorem dX3_combine_98 : decode cX3_combine 98 = .ok (.iload_n 2, 1) := by decide +kernel
theorem dX3_combine_99 : decode cX3_combine 99 = .ok (.isub, 1) := by decide +kernel
theorem dX3_combine_100 : decode cX3_combine 100 = .ok (.ireturn, 1) := by decide +kernel
theorem dX3_combine_101 : decode cX3_combine 101 = .ok (.iload_n 1, 1) := by decide +kernel
theorem dX3_combine_102 : decode cX3_combine 102 = .ok (.iload_n 2, 1) := by decide +kernel
theorem dX3_combine_103 : decode cX3_combine 103 = .ok (.imul, 1) := by decide +kernel
theorem dX3_combine_104 : decode cX3_combine 104 = .ok (.ireturn, 1) := by decide +kernel
theorem dX3_combine_105 : decode cX3_combine 105 = .ok (.iload_n 2, 1) := by decide +kernel
theorem dX3_combine_106 : decode cX3_combine 106 = .ok (.ifCond .ne 7, 3) := by decide +kernel
theorem dX3_combine_109 : decode cX3_combine 109 = .ok (.iconst 0, 1) := by decide +kernel
theorem dX3_combine_110 : decode cX3_combine 110 = .ok (.goto 6, 3) := by decide +kernel
theorem dX3_combine_113 : decode cX3_combine 113 = .ok (.iload_n 1, 1) := by decide +kernel
theorem dX3_combine_114 : decode cX3_combine 114 = .ok (.iload_n 2, 1) := by decide +kernel
theorem dX3_combine_115 : decode cX3_combine 115 = .ok (.idiv, 1) := by decide +kernel
theorem dX3_combine_116 : decode cX3_combine 116 = .ok (.ireturn, 1) := by decide +kernel
theorem dX4_init_0 : decode cX4_init 0 = .ok (.aload_n 0, 1) := by decide +kernel
theorem dX4_init_1 : decode cX4_init 1 = .ok (.invokespecial 1, 3) := by decide +kernel
theorem dX4_init_4 : decode cX4_init 4 = .ok (.aload_n 0, 1) := by decide +kernel
theorem dX4_init_5 : decode cX4_init 5 = .ok (.iconst 3, 1) := by decide +kernel
theorem dX4_init_6 : decode cX4_init 6 = .ok (.anewarray 9, 3) := by decide +kernel
theorem dX4_init_9 : decode cX4_init 9 = .ok (.putfield 11, 3) := by decide +kernel
theorem dX4_init_12 : decode cX4_init 12 = .ok (.iconst 0, 1) := by decide +kernel
theorem dX4_init_13 : decode cX4_init 13 = .ok (.istore_n 1, 1) := by decide +kernel
theorem dX4_init_14 : decode cX4_init 14 = .ok (.iload_n 1, 1) := by decide +kernel
theorem dX4_init_15 : decode cX4_init 15 = .ok (.iconst 3, 1) := by decide +kernel
theorem dX4_init_16 : decode cX4_init 16 = .ok (.if_icmp .ge 22, 3) := by decide +kernel
theorem dX4_init_19 : decode cX4_init 19 = .ok (.aload_n 0, 1) := by decide +kernel
theorem dX4_init_20 : decode cX4_init 20 = .ok (.getfield 11, 3) := by decide +kernel
theorem dX4_init_23 : decode cX4_init 23 = .ok (.iload_n 1, 1) := by decide +kernel
theorem dX4_init_24 : decode cX4_init 24 = .ok (.new 9, 3) := by decide +kernel
theorem dX4_init_27 : decode cX4_init 27 = .ok (.dup, 1) := by decide +kernel
theorem dX4_init_28 : decode cX4_init 28 = .ok (.invokespecial 15, 3) := by decide +kernel
theorem dX4_init_31 : decode cX4_init 31 = .ok (.aastore, 1) := by decide +kernel
theorem dX4_init_32 : decode cX4_init 32 = .ok (.iinc 1 1, 3) := by decide +kernel
theorem dX4_init_35 : decode cX4_init 35 = .ok (.goto (-21), 3) := by decide +kernel
theorem dX4_init_38 : decode cX4_init 38 = .ok (.return_, 1) := by decide +kernel
theorem dX4_clear_0 : decode cX4_clear 0 = .ok (.aload_n 0, 1) := by decide +kernel
theorem dX4_clear_1 : decode cX4_clear 1 = .ok (.iconst 0, 1) := by decide +kernel
theorem dX4_clear_2 : decode cX4_clear 2 = .ok (.putfield 16, 3) := by decide +kernel
theorem dX4_clear_5 : decode cX4_clear 5 = .ok (.return_, 1) := by decide +kernel
theorem dX4_put_0 : decode cX4_put 0 = .ok (.iload_n 1, 1) := by decide +kernel
theorem dX4_put_1 : decode cX4_put 1 = .ok (.ifCond .lt 8, 3) := by decide +kernel
theorem dX4_put_4 : decode cX4_put 4 = .ok (.iload_n 1, 1) := by decide +kernel
theorem dX4_put_5 : decode cX4_put 5 = .ok (.iconst 3, 1) := by decide +kernel
theorem dX4_put_6 : decode cX4_put 6 = .ok (.if_icmp .lt 5, 3) := by decide +kernel
theorem dX4_put_9 : decode cX4_put 9 = .ok (.iconst 0, 1) := by decide +kernel
theorem dX4_put_10 : decode cX4_put 10 = .ok (.ireturn, 1) := by decide +kernel
theorem dX4_put_11 : decode cX4_put 11 = .ok (.aload_n 0, 1) := by decide +kernel
theorem dX4_put_12 : decode cX4_put 12 = .ok (.getfield 11, 3) := by decide +kernel
theorem dX4_put_15 : decode cX4_put 15 = .ok (.iload_n 1, 1) := by decide +kernel
theorem dX4_put_16 : decode cX4_put 16 = .ok (.aaload, 1) := by decide +kernel
theorem dX4_put_17 : decode cX4_put 17 = .ok (.aload_n 2, 1) := by decide +kernel
theorem dX4_put_18 : decode cX4_put 18 = .ok (.invokevirtual 20, 3) := by decide +kernel
theorem dX4_put_21 : decode cX4_put 21 = .ok (.aload_n 0, 1) := by decide +kernel
theorem dX4_put_22 : decode cX4_put 22 = .ok (.dup, 1) := by decide +kernel
theorem dX4_put_23 : decode cX4_put 23 = .ok (.getfield 16, 3) := by decide +kernel
theorem dX4_put_26 : decode cX4_put 26 = .ok (.iconst 1, 1) := by decide +kernel
theorem dX4_put_27 : decode cX4_put 27 = .ok (.iload_n 1, 1) := by decide +kernel
theorem dX4_put_28 : decode cX4_put 28 = .ok (.ishl, 1) := by decide +kernel
theorem dX4_put_29 : decode cX4_put 29 = .ok (.ior, 1) := by decide +kernel
theorem dX4_put_30 : decode cX4_put 30 = .ok (.putfield 16, 3) := by decide +kernel
theorem dX4_put_33 : decode cX4_put 33 = .ok (.iconst 1, 1) := by decide +kernel
theorem dX4_put_34 : decode cX4_put 34 = .ok (.ireturn, 1) := by decide +kernel
theorem dX4_fetch_0 : decode cX4_fetch 0 = .ok (.iload_n 1, 1) := by decide +kernel
theorem dX4_fetch_1 : decode cX4_fetch 1 = .ok (.ifCond .lt 19, 3) := by decide +kernel
theorem dX4_fetch_4 : decode cX4_fetch 4 = .ok (.iload_n 1, 1) := by decide +kernel
theorem dX4_fetch_5 : decode cX4_fetch 5 = .ok (.iconst 3, 1) := by decide +kernel
theorem dX4_fetch_6 : decode cX4_fetch 6 = .ok (.if_icmp .ge 14, 3) := by decide +kernel
theorem dX4_fetch_9 : decode cX4_fetch 9 = .ok (.aload_n 0, 1) := by decide +kernel
theorem dX4_fetch_10 : decode cX4_fetch 10 = .ok (.getfield 16, 3) := by decide +kernel
theorem dX4_fetch_13 : decode cX4_fetch 13 = .ok (.iload_n 1, 1) := by decide +kernel
theorem dX4_fetch_14 : decode cX4_fetch 14 = .ok (.ishr, 1) := by decide +kernel
theorem dX4_fetch_15 : decode cX4_fetch 15 = .ok (.iconst 1, 1) := by decide +kernel
theorem dX4_fetch_16 : decode cX4_fetch 16 = .ok (.iand, 1) := by decide +kernel
theorem dX4_fetch_17 : decode cX4_fetch 17 = .ok (.ifCond .ne 5, 3) := by decide +kernel
theorem dX4_fetch_20 : decode cX4_fetch 20 = .ok (.iconst 0, 1) := by decide +kernel
theorem dX4_fetch_21 : decode cX4_fetch 21 = .ok (.ireturn, 1) := by decide +kernel
theorem dX4_fetch_22 : decode cX4_fetch 22 = .ok (.aload_n 2, 1) := by decide +kernel
theorem dX4_fetch_23 : decode cX4_fetch 23 = .ok (.aload_n 0, 1) := by decide +kernel
theorem dX4_fetch_24 : decode cX4_fetch 24 = .ok (.getfield 11, 3) := by decide +kernel
theorem dX4_fetch_27 : decode cX4_fetch 27 = .ok (.iload_n 1, 1) := by decide +kernel
theorem dX4_fetch_28 : decode cX4_fetch 28 = .ok (.aaload, 1) := by decide +kernel
theorem dX4_fetch_29 : decode cX4_fetch 29 = .ok (.invokevirtual 20, 3) := by decide +kernel
theorem dX4_fetch_32 : decode cX4_fetch 32 = .ok (.iconst 1, 1) := by decide +kernel
theorem dX4_fetch_33 : decode cX4_fetch 33 = .ok (.ireturn, 1) := by decide +kernel
theorem dX5_init_0 : decode cX5_init 0 = .ok (.aload_n 0, 1) := by decide +kernel
theorem dX5_init_1 : decode cX5_init 1 = .ok (.invokespecial 3, 3) := by decide +kernel
theorem dX5_init_4 : decode cX5_init 4 = .ok (.aload_n 0, 1) := by decide +kernel
theorem dX5_init_5 : decode cX5_init 5 = .ok (.bipush 8, 2) := by decide +kernel
theorem dX5_init_7 : decode cX5_init 7 = .ok (.newarray .int, 2) := by decide +kernel
theorem dX5_init_9 : decode cX5_init 9 = .ok (.putfield 9, 3) := by decide +kernel
theorem dX5_init_12 : decode cX5_init 12 = .ok (.aload_n 0, 1) := by decide +kernel
theorem dX5_init_13 : decode cX5_init 13 = .ok (.bipush 8, 2) := by decide +kernel
theorem dX5_init_15 : decode cX5_init 15 = .ok (.newarray .int, 2) := by decide +kernel
theorem dX5_init_17 : decode cX5_init 17 = .ok (.putfield 15, 3) := by decide +kernel
theorem dX5_init_20 : decode cX5_init 20 = .ok (.aload_n 0, 1) := by decide +kernel
theorem dX5_init_21 : decode cX5_init 21 = .ok (.bipush 8, 2) := by decide +kernel
theorem dX5_init_23 : decode cX5_init 23 = .ok (.newarray .int, 2) := by decide +kernel
theorem dX5_init_25 : decode cX5_init 25 = .ok (.putfield 18, 3) := by decide +kernel
theorem dX5_init_28 : decode cX5_init 28 = .ok (.aload_n 0, 1) := by decide +kernel
theorem dX5_init_29 : decode cX5_init 29 = .ok (.bipush 8, 2) := by decide +kernel
theorem dX5_init_31 : decode cX5_init 31 = .ok (.newarray .int, 2) := by decide +kernel
theorem dX5_init_33 : decode cX5_init 33 = .ok (.putfield 21, 3) := by decide +kernel
theorem dX5_init_36 : decode cX5_init 36 = .ok (.aload_n 0, 1) := by decide +kernel
theorem dX5_init_37 : decode cX5_init 37 = .ok (.bipush 30, 2) := by decide +kernel
theorem dX5_init_39 : decode cX5_init 39 = .ok (.putfield 24, 3) := by decide +kernel
theorem dX5_init_42 : decode cX5_init 42 = .ok (.return_, 1) := by decide +kernel
theorem dX5_become_0 : decode cX5_become 0 = .ok (.iconst 0, 1) := by decide +kernel
theorem dX5_become_1 : decode cX5_become 1 = .ok (.istore_n 2, 1) := by decide +kernel
theorem dX5_become_2 : decode cX5_become 2 = .ok (.iload_n 2, 1) := by decide +kernel
theorem dX5_become_3 : decode cX5_become 3 = .ok (.bipush 8, 2) := by decide +kernel
theorem dX5_become_5 : decode cX5_become 5 = .ok (.if_icmp .ge 57, 3) := by decide +kernel
theorem dX5_become_8 : decode cX5_become 8 = .ok (.aload_n 0, 1) := by decide +kernel
theorem dX5_become_9 : decode cX5_become 9 = .ok (.getfield 9, 3) := by decide +kernel
theorem dX5_become_12 : decode cX5_become 12 = .ok (.iload_n 2, 1) := by decide +kernel
theorem dX5_become_13 : decode cX5_become 13 = .ok (.aload_n 1, 1) := by decide +kernel
theorem dX5_become_14 : decode cX5_become 14 = .ok (.getfield 9, 3) := by decide +kernel
theorem dX5_become_17 : decode cX5_become 17 = .ok (.iload_n 2, 1) := by decide +kernel
theorem dX5_become_18 : decode cX5_become 18 = .ok (.iaload, 1) := by decide +kernel
theorem dX5_become_19 : decode cX5_become 19 = .ok (.iastore, 1) := by decide +kernel
theorem dX5_become_20 : decode cX5_become 20 = .ok (.aload_n 0, 1) := by decide +kernel
theorem dX5_become_21 : decode cX5_become 21 = .ok (.getfield 15, 3) := by decide +kernel
theorem dX5_become_24 : decode cX5_become 24 = .ok (.iload_n 2, 1) := by decide +kernel
theorem dX5_become_25 : decode cX5_become 25 = .ok (.aload_n 1, 1) := by decide +kernel
theorem dX5_become_26 : decode cX5_become 26 = .ok (.getfield 15, 3) := by decide +kernel
theorem dX5_become_29 : decode cX5_become 29 = .ok (.iload_n 2, 1) := by decide +kernel
theorem dX5_become_30 : decode cX5_become 30 = .ok (.iaload, 1) := by decide +kernel
theorem dX5_become_31 : decode cX5_become 31 = .ok (.iastore, 1) := by decide +kernel
theorem dX5_become_32 : decode cX5_become 32 = .ok (.aload_n 0, 1) := by decide +kernel
theorem dX5_become_33 : decode cX5_become 33 = .ok (.getfield 18, 3) := by decide +kernel
theorem dX5_become_36 : decode cX5_become 36 = .ok (.iload_n 2, 1) := by decide +kernel
theorem dX5_become_37 : decode cX5_become 37 = .ok (.aload_n 1, 1) := by decide +kernel
theorem dX5_become_38 : decode cX5_become 38 = .ok (.getfield 18, 3) := by decide +kernel
theorem dX5_become_41 : decode cX5_become 41 = .ok (.iload_n 2, 1) := by decide +kernel
theorem dX5_become_42 : decode cX5_become 42 = .ok (.iaload, 1) := by decide +kernel
theorem dX5_become_43 : decode cX5_become 43 = .ok (.iastore, 1) := by decide +kernel
theorem dX5_become_44 : decode cX5_become 44 = .ok (.aload_n 0, 1) := by decide +kernel
theorem dX5_become_45 : decode cX5_become 45 = .ok (.getfield 21, 3) := by decide +kernel
theorem dX5_become_48 : decode cX5_become 48 = .ok (.iload_n 2, 1) := by decide +kernel
theorem dX5_become_49 : decode cX5_become 49 = .ok (.aload_n 1, 1) := by decide +kernel
theorem dX5_become_50 : decode cX5_become 50 = .ok (.getfield 21, 3) := by decide +kernel
theorem dX5_become_53 : decode cX5_become 53 = .ok (.iload_n 2, 1) := by decide +kernel
theorem dX5_become_54 : decode cX5_become 54 = .ok (.iaload, 1) := by decide +kernel
theorem dX5_become_55 : decode cX5_become 55 = .ok (.iastore, 1) := by decide +kernel
theorem dX5_become_56 : decode cX5_become 56 = .ok (.iinc 2 1, 3) := by decide +kernel
theorem dX5_become_59 : decode cX5_become 59 = .ok (.goto (-57), 3) := by decide +kernel
theorem dX5_become_62 : decode cX5_become 62 = .ok (.aload_n 0, 1) := by decide +kernel
theorem dX5_become_63 : decode cX5_become 63 = .ok (.aload_n 1, 1) := by decide +kernel
theorem dX5_become_64 : decode cX5_become 64 = .ok (.getfield 28, 3) := by decide +kernel
theorem dX5_become_67 : decode cX5_become 67 = .ok (.putfield 28, 3) := by decide +kernel
theorem dX5_become_70 : decode cX5_become 70 = .ok (.aload_n 0, 1) := by decide +kernel
theorem dX5_become_71 : decode cX5_become 71 = .ok (.aload_n 1, 1) := by decide +kernel
theorem dX5_become_72 : decode cX5_become 72 = .ok (.getfield 24, 3) := by decide +kernel
theorem dX5_become_75 : decode cX5_become 75 = .ok (.putfield 24, 3) := by decide +kernel
theorem dX5_become_78 : decode cX5_become 78 = .ok (.aload_n 0, 1) := by decide +kernel
theorem dX5_become_79 : decode cX5_become 79 = .ok (.aload_n 1, 1) := by decide +kernel
theorem dX5_become_80 : decode cX5_become 80 = .ok (.getfield 31, 3) := by decide +kernel
theorem dX5_become_83 : decode cX5_become 83 = .ok (.putfield 31, 3) := by decide +kernel
theorem dX5_become_86 : decode cX5_become 86 = .ok (.aload_n 0, 1) := by decide +kernel
theorem dX5_become_87 : decode cX5_become 87 = .ok (.aload_n 1, 1) := by decide +kernel
theorem dX5_become_88 : decode cX5_become 88 = .ok (.getfield 34, 3) := by decide +kernel
theorem dX5_become_91 : decode cX5_become 91 = .ok (.putfield 34, 3) := by decide +kernel
theorem dX5_become_94 : decode cX5_become 94 = .ok (.aload_n 0, 1) := by decide +kernel
theorem dX5_become_95 : decode cX5_become 95 = .ok (.aload_n 1, 1) := by decide +kernel
theorem dX5_become_96 : decode cX5_become 96 = .ok (.getfield 37, 3) := by decide +kernel
theorem dX5_become_99 : decode cX5_become 99 = .ok (.putfield 37, 3) := by decide +kernel
theorem dX5_become_102 : decode cX5_become 102 = .ok (.return_, 1) := by decide +kernel
theorem dX5_isGone_0 : decode cX5_isGone 0 = .ok (.aload_n 0, 1) := by decide +kernel
theorem dX5_isGone_1 : decode cX5_isGone 1 = .ok (.getfield 28, 3) := by decide +kernel
theorem dX5_isGone_4 : decode cX5_isGone 4 = .ok (.iload_n 1, 1) := by decide +kernel
theorem dX5_isGone_5 : decode cX5_isGone 5 = .ok (.ishr, 1) := by decide +kernel
theorem dX5_isGone_6 : decode cX5_isGone 6 = .ok (.iconst 1, 1) := by decide +kernel
theorem dX5_isGone_7 : decode cX5_isGone 7 = .ok (.iand, 1) := by decide +kernel
theorem dX5_isGone_8 : decode cX5_isGone 8 = .ok (.iconst 1, 1) := by decide +kernel
theorem dX5_isGone_9 : decode cX5_isGone 9 = .ok (.if_icmp .ne 7, 3) := by decide +kernel
theorem dX5_isGone_12 : decode cX5_isGone 12 = .ok (.iconst 1, 1) := by decide +kernel
theorem dX5_isGone_13 : decode cX5_isGone 13 = .ok (.goto 4, 3) := by decide +kernel
theorem dX5_isGone_16 : decode cX5_isGone 16 = .ok (.iconst 0, 1) := by decide +kernel
theorem dX5_isGone_17 : decode cX5_isGone 17 = .ok (.ireturn, 1) := by decide +kernel
theorem dX5_isTied_0 : decode cX5_isTied 0 = .ok (.aload_n 0, 1) := by decide +kernel
theorem dX5_isTied_1 : decode cX5_isTied 1 = .ok (.getfield 21, 3) := by decide +kernel
theorem dX5_isTied_4 : decode cX5_isTied 4 = .ok (.iload_n 1, 1) := by decide +kernel
theorem dX5_isTied_5 : decode cX5_isTied 5 = .ok (.iaload, 1) := by decide +kernel
theorem dX5_isTied_6 : decode cX5_isTied 6 = .ok (.iload_n 2, 1) := by decide +kernel
theorem dX5_isTied_7 : decode cX5_isTied 7 = .ok (.ishr, 1) := by decide +kernel
theorem dX5_isTied_8 : decode cX5_isTied 8 = .ok (.iconst 1, 1) := by decide +kernel
theorem dX5_isTied_9 : decode cX5_isTied 9 = .ok (.iand, 1) := by decide +kernel
theorem dX5_isTied_10 : decode cX5_isTied 10 = .ok (.iconst 1, 1) := by decide +kernel
theorem dX5_isTied_11 : decode cX5_isTied 11 = .ok (.if_icmp .ne 7, 3) := by decide +kernel
theorem dX5_isTied_14 : decode cX5_isTied 14 = .ok (.iconst 1, 1) := by decide +kernel
theorem dX5_isTied_15 : decode cX5_isTied 15 = .ok (.goto 4, 3) := by decide +kernel
theorem dX5_isTied_18 : decode cX5_isTied 18 = .ok (.iconst 0, 1) := by decide +kernel
theorem dX5_isTied_19 : decode cX5_isTied 19 = .ok (.ireturn, 1) := by decide +kernel
theorem dX5_toggle_0 : decode cX5_toggle 0 = .ok (.aload_n 0, 1) := by decide +kernel
theorem dX5_toggle_1 : decode cX5_toggle 1 = .ok (.getfield 21, 3) := by decide +kernel
theorem dX5_toggle_4 : decode cX5_toggle 4 = .ok (.iload_n 1, 1) := by decide +kernel
theorem dX5_toggle_5 : decode cX5_toggle 5 = .ok (.dup2, 1) := by decide +kernel
theorem dX5_toggle_6 : decode cX5_toggle 6 = .ok (.iaload, 1) := by decide +kernel
theorem dX5_toggle_7 : decode cX5_toggle 7 = .ok (.iconst 1, 1) := by decide +kernel
theorem dX5_toggle_8 : decode cX5_toggle 8 = .ok (.iload_n 2, 1) := by decide +kernel
theorem dX5_toggle_9 : decode cX5_toggle 9 = .ok (.ishl, 1) := by decide +kernel
theorem dX5_toggle_10 : decode cX5_toggle 10 = .ok (.ixor, 1) := by decide +kernel
theorem dX5_toggle_11 : decode cX5_toggle 11 = .ok (.iastore, 1) := by decide +kernel
theorem dX5_toggle_12 : decode cX5_toggle 12 = .ok (.aload_n 0, 1) := by decide +kernel
theorem dX5_toggle_13 : decode cX5_toggle 13 = .ok (.getfield 21, 3) := by decide +kernel
theorem dX5_toggle_16 : decode cX5_toggle 16 = .ok (.iload_n 2, 1) := by decide +kernel
theorem dX5_toggle_17 : decode cX5_toggle 17 = .ok (.dup2, 1) := by decide +kernel
theorem dX5_toggle_18 : decode cX5_toggle 18 = .ok (.iaload, 1) := by decide +kernel
theorem dX5_toggle_19 : decode cX5_toggle 19 = .ok (.iconst 1, 1) := by decide +kernel
theorem dX5_toggle_20 : decode cX5_toggle 20 = .ok (.iload_n 1, 1) := by decide +kernel
theorem dX5_toggle_21 : decode cX5_toggle 21 = .ok (.ishl, 1) := by decide +kernel
theorem dX5_toggle_22 : decode cX5_toggle 22 = .ok (.ixor, 1) := by decide +kernel
theorem dX5_toggle_23 : decode cX5_toggle 23 = .ok (.iastore, 1) := by decide +kernel
theorem dX5_toggle_24 : decode cX5_toggle 24 = .ok (.return_, 1) := by decide +kernel
theorem dX5_cutAll_0 : decode cX5_cutAll 0 = .ok (.iconst 0, 1) := by decide +kernel
theorem dX5_cutAll_1 : decode cX5_cutAll 1 = .ok (.istore_n 1, 1) := by decide +kernel
theorem dX5_cutAll_2 : decode cX5_cutAll 2 = .ok (.iload_n 1, 1) := by decide +kernel
theorem dX5_cutAll_3 : decode cX5_cutAll 3 = .ok (.bipush 8, 2) := by decide +kernel
theorem dX5_cutAll_5 : decode cX5_cutAll 5 = .ok (.if_icmp .ge 16, 3) := by decide +kernel
theorem dX5_cutAll_8 : decode cX5_cutAll 8 = .ok (.aload_n 0, 1) := by decide +kernel
theorem dX5_cutAll_9 : decode cX5_cutAll 9 = .ok (.getfield 21, 3) := by decide +kernel
theorem dX5_cutAll_12 : decode cX5_cutAll 12 = .ok (.iload_n 1, 1) := by decide +kernel
theorem dX5_cutAll_13 : decode cX5_cutAll 13 = .ok (.iconst 0, 1) := by decide +kernel
theorem dX5_cutAll_14 : decode cX5_cutAll 14 = .ok (.iastore, 1) := by decide +kernel
theorem dX5_cutAll_15 : decode cX5_cutAll 15 = .ok (.iinc 1 1, 3) := by decide +kernel
theorem dX5_cutAll_18 : decode cX5_cutAll 18 = .ok (.goto (-16), 3) := by decide +kernel
theorem dX5_cutAll_21 : decode cX5_cutAll 21 = .ok (.return_, 1) := by decide +kernel
theorem dX5_stringCount_0 : decode cX5_stringCount 0 = .ok (.iconst 0, 1) := by decide +kernel
theorem dX5_stringCount_1 : decode cX5_stringCount 1 = .ok (.istore_n 1, 1) := by decide +kernel
theorem dX5_stringCount_2 : decode cX5_stringCount 2 = .ok (.iconst 0, 1) := by decide +kernel
theorem dX5_stringCount_3 : decode cX5_stringCount 3 = .ok (.istore_n 2, 1) := by decide +kernel
theorem dX5_stringCount_4 : decode cX5_stringCount 4 = .ok (.iload_n 2, 1) := by decide +kernel
theorem dX5_stringCount_5 : decode cX5_stringCount 5 = .ok (.bipush 8, 2) := by decide +kernel
theorem dX5_stringCount_7 : decode cX5_stringCount 7 = .ok (.if_icmp .ge 21, 3) := by decide +kernel
theorem dX5_stringCount_10 : decode cX5_stringCount 10 = .ok (.iload_n 1, 1) := by decide +kernel
theorem dX5_stringCount_11 : decode cX5_stringCount 11 = .ok (.aload_n 0, 1) := by decide +kernel
theorem dX5_stringCount_12 : decode cX5_stringCount 12 = .ok (.getfield 21, 3) := by decide +kernel
theorem dX5_stringCount_15 : decode cX5_stringCount 15 = .ok (.iload_n 2, 1) := by decide +kernel
theorem dX5_stringCount_16 : decode cX5_stringCount 16 = .ok (.iaload, 1) := by decide +kernel
theorem dX5_stringCount_17 : decode cX5_stringCount 17 = .ok (.invokestatic 40, 3) := by decide +kernel
theorem dX5_stringCount_20 : decode cX5_stringCount 20 = .ok (.iadd, 1) := by decide +kernel
theorem dX5_stringCount_21 : decode cX5_stringCount 21 = .ok (.istore_n 1, 1) := by decide +kernel
theorem dX5_stringCount_22 : decode cX5_stringCount 22 = .ok (.iinc 2 1, 3) := by decide +kernel
theorem dX5_stringCount_25 : decode cX5_stringCount 25 = .ok (.goto (-21), 3) := by decide +kernel
theorem dX5_stringCount_28 : decode cX5_stringCount 28 = .ok (.iload_n 1, 1) := by decide +kernel
theorem dX5_stringCount_29 : decode cX5_stringCount 29 = .ok (.iconst 2, 1) := by decide +kernel
theorem dX5_stringCount_30 : decode cX5_stringCount 30 = .ok (.idiv, 1) := by decide +kernel
theorem dX5_stringCount_31 : decode cX5_stringCount 31 = .ok (.ireturn, 1) := by decide +kernel
theorem dX5_stonesOf_0 : decode cX5_stonesOf 0 = .ok (.iconst 0, 1) := by decide +kernel
theorem dX5_stonesOf_1 : decode cX5_stonesOf 1 = .ok (.istore_n 2, 1) := by decide +kernel
theorem dX5_stonesOf_2 : decode cX5_stonesOf 2 = .ok (.iconst 0, 1) := by decide +kernel
theorem dX5_stonesOf_3 : decode cX5_stonesOf 3 = .ok (.istore_n 3, 1) := by decide +kernel
theorem dX5_stonesOf_4 : decode cX5_stonesOf 4 = .ok (.iload_n 3, 1) := by decide +kernel
theorem dX5_stonesOf_5 : decode cX5_stonesOf 5 = .ok (.bipush 8, 2) := by decide +kernel
theorem dX5_stonesOf_7 : decode cX5_stonesOf 7 = .ok (.if_icmp .ge 27, 3) := by decide +kernel
theorem dX5_stonesOf_10 : decode cX5_stonesOf 10 = .ok (.iload_n 1, 1) := by decide +kernel
theorem dX5_stonesOf_11 : decode cX5_stonesOf 11 = .ok (.iload_n 3, 1) := by decide +kernel
theorem dX5_stonesOf_12 : decode cX5_stonesOf 12 = .ok (.ishr, 1) := by decide +kernel
theorem dX5_stonesOf_13 : decode cX5_stonesOf 13 = .ok (.iconst 1, 1) := by decide +kernel
theorem dX5_stonesOf_14 : decode cX5_stonesOf 14 = .ok (.iand, 1) := by decide +kernel
theorem dX5_stonesOf_15 : decode cX5_stonesOf 15 = .ok (.iconst 1, 1) := by decide +kernel
theorem dX5_stonesOf_16 : decode cX5_stonesOf 16 = .ok (.if_icmp .ne 12, 3) := by decide +kernel
theorem dX5_stonesOf_19 : decode cX5_stonesOf 19 = .ok (.iload_n 2, 1) := by decide +kernel
theorem dX5_stonesOf_20 : decode cX5_stonesOf 20 = .ok (.aload_n 0, 1) := by decide +kernel
theorem dX5_stonesOf_21 : decode cX5_stonesOf 21 = .ok (.getfield 9, 3) := by decide +kernel
theorem dX5_stonesOf_24 : decode cX5_stonesOf 24 = .ok (.iload_n 3, 1) := by decide +kernel
theorem dX5_stonesOf_25 : decode cX5_stonesOf 25 = .ok (.iaload, 1) := by decide +kernel
theorem dX5_stonesOf_26 : decode cX5_stonesOf 26 = .ok (.iadd, 1) := by decide +kernel
theorem dX5_stonesOf_27 : decode cX5_stonesOf 27 = .ok (.istore_n 2, 1) := by decide +kernel
theorem dX5_stonesOf_28 : decode cX5_stonesOf 28 = .ok (.iinc 3 1, 3) := by decide +kernel
theorem dX5_stonesOf_31 : decode cX5_stonesOf 31 = .ok (.goto (-27), 3) := by decide +kernel
theorem dX5_stonesOf_34 : decode cX5_stonesOf 34 = .ok (.iload_n 2, 1) := by decide +kernel
theorem dX5_stonesOf_35 : decode cX5_stonesOf 35 = .ok (.ireturn, 1) := by decide +kernel
theorem dX5_bundleOf_0 : decode cX5_bundleOf 0 = .ok (.iconst 1, 1) := by decide +kernel
theorem dX5_bundleOf_1 : decode cX5_bundleOf 1 = .ok (.iload_n 1, 1) := by decide +kernel
theorem dX5_bundleOf_2 : decode cX5_bundleOf 2 = .ok (.ishl, 1) := by decide +kernel
theorem dX5_bundleOf_3 : decode cX5_bundleOf 3 = .ok (.istore_n 2, 1) := by decide +kernel
theorem dX5_bundleOf_4 : decode cX5_bundleOf 4 = .ok (.iload_n 2, 1) := by decide +kernel
theorem dX5_bundleOf_5 : decode cX5_bundleOf 5 = .ok (.istore_n 3, 1) := by decide +kernel
theorem dX5_bundleOf_6 : decode cX5_bundleOf 6 = .ok (.iconst 0, 1) := by decide +kernel
theorem dX5_bundleOf_7 : decode cX5_bundleOf 7 = .ok (.istore 4, 2) := by decide +kernel
theorem dX5_bundleOf_9 : decode cX5_bundleOf 9 = .ok (.iload 4, 2) := by decide +kernel
theorem dX5_bundleOf_11 : decode cX5_bundleOf 11 = .ok (.bipush 8, 2) := by decide +kernel
theorem dX5_bundleOf_13 : decode cX5_bundleOf 13 = .ok (.if_icmp .ge 65, 3) := by decide +kernel
theorem dX5_bundleOf_16 : decode cX5_bundleOf 16 = .ok (.iload_n 3, 1) := by decide +kernel
theorem dX5_bundleOf_17 : decode cX5_bundleOf 17 = .ok (.ifCond .eq 61, 3) := by decide +kernel
theorem dX5_bundleOf_20 : decode cX5_bundleOf 20 = .ok (.iconst 0, 1) := by decide +kernel
theorem dX5_bundleOf_21 : decode cX5_bundleOf 21 = .ok (.istore 5, 2) := by decide +kernel
theorem dX5_bundleOf_23 : decode cX5_bundleOf 23 = .ok (.iconst 0, 1) := by decide +kernel
theorem dX5_bundleOf_24 : decode cX5_bundleOf 24 = .ok (.istore 6, 2) := by decide +kernel
theorem dX5_bundleOf_26 : decode cX5_bundleOf 26 = .ok (.iload 6, 2) := by decide +kernel
theorem dX5_bundleOf_28 : decode cX5_bundleOf 28 = .ok (.bipush 8, 2) := by decide +kernel
theorem dX5_bundleOf_30 : decode cX5_bundleOf 30 = .ok (.if_icmp .ge 31, 3) := by decide +kernel
theorem dX5_bundleOf_33 : decode cX5_bundleOf 33 = .ok (.iload_n 3, 1) := by decide +kernel
theorem dX5_bundleOf_34 : decode cX5_bundleOf 34 = .ok (.iload 6, 2) := by decide +kernel
theorem dX5_bundleOf_36 : decode cX5_bundleOf 36 = .ok (.ishr, 1) := by decide +kernel
theorem dX5_bundleOf_37 : decode cX5_bundleOf 37 = .ok (.iconst 1, 1) := by decide +kernel
theorem dX5_bundleOf_38 : decode cX5_bundleOf 38 = .ok (.iand, 1) := by decide +kernel
theorem dX5_bundleOf_39 : decode cX5_bundleOf 39 = .ok (.iconst 1, 1) := by decide +kernel
theorem dX5_bundleOf_40 : decode cX5_bundleOf 40 = .ok (.if_icmp .ne 15, 3) := by decide +kernel
theorem dX5_bundleOf_43 : decode cX5_bundleOf 43 = .ok (.iload 5, 2) := by decide +kernel
theorem dX5_bundleOf_45 : decode cX5_bundleOf 45 = .ok (.aload_n 0, 1) := by decide +kernel
theorem dX5_bundleOf_46 : decode cX5_bundleOf 46 = .ok (.getfield 21, 3) := by decide +kernel
theorem dX5_bundleOf_49 : decode cX5_bundleOf 49 = .ok (.iload 6, 2) := by decide +kernel
theorem dX5_bundleOf_51 : decode cX5_bundleOf 51 = .ok (.iaload, 1) := by decide +kernel
theorem dX5_bundleOf_52 : decode cX5_bundleOf 52 = .ok (.ior, 1) := by decide +kernel
theorem dX5_bundleOf_53 : decode cX5_bundleOf 53 = .ok (.istore 5, 2) := by decide +kernel
theorem dX5_bundleOf_55 : decode cX5_bundleOf 55 = .ok (.iinc 6 1, 3) := by decide +kernel
theorem dX5_bundleOf_58 : decode cX5_bundleOf 58 = .ok (.goto (-32), 3) := by decide +kernel
theorem dX5_bundleOf_61 : decode cX5_bundleOf 61 = .ok (.iload 5, 2) := by decide +kernel
theorem dX5_bundleOf_63 : decode cX5_bundleOf 63 = .ok (.iload_n 2, 1) := by decide +kernel
theorem dX5_bundleOf_64 : decode cX5_bundleOf 64 = .ok (.iconst (-1), 1) := by decide +kernel
theorem dX5_bundleOf_65 : decode cX5_bundleOf 65 = .ok (.ixor, 1) := by decide +kernel
theorem dX5_bundleOf_66 : decode cX5_bundleOf 66 = .ok (.iand, 1) := by decide +kernel
theorem dX5_bundleOf_67 : decode cX5_bundleOf 67 = .ok (.istore_n 3, 1) := by decide +kernel
theorem dX5_bundleOf_68 : decode cX5_bundleOf 68 = .ok (.iload_n 2, 1) := by decide +kernel
theorem dX5_bundleOf_69 : decode cX5_bundleOf 69 = .ok (.iload_n 3, 1) := by decide +kernel
theorem dX5_bundleOf_70 : decode cX5_bundleOf 70 = .ok (.ior, 1) := by decide +kernel
theorem dX5_bundleOf_71 : decode cX5_bundleOf 71 = .ok (.istore_n 2, 1) := by decide +kernel
theorem dX5_bundleOf_72 : decode cX5_bundleOf 72 = .ok (.iinc 4 1, 3) := by decide +kernel
theorem dX5_bundleOf_75 : decode cX5_bundleOf 75 = .ok (.goto (-66), 3) := by decide +kernel
theorem dX5_bundleOf_78 : decode cX5_bundleOf 78 = .ok (.iload_n 2, 1) := by decide +kernel
theorem dX5_bundleOf_79 : decode cX5_bundleOf 79 = .ok (.ireturn, 1) := by decide +kernel
theorem dX5_lose_0 : decode cX5_lose 0 = .ok (.aload_n 0, 1) := by decide +kernel
theorem dX5_lose_1 : decode cX5_lose 1 = .ok (.getfield 9, 3) := by decide +kernel
theorem dX5_lose_4 : decode cX5_lose 4 = .ok (.iload_n 1, 1) := by decide +kernel
theorem dX5_lose_5 : decode cX5_lose 5 = .ok (.iaload, 1) := by decide +kernel
theorem dX5_lose_6 : decode cX5_lose 6 = .ok (.istore_n 2, 1) := by decide +kernel
theorem dX5_lose_7 : decode cX5_lose 7 = .ok (.aload_n 0, 1) := by decide +kernel
theorem dX5_lose_8 : decode cX5_lose 8 = .ok (.aload_n 0, 1) := by decide +kernel
theorem dX5_lose_9 : decode cX5_lose 9 = .ok (.getfield 34, 3) := by decide +kernel
theorem dX5_lose_12 : decode cX5_lose 12 = .ok (.iload_n 2, 1) := by decide +kernel
theorem dX5_lose_13 : decode cX5_lose 13 = .ok (.iadd, 1) := by decide +kernel
theorem dX5_lose_14 : decode cX5_lose 14 = .ok (.sipush 999, 3) := by decide +kernel
theorem dX5_lose_17 : decode cX5_lose 17 = .ok (.invokestatic 46, 3) := by decide +kernel
theorem dX5_lose_20 : decode cX5_lose 20 = .ok (.putfield 34, 3) := by decide +kernel
theorem dX5_lose_23 : decode cX5_lose 23 = .ok (.aload_n 0, 1) := by decide +kernel
theorem dX5_lose_24 : decode cX5_lose 24 = .ok (.getfield 9, 3) := by decide +kernel
theorem dX5_lose_27 : decode cX5_lose 27 = .ok (.iload_n 1, 1) := by decide +kernel
theorem dX5_lose_28 : decode cX5_lose 28 = .ok (.iconst 0, 1) := by decide +kernel
theorem dX5_lose_29 : decode cX5_lose 29 = .ok (.iastore, 1) := by decide +kernel
theorem dX5_lose_30 : decode cX5_lose 30 = .ok (.aload_n 0, 1) := by decide +kernel
theorem dX5_lose_31 : decode cX5_lose 31 = .ok (.dup, 1) := by decide +kernel
theorem dX5_lose_32 : decode cX5_lose 32 = .ok (.getfield 28, 3) := by decide +kernel
theorem dX5_lose_35 : decode cX5_lose 35 = .ok (.iconst 1, 1) := by decide +kernel
theorem dX5_lose_36 : decode cX5_lose 36 = .ok (.iload_n 1, 1) := by decide +kernel
theorem dX5_lose_37 : decode cX5_lose 37 = .ok (.ishl, 1) := by decide +kernel
theorem dX5_lose_38 : decode cX5_lose 38 = .ok (.ior, 1) := by decide +kernel
theorem dX5_lose_39 : decode cX5_lose 39 = .ok (.putfield 28, 3) := by decide +kernel
theorem dX5_lose_42 : decode cX5_lose 42 = .ok (.iconst 0, 1) := by decide +kernel
theorem dX5_lose_43 : decode cX5_lose 43 = .ok (.istore_n 3, 1) := by decide +kernel
theorem dX5_lose_44 : decode cX5_lose 44 = .ok (.iload_n 3, 1) := by decide +kernel
theorem dX5_lose_45 : decode cX5_lose 45 = .ok (.bipush 8, 2) := by decide +kernel
theorem dX5_lose_47 : decode cX5_lose 47 = .ok (.if_icmp .ge 24, 3) := by decide +kernel
theorem dX5_lose_50 : decode cX5_lose 50 = .ok (.aload_n 0, 1) := by decide +kernel
theorem dX5_lose_51 : decode cX5_lose 51 = .ok (.iload_n 1, 1) := by decide +kernel
theorem dX5_lose_52 : decode cX5_lose 52 = .ok (.iload_n 3, 1) := by decide +kernel
theorem dX5_lose_53 : decode cX5_lose 53 = .ok (.invokevirtual 52, 3) := by decide +kernel
theorem dX5_lose_56 : decode cX5_lose 56 = .ok (.ifCond .eq 9, 3) := by decide +kernel
theorem dX5_lose_59 : decode cX5_lose 59 = .ok (.aload_n 0, 1) := by decide +kernel
theorem dX5_lose_60 : decode cX5_lose 60 = .ok (.iload_n 1, 1) := by decide +kernel
theorem dX5_lose_61 : decode cX5_lose 61 = .ok (.iload_n 3, 1) := by decide +kernel
theorem dX5_lose_62 : decode cX5_lose 62 = .ok (.invokevirtual 56, 3) := by decide +kernel
theorem dX5_lose_65 : decode cX5_lose 65 = .ok (.iinc 3 1, 3) := by decide +kernel
theorem dX5_lose_68 : decode cX5_lose 68 = .ok (.goto (-24), 3) := by decide +kernel
theorem dX5_lose_71 : decode cX5_lose 71 = .ok (.iload_n 2, 1) := by decide +kernel
theorem dX5_lose_72 : decode cX5_lose 72 = .ok (.ireturn, 1) := by decide +kernel
theorem dX6_init_0 : decode cX6_init 0 = .ok (.aload_n 0, 1) := by decide +kernel
theorem dX6_init_1 : decode cX6_init 1 = .ok (.invokespecial 3, 3) := by decide +kernel
theorem dX6_init_4 : decode cX6_init 4 = .ok (.aload_n 0, 1) := by decide +kernel
theorem dX6_init_5 : decode cX6_init 5 = .ok (.bipush 80, 2) := by decide +kernel
theorem dX6_init_7 : decode cX6_init 7 = .ok (.newarray .char, 2) := by decide +kernel
theorem dX6_init_9 : decode cX6_init 9 = .ok (.putfield 9, 3) := by decide +kernel
theorem dX6_init_12 : decode cX6_init 12 = .ok (.return_, 1) := by decide +kernel
theorem dX6_add_0 : decode cX6_add 0 = .ok (.aload_n 0, 1) := by decide +kernel
theorem dX6_add_1 : decode cX6_add 1 = .ok (.getfield 15, 3) := by decide +kernel
theorem dX6_add_4 : decode cX6_add 4 = .ok (.bipush 76, 2) := by decide +kernel
theorem dX6_add_6 : decode cX6_add 6 = .ok (.if_icmp .le 5, 3) := by decide +kernel
theorem dX6_add_9 : decode cX6_add 9 = .ok (.iconst (-1), 1) := by decide +kernel
theorem dX6_add_10 : decode cX6_add 10 = .ok (.ireturn, 1) := by decide +kernel
theorem dX6_add_11 : decode cX6_add 11 = .ok (.bipush 24, 2) := by decide +kernel
theorem dX6_add_13 : decode cX6_add 13 = .ok (.istore_n 2, 1) := by decide +kernel
theorem dX6_add_14 : decode cX6_add 14 = .ok (.iload_n 2, 1) := by decide +kernel
theorem dX6_add_15 : decode cX6_add 15 = .ok (.ifCond .lt 36, 3) := by decide +kernel
theorem dX6_add_18 : decode cX6_add 18 = .ok (.aload_n 0, 1) := by decide +kernel
theorem dX6_add_19 : decode cX6_add 19 = .ok (.getfield 9, 3) := by decide +kernel
theorem dX6_add_22 : decode cX6_add 22 = .ok (.aload_n 0, 1) := by decide +kernel
theorem dX6_add_23 : decode cX6_add 23 = .ok (.getfield 15, 3) := by decide +kernel
theorem dX6_add_26 : decode cX6_add 26 = .ok (.iload_n 1, 1) := by decide +kernel
theorem dX6_add_27 : decode cX6_add 27 = .ok (.iload_n 2, 1) := by decide +kernel
theorem dX6_add_28 : decode cX6_add 28 = .ok (.iushr, 1) := by decide +kernel
theorem dX6_add_29 : decode cX6_add 29 = .ok (.sipush 255, 3) := by decide +kernel
theorem dX6_add_32 : decode cX6_add 32 = .ok (.iand, 1) := by decide +kernel
theorem dX6_add_33 : decode cX6_add 33 = .ok (.i2c, 1) := by decide +kernel
theorem dX6_add_34 : decode cX6_add 34 = .ok (.castore, 1) := by decide +kernel
theorem dX6_add_35 : decode cX6_add 35 = .ok (.aload_n 0, 1) := by decide +kernel
theorem dX6_add_36 : decode cX6_add 36 = .ok (.dup, 1) := by decide +kernel
theorem dX6_add_37 : decode cX6_add 37 = .ok (.getfield 15, 3) := by decide +kernel
theorem dX6_add_40 : decode cX6_add 40 = .ok (.iconst 1, 1) := by decide +kernel
theorem dX6_add_41 : decode cX6_add 41 = .ok (.iadd, 1) := by decide +kernel
theorem dX6_add_42 : decode cX6_add 42 = .ok (.putfield 15, 3) := by decide +kernel
theorem dX6_add_45 : decode cX6_add 45 = .ok (.iinc 2 (-8), 3) := by decide +kernel
theorem dX6_add_48 : decode cX6_add 48 = .ok (.goto (-34), 3) := by decide +kernel
theorem dX6_add_51 : decode cX6_add 51 = .ok (.aload_n 0, 1) := by decide +kernel
theorem dX6_add_52 : decode cX6_add 52 = .ok (.getfield 15, 3) := by decide +kernel
theorem dX6_add_55 : decode cX6_add 55 = .ok (.ireturn, 1) := by decide +kernel
theorem dX6_cut_0 : decode cX6_cut 0 = .ok (.iload_n 1, 1) := by decide +kernel
theorem dX6_cut_1 : decode cX6_cut 1 = .ok (.ifCond .lt 11, 3) := by decide +kernel
theorem dX6_cut_4 : decode cX6_cut 4 = .ok (.iload_n 1, 1) := by decide +kernel
theorem dX6_cut_5 : decode cX6_cut 5 = .ok (.aload_n 0, 1) := by decide +kernel
theorem dX6_cut_6 : decode cX6_cut 6 = .ok (.getfield 15, 3) := by decide +kernel
theorem dX6_cut_9 : decode cX6_cut 9 = .ok (.if_icmp .le 5, 3) := by decide +kernel
theorem dX6_cut_12 : decode cX6_cut 12 = .ok (.iconst 0, 1) := by decide +kernel
theorem dX6_cut_13 : decode cX6_cut 13 = .ok (.ireturn, 1) := by decide +kernel
theorem dX6_cut_14 : decode cX6_cut 14 = .ok (.aload_n 0, 1) := by decide +kernel
theorem dX6_cut_15 : decode cX6_cut 15 = .ok (.iload_n 1, 1) := by decide +kernel
theorem dX6_cut_16 : decode cX6_cut 16 = .ok (.putfield 15, 3) := by decide +kernel
theorem dX6_cut_19 : decode cX6_cut 19 = .ok (.iconst 1, 1) := by decide +kernel
theorem dX6_cut_20 : decode cX6_cut 20 = .ok (.ireturn, 1) := by decide +kernel
theorem dX6_clear_0 : decode cX6_clear 0 = .ok (.aload_n 0, 1) := by decide +kernel
theorem dX6_clear_1 : decode cX6_clear 1 = .ok (.iconst 0, 1) := by decide +kernel
theorem dX6_clear_2 : decode cX6_clear 2 = .ok (.putfield 15, 3) := by decide +kernel
theorem dX6_clear_5 : decode cX6_clear 5 = .ok (.return_, 1) := by decide +kernel
theorem dX6_at_0 : decode cX6_at 0 = .ok (.iload_n 1, 1) := by decide +kernel
theorem dX6_at_1 : decode cX6_at 1 = .ok (.ifCond .lt 20, 3) := by decide +kernel
theorem dX6_at_4 : decode cX6_at 4 = .ok (.iload_n 1, 1) := by decide +kernel
theorem dX6_at_5 : decode cX6_at 5 = .ok (.aload_n 0, 1) := by decide +kernel
theorem dX6_at_6 : decode cX6_at 6 = .ok (.getfield 15, 3) := by decide +kernel
theorem dX6_at_9 : decode cX6_at 9 = .ok (.if_icmp .ge 12, 3) := by decide +kernel
theorem dX6_at_12 : decode cX6_at 12 = .ok (.aload_n 0, 1) := by decide +kernel
theorem dX6_at_13 : decode cX6_at 13 = .ok (.getfield 9, 3) := by decide +kernel
theorem dX6_at_16 : decode cX6_at 16 = .ok (.iload_n 1, 1) := by decide +kernel
theorem dX6_at_17 : decode cX6_at 17 = .ok (.caload, 1) := by decide +kernel
theorem dX6_at_18 : decode cX6_at 18 = .ok (.goto 4, 3) := by decide +kernel
theorem dX6_at_21 : decode cX6_at 21 = .ok (.iconst 0, 1) := by decide +kernel
theorem dX6_at_22 : decode cX6_at 22 = .ok (.ireturn, 1) := by decide +kernel
theorem dX6_digitAt_0 : decode cX6_digitAt 0 = .ok (.aload_n 0, 1) := by decide +kernel
theorem dX6_digitAt_1 : decode cX6_digitAt 1 = .ok (.iload_n 1, 1) := by decide +kernel
theorem dX6_digitAt_2 : decode cX6_digitAt 2 = .ok (.invokevirtual 19, 3) := by decide +kernel
theorem dX6_digitAt_5 : decode cX6_digitAt 5 = .ok (.istore_n 2, 1) := by decide +kernel
theorem dX6_digitAt_6 : decode cX6_digitAt 6 = .ok (.iload_n 2, 1) := by decide +kernel
theorem dX6_digitAt_7 : decode cX6_digitAt 7 = .ok (.bipush 48, 2) := by decide +kernel
theorem dX6_digitAt_9 : decode cX6_digitAt 9 = .ok (.if_icmp .lt 16, 3) := by decide +kernel
theorem dX6_digitAt_12 : decode cX6_digitAt 12 = .ok (.iload_n 2, 1) := by decide +kernel
theorem dX6_digitAt_13 : decode cX6_digitAt 13 = .ok (.bipush 57, 2) := by decide +kernel
theorem dX6_digitAt_15 : decode cX6_digitAt 15 = .ok (.if_icmp .gt 10, 3) := by decide +kernel
theorem dX6_digitAt_18 : decode cX6_digitAt 18 = .ok (.iload_n 2, 1) := by decide +kernel
theorem dX6_digitAt_19 : decode cX6_digitAt 19 = .ok (.bipush 48, 2) := by decide +kernel
theorem dX6_digitAt_21 : decode cX6_digitAt 21 = .ok (.isub, 1) := by decide +kernel
theorem dX6_digitAt_22 : decode cX6_digitAt 22 = .ok (.goto 4, 3) := by decide +kernel
theorem dX6_digitAt_25 : decode cX6_digitAt 25 = .ok (.iconst (-1), 1) := by decide +kernel
theorem dX6_digitAt_26 : decode cX6_digitAt 26 = .ok (.ireturn, 1) := by decide +kernel
theorem dX7_init_0 : decode cX7_init 0 = .ok (.aload_n 0, 1) := by decide +kernel
theorem dX7_init_1 : decode cX7_init 1 = .ok (.invokespecial 3, 3) := by decide +kernel
theorem dX7_init_4 : decode cX7_init 4 = .ok (.aload_n 0, 1) := by decide +kernel
theorem dX7_init_5 : decode cX7_init 5 = .ok (.bipush 10, 2) := by decide +kernel
theorem dX7_init_7 : decode cX7_init 7 = .ok (.newarray .int, 2) := by decide +kernel
theorem dX7_init_9 : decode cX7_init 9 = .ok (.putfield 11, 3) := by decide +kernel
theorem dX7_init_12 : decode cX7_init 12 = .ok (.aload_n 0, 1) := by decide +kernel
theorem dX7_init_13 : decode cX7_init 13 = .ok (.bipush 10, 2) := by decide +kernel
theorem dX7_init_15 : decode cX7_init 15 = .ok (.newarray .int, 2) := by decide +kernel
theorem dX7_init_17 : decode cX7_init 17 = .ok (.putfield 15, 3) := by decide +kernel
theorem dX7_init_20 : decode cX7_init 20 = .ok (.aload_n 0, 1) := by decide +kernel
theorem dX7_init_21 : decode cX7_init 21 = .ok (.bipush 10, 2) := by decide +kernel
theorem dX7_init_23 : decode cX7_init 23 = .ok (.newarray .int, 2) := by decide +kernel
theorem dX7_init_25 : decode cX7_init 25 = .ok (.putfield 18, 3) := by decide +kernel
theorem dX7_init_28 : decode cX7_init 28 = .ok (.aload_n 0, 1) := by decide +kernel
theorem dX7_init_29 : decode cX7_init 29 = .ok (.bipush 9, 2) := by decide +kernel
theorem dX7_init_31 : decode cX7_init 31 = .ok (.bipush 21, 2) := by decide +kernel
theorem dX7_init_33 : decode cX7_init 33 = .ok (.multianewarray 21 2, 4) := by decide +kernel
theorem dX7_init_37 : decode cX7_init 37 = .ok (.putfield 23, 3) := by decide +kernel
theorem dX7_init_40 : decode cX7_init 40 = .ok (.return_, 1) := by decide +kernel
theorem dX7_note_0 : decode cX7_note 0 = .ok (.aload_n 0, 1) := by decide +kernel
theorem dX7_note_1 : decode cX7_note 1 = .ok (.getfield 26, 3) := by decide +kernel
theorem dX7_note_4 : decode cX7_note 4 = .ok (.bipush 10, 2) := by decide +kernel
theorem dX7_note_6 : decode cX7_note 6 = .ok (.if_icmp .lt 5, 3) := by decide +kernel
theorem dX7_note_9 : decode cX7_note 9 = .ok (.iconst (-1), 1) := by decide +kernel
theorem dX7_note_10 : decode cX7_note 10 = .ok (.ireturn, 1) := by decide +kernel
theorem dX7_note_11 : decode cX7_note 11 = .ok (.aload_n 0, 1) := by decide +kernel
theorem dX7_note_12 : decode cX7_note 12 = .ok (.getfield 11, 3) := by decide +kernel
theorem dX7_note_15 : decode cX7_note 15 = .ok (.aload_n 0, 1) := by decide +kernel
theorem dX7_note_16 : decode cX7_note 16 = .ok (.getfield 26, 3) := by decide +kernel
theorem dX7_note_19 : decode cX7_note 19 = .ok (.iload_n 1, 1) := by decide +kernel
theorem dX7_note_20 : decode cX7_note 20 = .ok (.iastore, 1) := by decide +kernel
theorem dX7_note_21 : decode cX7_note 21 = .ok (.aload_n 0, 1) := by decide +kernel
theorem dX7_note_22 : decode cX7_note 22 = .ok (.getfield 15, 3) := by decide +kernel
theorem dX7_note_25 : decode cX7_note 25 = .ok (.aload_n 0, 1) := by decide +kernel
theorem dX7_note_26 : decode cX7_note 26 = .ok (.getfield 26, 3) := by decide +kernel
theorem dX7_note_29 : decode cX7_note 29 = .ok (.iload_n 2, 1) := by decide +kernel
theorem dX7_note_30 : decode cX7_note 30 = .ok (.iastore, 1) := by decide +kernel
theorem dX7_note_31 : decode cX7_note 31 = .ok (.aload_n 0, 1) := by decide +kernel
theorem dX7_note_32 : decode cX7_note 32 = .ok (.getfield 18, 3) := by decide +kernel
theorem dX7_note_35 : decode cX7_note 35 = .ok (.aload_n 0, 1) := by decide +kernel
theorem dX7_note_36 : decode cX7_note 36 = .ok (.getfield 26, 3) := by decide +kernel
theorem dX7_note_39 : decode cX7_note 39 = .ok (.iload_n 3, 1) := by decide +kernel
theorem dX7_note_40 : decode cX7_note 40 = .ok (.iastore, 1) := by decide +kernel
theorem dX7_note_41 : decode cX7_note 41 = .ok (.aload_n 0, 1) := by decide +kernel
theorem dX7_note_42 : decode cX7_note 42 = .ok (.dup, 1) := by decide +kernel
theorem dX7_note_43 : decode cX7_note 43 = .ok (.getfield 26, 3) := by decide +kernel
theorem dX7_note_46 : decode cX7_note 46 = .ok (.iconst 1, 1) := by decide +kernel
theorem dX7_note_47 : decode cX7_note 47 = .ok (.iadd, 1) := by decide +kernel
theorem dX7_note_48 : decode cX7_note 48 = .ok (.putfield 26, 3) := by decide +kernel
theorem dX7_note_51 : decode cX7_note 51 = .ok (.aload_n 0, 1) := by decide +kernel
theorem dX7_note_52 : decode cX7_note 52 = .ok (.getfield 26, 3) := by decide +kernel
theorem dX7_note_55 : decode cX7_note 55 = .ok (.ireturn, 1) := by decide +kernel
theorem dX7_look_0 : decode cX7_look 0 = .ok (.iload 4, 2) := by decide +kernel
theorem dX7_look_2 : decode cX7_look 2 = .ok (.ifCond .lt 10, 3) := by decide +kernel
theorem dX7_look_5 : decode cX7_look 5 = .ok (.iload 4, 2) := by decide +kernel
theorem dX7_look_7 : decode cX7_look 7 = .ok (.bipush 8, 2) := by decide +kernel
theorem dX7_look_9 : decode cX7_look 9 = .ok (.if_icmp .le 4, 3) := by decide +kernel
theorem dX7_look_12 : decode cX7_look 12 = .ok (.return_, 1) := by decide +kernel
theorem dX7_look_13 : decode cX7_look 13 = .ok (.aload_n 0, 1) := by decide +kernel
theorem dX7_look_14 : decode cX7_look 14 = .ok (.iload 4, 2) := by decide +kernel
theorem dX7_look_16 : decode cX7_look 16 = .ok (.putfield 30, 3) := by decide +kernel
theorem dX7_look_19 : decode cX7_look 19 = .ok (.aload_n 3, 1) := by decide +kernel
theorem dX7_look_20 : decode cX7_look 20 = .ok (.aload_n 2, 1) := by decide +kernel
theorem dX7_look_21 : decode cX7_look 21 = .ok (.invokevirtual 33, 3) := by decide +kernel
theorem dX7_look_24 : decode cX7_look 24 = .ok (.iload 4, 2) := by decide +kernel
theorem dX7_look_26 : decode cX7_look 26 = .ok (.bipush 8, 2) := by decide +kernel
theorem dX7_look_28 : decode cX7_look 28 = .ok (.if_icmp .ge 14, 3) := by decide +kernel
theorem dX7_look_31 : decode cX7_look 31 = .ok (.aload_n 3, 1) := by decide +kernel
theorem dX7_look_32 : decode cX7_look 32 = .ok (.getfield 39, 3) := by decide +kernel
theorem dX7_look_35 : decode cX7_look 35 = .ok (.iload 4, 2) := by decide +kernel
theorem dX7_look_37 : decode cX7_look 37 = .ok (.dup2, 1) := by decide +kernel
theorem dX7_look_38 : decode cX7_look 38 = .ok (.iaload, 1) := by decide +kernel
theorem dX7_look_39 : decode cX7_look 39 = .ok (.iconst 1, 1) := by decide +kernel
theorem dX7_look_40 : decode cX7_look 40 = .ok (.iadd, 1) := by decide +kernel
theorem dX7_look_41 : decode cX7_look 41 = .ok (.iastore, 1) := by decide +kernel
theorem dX7_look_42 : decode cX7_look 42 = .ok (.iconst 0, 1) := by decide +kernel
theorem dX7_look_43 : decode cX7_look 43 = .ok (.istore 5, 2) := by decide +kernel
theorem dX7_look_45 : decode cX7_look 45 = .ok (.iload 5, 2) := by decide +kernel
theorem dX7_look_47 : decode cX7_look 47 = .ok (.bipush 20, 2) := by decide +kernel
theorem dX7_look_49 : decode cX7_look 49 = .ok (.if_icmp .gt 44, 3) := by decide +kernel
theorem dX7_look_52 : decode cX7_look 52 = .ok (.aload_n 0, 1) := by decide +kernel
theorem dX7_look_53 : decode cX7_look 53 = .ok (.getfield 23, 3) := by decide +kernel
theorem dX7_look_56 : decode cX7_look 56 = .ok (.iload 4, 2) := by decide +kernel
theorem dX7_look_58 : decode cX7_look 58 = .ok (.aaload, 1) := by decide +kernel
theorem dX7_look_59 : decode cX7_look 59 = .ok (.iload 5, 2) := by decide +kernel
theorem dX7_look_61 : decode cX7_look 61 = .ok (.aload_n 1, 1) := by decide +kernel
theorem dX7_look_62 : decode cX7_look 62 = .ok (.aload_n 3, 1) := by decide +kernel
theorem dX7_look_63 : decode cX7_look 63 = .ok (.aload_n 1, 1) := by decide +kernel
theorem dX7_look_64 : decode cX7_look 64 = .ok (.getfield 42, 3) := by decide +kernel
theorem dX7_look_67 : decode cX7_look 67 = .ok (.invokevirtual 48, 3) := by decide +kernel
theorem dX7_look_70 : decode cX7_look 70 = .ok (.iastore, 1) := by decide +kernel
theorem dX7_look_71 : decode cX7_look 71 = .ok (.aload_n 1, 1) := by decide +kernel
theorem dX7_look_72 : decode cX7_look 72 = .ok (.aload_n 3, 1) := by decide +kernel
theorem dX7_look_73 : decode cX7_look 73 = .ok (.aload_n 0, 1) := by decide +kernel
theorem dX7_look_74 : decode cX7_look 74 = .ok (.getfield 23, 3) := by decide +kernel
theorem dX7_look_77 : decode cX7_look 77 = .ok (.iload 4, 2) := by decide +kernel
theorem dX7_look_79 : decode cX7_look 79 = .ok (.aaload, 1) := by decide +kernel
theorem dX7_look_80 : decode cX7_look 80 = .ok (.iload 5, 2) := by decide +kernel
theorem dX7_look_82 : decode cX7_look 82 = .ok (.iaload, 1) := by decide +kernel
theorem dX7_look_83 : decode cX7_look 83 = .ok (.invokevirtual 51, 3) := by decide +kernel
theorem dX7_look_86 : decode cX7_look 86 = .ok (.pop, 1) := by decide +kernel
theorem dX7_look_87 : decode cX7_look 87 = .ok (.iinc 5 1, 3) := by decide +kernel
theorem dX7_look_90 : decode cX7_look 90 = .ok (.goto (-45), 3) := by decide +kernel
theorem dX7_look_93 : decode cX7_look 93 = .ok (.return_, 1) := by decide +kernel
theorem dX7_agrees_0 : decode cX7_agrees 0 = .ok (.iconst 0, 1) := by decide +kernel
theorem dX7_agrees_1 : decode cX7_agrees 1 = .ok (.istore_n 1, 1) := by decide +kernel
theorem dX7_agrees_2 : decode cX7_agrees 2 = .ok (.iload_n 1, 1) := by decide +kernel
theorem dX7_agrees_3 : decode cX7_agrees 3 = .ok (.aload_n 0, 1) := by decide +kernel
theorem dX7_agrees_4 : decode cX7_agrees 4 = .ok (.getfield 26, 3) := by decide +kernel
theorem dX7_agrees_7 : decode cX7_agrees 7 = .ok (.if_icmp .ge 47, 3) := by decide +kernel
theorem dX7_agrees_10 : decode cX7_agrees 10 = .ok (.aload_n 0, 1) := by decide +kernel
theorem dX7_agrees_11 : decode cX7_agrees 11 = .ok (.getfield 23, 3) := by decide +kernel
theorem dX7_agrees_14 : decode cX7_agrees 14 = .ok (.aload_n 0, 1) := by decide +kernel
theorem dX7_agrees_15 : decode cX7_agrees 15 = .ok (.getfield 30, 3) := by decide +kernel
theorem dX7_agrees_18 : decode cX7_agrees 18 = .ok (.aaload, 1) := by decide +kernel
theorem dX7_agrees_19 : decode cX7_agrees 19 = .ok (.aload_n 0, 1) := by decide +kernel
theorem dX7_agrees_20 : decode cX7_agrees 20 = .ok (.getfield 15, 3) := by decide +kernel
theorem dX7_agrees_23 : decode cX7_agrees 23 = .ok (.iload_n 1, 1) := by decide +kernel
theorem dX7_agrees_24 : decode cX7_agrees 24 = .ok (.iaload, 1) := by decide +kernel
theorem dX7_agrees_25 : decode cX7_agrees 25 = .ok (.iaload, 1) := by decide +kernel
theorem dX7_agrees_26 : decode cX7_agrees 26 = .ok (.aload_n 0, 1) := by decide +kernel
theorem dX7_agrees_27 : decode cX7_agrees 27 = .ok (.getfield 11, 3) := by decide +kernel
theorem dX7_agrees_30 : decode cX7_agrees 30 = .ok (.iload_n 1, 1) := by decide +kernel
theorem dX7_agrees_31 : decode cX7_agrees 31 = .ok (.iaload, 1) := by decide +kernel
theorem dX7_agrees_32 : decode cX7_agrees 32 = .ok (.ishr, 1) := by decide +kernel
theorem dX7_agrees_33 : decode cX7_agrees 33 = .ok (.iconst 1, 1) := by decide +kernel
theorem dX7_agrees_34 : decode cX7_agrees 34 = .ok (.iand, 1) := by decide +kernel
theorem dX7_agrees_35 : decode cX7_agrees 35 = .ok (.istore_n 2, 1) := by decide +kernel
theorem dX7_agrees_36 : decode cX7_agrees 36 = .ok (.iload_n 2, 1) := by decide +kernel
theorem dX7_agrees_37 : decode cX7_agrees 37 = .ok (.aload_n 0, 1) := by decide +kernel
theorem dX7_agrees_38 : decode cX7_agrees 38 = .ok (.getfield 18, 3) := by decide +kernel
theorem dX7_agrees_41 : decode cX7_agrees 41 = .ok (.iload_n 1, 1) := by decide +kernel
theorem dX7_agrees_42 : decode cX7_agrees 42 = .ok (.iaload, 1) := by decide +kernel
theorem dX7_agrees_43 : decode cX7_agrees 43 = .ok (.if_icmp .eq 5, 3) := by decide +kernel
theorem dX7_agrees_46 : decode cX7_agrees 46 = .ok (.iconst 0, 1) := by decide +kernel
theorem dX7_agrees_47 : decode cX7_agrees 47 = .ok (.ireturn, 1) := by decide +kernel
theorem dX7_agrees_48 : decode cX7_agrees 48 = .ok (.iinc 1 1, 3) := by decide +kernel
theorem dX7_agrees_51 : decode cX7_agrees 51 = .ok (.goto (-49), 3) := by decide +kernel
theorem dX7_agrees_54 : decode cX7_agrees 54 = .ok (.iconst 1, 1) := by decide +kernel
theorem dX7_agrees_55 : decode cX7_agrees 55 = .ok (.ireturn, 1) := by decide +kernel
theorem dX7_countFloating_0 : decode cX7_countFloating 0 = .ok (.iconst 0, 1) := by decide +kernel
theorem dX7_countFloating_1 : decode cX7_countFloating 1 = .ok (.istore 4, 2) := by decide +kernel
theorem dX7_countFloating_3 : decode cX7_countFloating 3 = .ok (.iconst 0, 1) := by decide +kernel
theorem dX7_countFloating_4 : decode cX7_countFloating 4 = .ok (.istore 5, 2) := by decide +kernel
theorem dX7_countFloating_6 : decode cX7_countFloating 6 = .ok (.iload 5, 2) := by decide +kernel
theorem dX7_countFloating_8 : decode cX7_countFloating 8 = .ok (.bipush 8, 2) := by decide +kernel
theorem dX7_countFloating_10 : decode cX7_countFloating 10 = .ok (.if_icmp .ge 37, 3) := by decide +kernel
theorem dX7_countFloating_13 : decode cX7_countFloating 13 = .ok (.iload_n 1, 1) := by decide +kernel
theorem dX7_countFloating_14 : decode cX7_countFloating 14 = .ok (.iload 5, 2) := by decide +kernel
theorem dX7_countFloating_16 : decode cX7_countFloating 16 = .ok (.ishr, 1) := by decide +kernel
theorem dX7_countFloating_17 : decode cX7_countFloating 17 = .ok (.iconst 1, 1) := by decide +kernel
theorem dX7_countFloating_18 : decode cX7_countFloating 18 = .ok (.iand, 1) := by decide +kernel
theorem dX7_countFloating_19 : decode cX7_countFloating 19 = .ok (.iconst 1, 1) := by decide +kernel
theorem dX7_countFloating_20 : decode cX7_countFloating 20 = .ok (.if_icmp .ne 21, 3) := by decide +kernel
theorem dX7_countFloating_23 : decode cX7_countFloating 23 = .ok (.iload 4, 2) := by decide +kernel
theorem dX7_countFloating_25 : decode cX7_countFloating 25 = .ok (.aload_n 0, 1) := by decide +kernel
theorem dX7_countFloating_26 : decode cX7_countFloating 26 = .ok (.getfield 23, 3) := by decide +kernel
theorem dX7_countFloating_29 : decode cX7_countFloating 29 = .ok (.iload 5, 2) := by decide +kernel
theorem dX7_countFloating_31 : decode cX7_countFloating 31 = .ok (.aaload, 1) := by decide +kernel
theorem dX7_countFloating_32 : decode cX7_countFloating 32 = .ok (.iload_n 3, 1) := by decide +kernel
theorem dX7_countFloating_33 : decode cX7_countFloating 33 = .ok (.iaload, 1) := by decide +kernel
theorem dX7_countFloating_34 : decode cX7_countFloating 34 = .ok (.iload_n 2, 1) := by decide +kernel
theorem dX7_countFloating_35 : decode cX7_countFloating 35 = .ok (.ishr, 1) := by decide +kernel
theorem dX7_countFloating_36 : decode cX7_countFloating 36 = .ok (.iconst 1, 1) := by decide +kernel
theorem dX7_countFloating_37 : decode cX7_countFloating 37 = .ok (.iand, 1) := by decide +kernel
theorem dX7_countFloating_38 : decode cX7_countFloating 38 = .ok (.iadd, 1) := by decide +kernel
theorem dX7_countFloating_39 : decode cX7_countFloating 39 = .ok (.istore 4, 2) := by decide +kernel
theorem dX7_countFloating_41 : decode cX7_countFloating 41 = .ok (.iinc 5 1, 3) := by decide +kernel
theorem dX7_countFloating_44 : decode cX7_countFloating 44 = .ok (.goto (-38), 3) := by decide +kernel
theorem dX7_countFloating_47 : decode cX7_countFloating 47 = .ok (.iload 4, 2) := by decide +kernel
theorem dX7_countFloating_49 : decode cX7_countFloating 49 = .ok (.ireturn, 1) := by decide +kernel
theorem dX8_init_0 : decode cX8_init 0 = .ok (.aload_n 0, 1) := by decide +kernel
theorem dX8_init_1 : decode cX8_init 1 = .ok (.invokespecial 1, 3) := by decide +kernel
theorem dX8_init_4 : decode cX8_init 4 = .ok (.aload_n 0, 1) := by decide +kernel
theorem dX8_init_5 : decode cX8_init 5 = .ok (.new 7, 3) := by decide +kernel
theorem dX8_init_8 : decode cX8_init 8 = .ok (.dup, 1) := by decide +kernel
theorem dX8_init_9 : decode cX8_init 9 = .ok (.invokespecial 9, 3) := by decide +kernel
theorem dX8_init_12 : decode cX8_init 12 = .ok (.putfield 10, 3) := by decide +kernel
theorem dX8_init_15 : decode cX8_init 15 = .ok (.aload_n 0, 1) := by decide +kernel
theorem dX8_init_16 : decode cX8_init 16 = .ok (.new 16, 3) := by decide +kernel
theorem dX8_init_19 : decode cX8_init 19 = .ok (.dup, 1) := by decide +kernel
theorem dX8_init_20 : decode cX8_init 20 = .ok (.invokespecial 18, 3) := by decide +kernel
theorem dX8_init_23 : decode cX8_init 23 = .ok (.putfield 19, 3) := by decide +kernel
theorem dX8_init_26 : decode cX8_init 26 = .ok (.aload_n 0, 1) := by decide +kernel
theorem dX8_init_27 : decode cX8_init 27 = .ok (.new 23, 3) := by decide +kernel
theorem dX8_init_30 : decode cX8_init 30 = .ok (.dup, 1) := by decide +kernel
theorem dX8_init_31 : decode cX8_init 31 = .ok (.invokespecial 25, 3) := by decide +kernel
theorem dX8_init_34 : decode cX8_init 34 = .ok (.putfield 26, 3) := by decide +kernel
theorem dX8_init_37 : decode cX8_init 37 = .ok (.aload_n 0, 1) := by decide +kernel
theorem dX8_init_38 : decode cX8_init 38 = .ok (.new 30, 3) := by decide +kernel
theorem dX8_init_41 : decode cX8_init 41 = .ok (.dup, 1) := by decide +kernel
theorem dX8_init_42 : decode cX8_init 42 = .ok (.invokespecial 32, 3) := by decide +kernel
theorem dX8_init_45 : decode cX8_init 45 = .ok (.putfield 33, 3) := by decide +kernel
theorem dX8_init_48 : decode cX8_init 48 = .ok (.aload_n 0, 1) := by decide +kernel
theorem dX8_init_49 : decode cX8_init 49 = .ok (.new 30, 3) := by decide +kernel
theorem dX8_init_52 : decode cX8_init 52 = .ok (.dup, 1) := by decide +kernel
theorem dX8_init_53 : decode cX8_init 53 = .ok (.invokespecial 32, 3) := by decide +kernel
theorem dX8_init_56 : decode cX8_init 56 = .ok (.putfield 37, 3) := by decide +kernel
theorem dX8_init_59 : decode cX8_init 59 = .ok (.aload_n 0, 1) := by decide +kernel
theorem dX8_init_60 : decode cX8_init 60 = .ok (.new 40, 3) := by decide +kernel
theorem dX8_init_63 : decode cX8_init 63 = .ok (.dup, 1) := by decide +kernel
theorem dX8_init_64 : decode cX8_init 64 = .ok (.invokespecial 42, 3) := by decide +kernel
theorem dX8_init_67 : decode cX8_init 67 = .ok (.putfield 43, 3) := by decide +kernel
theorem dX8_init_70 : decode cX8_init 70 = .ok (.aload_n 0, 1) := by decide +kernel
theorem dX8_init_71 : decode cX8_init 71 = .ok (.new 47, 3) := by decide +kernel
theorem dX8_init_74 : decode cX8_init 74 = .ok (.dup, 1) := by decide +kernel
theorem dX8_init_75 : decode cX8_init 75 = .ok (.invokespecial 49, 3) := by decide +kernel
theorem dX8_init_78 : decode cX8_init 78 = .ok (.putfield 50, 3) := by decide +kernel
theorem dX8_init_81 : decode cX8_init 81 = .ok (.aload_n 0, 1) := by decide +kernel
theorem dX8_init_82 : decode cX8_init 82 = .ok (.new 54, 3) := by decide +kernel
theorem dX8_init_85 : decode cX8_init 85 = .ok (.dup, 1) := by decide +kernel
theorem dX8_init_86 : decode cX8_init 86 = .ok (.invokespecial 56, 3) := by decide +kernel
theorem dX8_init_89 : decode cX8_init 89 = .ok (.putfield 57, 3) := by decide +kernel
theorem dX8_init_92 : decode cX8_init 92 = .ok (.aload_n 0, 1) := by decide +kernel
theorem dX8_init_93 : decode cX8_init 93 = .ok (.bipush 8, 2) := by decide +kernel
theorem dX8_init_95 : decode cX8_init 95 = .ok (.newarray .int, 2) := by decide +kernel
theorem dX8_init_97 : decode cX8_init 97 = .ok (.putfield 61, 3) := by decide +kernel
theorem dX8_init_100 : decode cX8_init 100 = .ok (.aload_n 0, 1) := by decide +kernel
theorem dX8_init_101 : decode cX8_init 101 = .ok (.sipush 256, 3) := by decide +kernel
theorem dX8_init_104 : decode cX8_init 104 = .ok (.newarray .int, 2) := by decide +kernel
theorem dX8_init_106 : decode cX8_init 106 = .ok (.putfield 65, 3) := by decide +kernel
theorem dX8_init_109 : decode cX8_init 109 = .ok (.aload_n 0, 1) := by decide +kernel
theorem dX8_init_110 : decode cX8_init 110 = .ok (.sipush 256, 3) := by decide +kernel
theorem dX8_init_113 : decode cX8_init 113 = .ok (.newarray .int, 2) := by decide +kernel
theorem dX8_init_115 : decode cX8_init 115 = .ok (.putfield 68, 3) := by decide +kernel
theorem dX8_init_118 : decode cX8_init 118 = .ok (.aload_n 0, 1) := by decide +kernel
theorem dX8_init_119 : decode cX8_init 119 = .ok (.bipush 13, 2) := by decide +kernel
theorem dX8_init_121 : decode cX8_init 121 = .ok (.newarray .int, 2) := by decide +kernel
theorem dX8_init_123 : decode cX8_init 123 = .ok (.putfield 71, 3) := by decide +kernel
theorem dX8_init_126 : decode cX8_init 126 = .ok (.aload_n 0, 1) := by decide +kernel
theorem dX8_init_127 : decode cX8_init 127 = .ok (.bipush 12, 2) := by decide +kernel
theorem dX8_init_129 : decode cX8_init 129 = .ok (.newarray .int, 2) := by decide +kernel
theorem dX8_init_131 : decode cX8_init 131 = .ok (.putfield 74, 3) := by decide +kernel
theorem dX8_init_134 : decode cX8_init 134 = .ok (.aload_n 0, 1) := by decide +kernel
theorem dX8_init_135 : decode cX8_init 135 = .ok (.bipush 12, 2) := by decide +kernel
theorem dX8_init_137 : decode cX8_init 137 = .ok (.newarray .int, 2) := by decide +kernel
theorem dX8_init_139 : decode cX8_init 139 = .ok (.putfield 77, 3) := by decide +kernel
theorem dX8_init_142 : decode cX8_init 142 = .ok (.aload_n 0, 1) := by decide +kernel
theorem dX8_init_143 : decode cX8_init 143 = .ok (.sipush 441, 3) := by decide +kernel
theorem dX8_init_146 : decode cX8_init 146 = .ok (.newarray .boolean, 2) := by decide +kernel
theorem dX8_init_148 : decode cX8_init 148 = .ok (.putfield 80, 3) := by decide +kernel
theorem dX8_init_151 : decode cX8_init 151 = .ok (.return_, 1) := by decide +kernel
theorem dX8_sign_0 : decode cX8_sign 0 = .ok (.aload_n 0, 1) := by decide +kernel
theorem dX8_sign_1 : decode cX8_sign 1 = .ok (.getfield 10, 3) := by decide +kernel
theorem dX8_sign_4 : decode cX8_sign 4 = .ok (.iload_n 1, 1) := by decide +kernel
theorem dX8_sign_5 : decode cX8_sign 5 = .ok (.invokevirtual 84, 3) := by decide +kernel
theorem dX8_sign_8 : decode cX8_sign 8 = .ok (.ireturn, 1) := by decide +kernel
theorem dX8_end_0 : decode cX8_end 0 = .ok (.aload_n 0, 1) := by decide +kernel
theorem dX8_end_1 : decode cX8_end 1 = .ok (.getfield 10, 3) := by decide +kernel
theorem dX8_end_4 : decode cX8_end 4 = .ok (.iload_n 1, 1) := by decide +kernel
theorem dX8_end_5 : decode cX8_end 5 = .ok (.invokevirtual 88, 3) := by decide +kernel
theorem dX8_end_8 : decode cX8_end 8 = .ok (.ireturn, 1) := by decide +kernel
theorem dX8_things_0 : decode cX8_things 0 = .ok (.aload_n 0, 1) := by decide +kernel
theorem dX8_things_1 : decode cX8_things 1 = .ok (.invokevirtual 92, 3) := by decide +kernel
theorem dX8_things_4 : decode cX8_things 4 = .ok (.istore_n 1, 1) := by decide +kernel
theorem dX8_things_5 : decode cX8_things 5 = .ok (.aload_n 0, 1) := by decide +kernel
theorem dX8_things_6 : decode cX8_things 6 = .ok (.getfield 10, 3) := by decide +kernel
theorem dX8_things_9 : decode cX8_things 9 = .ok (.getfield 96, 3) := by decide +kernel
theorem dX8_things_12 : decode cX8_things 12 = .ok (.iconst 1, 1) := by decide +kernel
theorem dX8_things_13 : decode cX8_things 13 = .ok (.iadd, 1) := by decide +kernel
theorem dX8_things_14 : decode cX8_things 14 = .ok (.iconst 2, 1) := by decide +kernel
theorem dX8_things_15 : decode cX8_things 15 = .ok (.idiv, 1) := by decide +kernel
theorem dX8_things_16 : decode cX8_things 16 = .ok (.istore_n 2, 1) := by decide +kernel
theorem dX8_things_17 : decode cX8_things 17 = .ok (.iload_n 1, 1) := by decide +kernel
theorem dX8_things_18 : decode cX8_things 18 = .ok (.iconst (-1), 1) := by decide +kernel
theorem dX8_things_19 : decode cX8_things 19 = .ok (.if_icmp .ne 51, 3) := by decide +kernel
theorem dX8_things_22 : decode cX8_things 22 = .ok (.iload_n 2, 1) := by decide +kernel
theorem dX8_things_23 : decode cX8_things 23 = .ok (.ifCond .le 47, 3) := by decide +kernel
theorem dX8_things_26 : decode cX8_things 26 = .ok (.iconst 0, 1) := by decide +kernel
theorem dX8_things_27 : decode cX8_things 27 = .ok (.istore_n 3, 1) := by decide +kernel
theorem dX8_things_28 : decode cX8_things 28 = .ok (.iload_n 3, 1) := by decide +kernel
theorem dX8_things_29 : decode cX8_things 29 = .ok (.iload_n 2, 1) := by decide +kernel
theorem dX8_things_30 : decode cX8_things 30 = .ok (.if_icmp .ge 26, 3) := by decide +kernel
theorem dX8_things_33 : decode cX8_things 33 = .ok (.aload_n 0, 1) := by decide +kernel
theorem dX8_things_34 : decode cX8_things 34 = .ok (.getfield 26, 3) := by decide +kernel
theorem dX8_things_37 : decode cX8_things 37 = .ok (.aload_n 0, 1) := by decide +kernel
theorem dX8_things_38 : decode cX8_things 38 = .ok (.getfield 10, 3) := by decide +kernel
theorem dX8_things_41 : decode cX8_things 41 = .ok (.iconst 2, 1) := by decide +kernel
theorem dX8_things_42 : decode cX8_things 42 = .ok (.iload_n 3, 1) := by decide +kernel
theorem dX8_things_43 : decode cX8_things 43 = .ok (.imul, 1) := by decide +kernel
theorem dX8_things_44 : decode cX8_things 44 = .ok (.invokevirtual 100, 3) := by decide +kernel
theorem dX8_things_47 : decode cX8_things 47 = .ok (.invokevirtual 103, 3) := by decide +kernel
theorem dX8_things_50 : decode cX8_things 50 = .ok (.iinc 3 1, 3) := by decide +kernel
theorem dX8_things_53 : decode cX8_things 53 = .ok (.goto (-25), 3) := by decide +kernel
theorem dX8_things_56 : decode cX8_things 56 = .ok (.aload_n 0, 1) := by decide +kernel
theorem dX8_things_57 : decode cX8_things 57 = .ok (.getfield 43, 3) := by decide +kernel
theorem dX8_things_60 : decode cX8_things 60 = .ok (.invokevirtual 107, 3) := by decide +kernel
theorem dX8_things_63 : decode cX8_things 63 = .ok (.aload_n 0, 1) := by decide +kernel
theorem dX8_things_64 : decode cX8_things 64 = .ok (.getfield 50, 3) := by decide +kernel
theorem dX8_things_67 : decode cX8_things 67 = .ok (.invokevirtual 110, 3) := by decide +kernel
theorem dX8_things_70 : decode cX8_things 70 = .ok (.aload_n 0, 1) := by decide +kernel
theorem dX8_things_71 : decode cX8_things 71 = .ok (.getfield 10, 3) := by decide +kernel
theorem dX8_things_74 : decode cX8_things 74 = .ok (.invokevirtual 111, 3) := by decide +kernel
theorem dX8_things_77 : decode cX8_things 77 = .ok (.iload_n 1, 1) := by decide +kernel
theorem dX8_things_78 : decode cX8_things 78 = .ok (.iconst (-1), 1) := by decide +kernel
theorem dX8_things_79 : decode cX8_things 79 = .ok (.if_icmp .ne 7, 3) := by decide +kernel
theorem dX8_things_82 : decode cX8_things 82 = .ok (.iload_n 2, 1) := by decide +kernel
theorem dX8_things_83 : decode cX8_things 83 = .ok (.goto 6, 3) := by decide +kernel
theorem dX8_things_86 : decode cX8_things 86 = .ok (.iconst (-1), 1) := by decide +kernel
theorem dX8_things_87 : decode cX8_things 87 = .ok (.iload_n 1, 1) := by decide +kernel
theorem dX8_things_88 : decode cX8_things 88 = .ok (.isub, 1) := by decide +kernel
theorem dX8_things_89 : decode cX8_things 89 = .ok (.ireturn, 1) := by decide +kernel
theorem dX8_strings_0 : decode cX8_strings 0 = .ok (.aload_n 0, 1) := by decide +kernel
theorem dX8_strings_1 : decode cX8_strings 1 = .ok (.invokevirtual 112, 3) := by decide +kernel
theorem dX8_strings_4 : decode cX8_strings 4 = .ok (.istore_n 1, 1) := by decide +kernel
theorem dX8_strings_5 : decode cX8_strings 5 = .ok (.iconst 0, 1) := by decide +kernel
theorem dX8_strings_6 : decode cX8_strings 6 = .ok (.istore_n 2, 1) := by decide +kernel
theorem dX8_strings_7 : decode cX8_strings 7 = .ok (.iload_n 1, 1) := by decide +kernel
theorem dX8_strings_8 : decode cX8_strings 8 = .ok (.iconst (-1), 1) := by decide +kernel
theorem dX8_strings_9 : decode cX8_strings 9 = .ok (.if_icmp .ne 30, 3) := by decide +kernel
theorem dX8_strings_12 : decode cX8_strings 12 = .ok (.aload_n 0, 1) := by decide +kernel
theorem dX8_strings_13 : decode cX8_strings 13 = .ok (.getfield 43, 3) := by decide +kernel
theorem dX8_strings_16 : decode cX8_strings 16 = .ok (.aload_n 0, 1) := by decide +kernel
theorem dX8_strings_17 : decode cX8_strings 17 = .ok (.getfield 33, 3) := by decide +kernel
theorem dX8_strings_20 : decode cX8_strings 20 = .ok (.invokevirtual 115, 3) := by decide +kernel
theorem dX8_strings_23 : decode cX8_strings 23 = .ok (.aload_n 0, 1) := by decide +kernel
theorem dX8_strings_24 : decode cX8_strings 24 = .ok (.invokevirtual 119, 3) := by decide +kernel
theorem dX8_strings_27 : decode cX8_strings 27 = .ok (.istore_n 2, 1) := by decide +kernel
theorem dX8_strings_28 : decode cX8_strings 28 = .ok (.iload_n 2, 1) := by decide +kernel
theorem dX8_strings_29 : decode cX8_strings 29 = .ok (.ifCond .le 10, 3) := by decide +kernel
theorem dX8_strings_32 : decode cX8_strings 32 = .ok (.aload_n 0, 1) := by decide +kernel
theorem dX8_strings_33 : decode cX8_strings 33 = .ok (.getfield 43, 3) := by decide +kernel
theorem dX8_strings_36 : decode cX8_strings 36 = .ok (.invokevirtual 122, 3) := by decide +kernel
theorem dX8_strings_39 : decode cX8_strings 39 = .ok (.aload_n 0, 1) := by decide +kernel
theorem dX8_strings_40 : decode cX8_strings 40 = .ok (.getfield 10, 3) := by decide +kernel
theorem dX8_strings_43 : decode cX8_strings 43 = .ok (.invokevirtual 111, 3) := by decide +kernel
theorem dX8_strings_46 : decode cX8_strings 46 = .ok (.iload_n 1, 1) := by decide +kernel
theorem dX8_strings_47 : decode cX8_strings 47 = .ok (.iconst (-1), 1) := by decide +kernel
theorem dX8_strings_48 : decode cX8_strings 48 = .ok (.if_icmp .ne 7, 3) := by decide +kernel
theorem dX8_strings_51 : decode cX8_strings 51 = .ok (.iload_n 2, 1) := by decide +kernel
theorem dX8_strings_52 : decode cX8_strings 52 = .ok (.goto 6, 3) := by decide +kernel
theorem dX8_strings_55 : decode cX8_strings 55 = .ok (.iconst (-1), 1) := by decide +kernel
theorem dX8_strings_56 : decode cX8_strings 56 = .ok (.iload_n 1, 1) := by decide +kernel
theorem dX8_strings_57 : decode cX8_strings 57 = .ok (.isub, 1) := by decide +kernel
theorem dX8_strings_58 : decode cX8_strings 58 = .ok (.ireturn, 1) := by decide +kernel
theorem dX8_winds_0 : decode cX8_winds 0 = .ok (.aload_n 0, 1) := by decide +kernel
theorem dX8_winds_1 : decode cX8_winds 1 = .ok (.invokevirtual 125, 3) := by decide +kernel
theorem dX8_winds_4 : decode cX8_winds 4 = .ok (.istore_n 1, 1) := by decide +kernel
theorem dX8_winds_5 : decode cX8_winds 5 = .ok (.aload_n 0, 1) := by decide +kernel
theorem dX8_winds_6 : decode cX8_winds 6 = .ok (.getfield 10, 3) := by decide +kernel
theorem dX8_winds_9 : decode cX8_winds 9 = .ok (.getfield 96, 3) := by decide +kernel
theorem dX8_winds_12 : decode cX8_winds 12 = .ok (.istore_n 2, 1) := by decide +kernel
theorem dX8_winds_13 : decode cX8_winds 13 = .ok (.iload_n 1, 1) := by decide +kernel
theorem dX8_winds_14 : decode cX8_winds 14 = .ok (.iconst (-1), 1) := by decide +kernel
theorem dX8_winds_15 : decode cX8_winds 15 = .ok (.if_icmp .ne 14, 3) := by decide +kernel
theorem dX8_winds_18 : decode cX8_winds 18 = .ok (.aload_n 0, 1) := by decide +kernel
theorem dX8_winds_19 : decode cX8_winds 19 = .ok (.getfield 26, 3) := by decide +kernel
theorem dX8_winds_22 : decode cX8_winds 22 = .ok (.aload_n 0, 1) := by decide +kernel
theorem dX8_winds_23 : decode cX8_winds 23 = .ok (.getfield 10, 3) := by decide +kernel
theorem dX8_winds_26 : decode cX8_winds 26 = .ok (.invokevirtual 128, 3) := by decide +kernel
theorem dX8_winds_29 : decode cX8_winds 29 = .ok (.aload_n 0, 1) := by decide +kernel
theorem dX8_winds_30 : decode cX8_winds 30 = .ok (.getfield 10, 3) := by decide +kernel
theorem dX8_winds_33 : decode cX8_winds 33 = .ok (.invokevirtual 111, 3) := by decide +kernel
theorem dX8_winds_36 : decode cX8_winds 36 = .ok (.iload_n 1, 1) := by decide +kernel
theorem dX8_winds_37 : decode cX8_winds 37 = .ok (.iconst (-1), 1) := by decide +kernel
theorem dX8_winds_38 : decode cX8_winds 38 = .ok (.if_icmp .ne 7, 3) := by decide +kernel
theorem dX8_winds_41 : decode cX8_winds 41 = .ok (.iload_n 2, 1) := by decide +kernel
theorem dX8_winds_42 : decode cX8_winds 42 = .ok (.goto 6, 3) := by decide +kernel
theorem dX8_winds_45 : decode cX8_winds 45 = .ok (.iconst (-1), 1) := by decide +kernel
theorem dX8_winds_46 : decode cX8_winds 46 = .ok (.iload_n 1, 1) := by decide +kernel
theorem dX8_winds_47 : decode cX8_winds 47 = .ok (.isub, 1) := by decide +kernel
theorem dX8_winds_48 : decode cX8_winds 48 = .ok (.ireturn, 1) := by decide +kernel
theorem dX8_rule_0 : decode cX8_rule 0 = .ok (.aload_n 0, 1) := by decide +kernel
theorem dX8_rule_1 : decode cX8_rule 1 = .ok (.invokevirtual 132, 3) := by decide +kernel
theorem dX8_rule_4 : decode cX8_rule 4 = .ok (.istore_n 1, 1) := by decide +kernel
theorem dX8_rule_5 : decode cX8_rule 5 = .ok (.iload_n 1, 1) := by decide +kernel
theorem dX8_rule_6 : decode cX8_rule 6 = .ok (.iconst (-1), 1) := by decide +kernel
theorem dX8_rule_7 : decode cX8_rule 7 = .ok (.if_icmp .eq 7, 3) := by decide +kernel
theorem dX8_rule_10 : decode cX8_rule 10 = .ok (.iconst (-1), 1) := by decide +kernel
theorem dX8_rule_11 : decode cX8_rule 11 = .ok (.iload_n 1, 1) := by decide +kernel
theorem dX8_rule_12 : decode cX8_rule 12 = .ok (.isub, 1) := by decide +kernel
theorem dX8_rule_13 : decode cX8_rule 13 = .ok (.ireturn, 1) := by decide +kernel
theorem dX8_rule_14 : decode cX8_rule 14 = .ok (.aload_n 0, 1) := by decide +kernel
theorem dX8_rule_15 : decode cX8_rule 15 = .ok (.getfield 26, 3) := by decide +kernel
theorem dX8_rule_18 : decode cX8_rule 18 = .ok (.invokevirtual 135, 3) := by decide +kernel
theorem dX8_rule_21 : decode cX8_rule 21 = .ok (.iconst 0, 1) := by decide +kernel
theorem dX8_rule_22 : decode cX8_rule 22 = .ok (.ireturn, 1) := by decide +kernel
theorem dX8_thing_0 : decode cX8_thing 0 = .ok (.aload_n 0, 1) := by decide +kernel
theorem dX8_thing_1 : decode cX8_thing 1 = .ok (.getfield 26, 3) := by decide +kernel
theorem dX8_thing_4 : decode cX8_thing 4 = .ok (.iload_n 1, 1) := by decide +kernel
theorem dX8_thing_5 : decode cX8_thing 5 = .ok (.invokevirtual 138, 3) := by decide +kernel
theorem dX8_thing_8 : decode cX8_thing 8 = .ok (.ifCond .ne 13, 3) := by decide +kernel
theorem dX8_thing_11 : decode cX8_thing 11 = .ok (.new 141, 3) := by decide +kernel
theorem dX8_thing_14 : decode cX8_thing 14 = .ok (.dup, 1) := by decide +kernel
theorem dX8_thing_15 : decode cX8_thing 15 = .ok (.ldc 143, 2) := by decide +kernel
theorem dX8_thing_17 : decode cX8_thing 17 = .ok (.invokespecial 145, 3) := by decide +kernel
theorem dX8_thing_20 : decode cX8_thing 20 = .ok (.athrow, 1) := by decide +kernel
theorem dX8_thing_21 : decode cX8_thing 21 = .ok (.iload_n 2, 1) := by decide +kernel
theorem dX8_thing_22 : decode cX8_thing 22 = .ok (.tableswitch 165 0 7 #[46, 56, 66, 76, 86, 103, 131, 141], 46) := by decide +kernel
theorem dX8_thing_68 : decode cX8_thing 68 = .ok (.aload_n 0, 1) := by decide +kernel
theorem dX8_thing_69 : decode cX8_thing 69 = .ok (.getfield 26, 3) := by decide +kernel
theorem dX8_thing_72 : decode cX8_thing 72 = .ok (.getfield 148, 3) := by decide +kernel
theorem dX8_thing_75 : decode cX8_thing 75 = .ok (.iload_n 1, 1) := by decide +kernel
theorem dX8_thing_76 : decode cX8_thing 76 = .ok (.iaload, 1) := by decide +kernel
theorem dX8_thing_77 : decode cX8_thing 77 = .ok (.ireturn, 1) := by decide +kernel
theorem dX8_thing_78 : decode cX8_thing 78 = .ok (.aload_n 0, 1) := by decide +kernel
theorem dX8_thing_79 : decode cX8_thing 79 = .ok (.getfield 33, 3) := by decide +kernel
theorem dX8_thing_82 : decode cX8_thing 82 = .ok (.getfield 151, 3) := by decide +kernel
theorem dX8_thing_85 : decode cX8_thing 85 = .ok (.iload_n 1, 1) := by decide +kernel
theorem dX8_thing_86 : decode cX8_thing 86 = .ok (.iaload, 1) := by decide +kernel
theorem dX8_thing_87 : decode cX8_thing 87 = .ok (.ireturn, 1) := by decide +kernel
theorem dX8_thing_88 : decode cX8_thing 88 = .ok (.aload_n 0, 1) := by decide +kernel
theorem dX8_thing_89 : decode cX8_thing 89 = .ok (.getfield 33, 3) := by decide +kernel
theorem dX8_thing_92 : decode cX8_thing 92 = .ok (.getfield 154, 3) := by decide +kernel
theorem dX8_thing_95 : decode cX8_thing 95 = .ok (.iload_n 1, 1) := by decide +kernel
theorem dX8_thing_96 : decode cX8_thing 96 = .ok (.iaload, 1) := by decide +kernel
theorem dX8_thing_97 : decode cX8_thing 97 = .ok (.ireturn, 1) := by decide +kernel
theorem dX8_thing_98 : decode cX8_thing 98 = .ok (.aload_n 0, 1) := by decide +kernel
theorem dX8_thing_99 : decode cX8_thing 99 = .ok (.getfield 33, 3) := by decide +kernel
theorem dX8_thing_102 : decode cX8_thing 102 = .ok (.getfield 157, 3) := by decide +kernel
theorem dX8_thing_105 : decode cX8_thing 105 = .ok (.iload_n 1, 1) := by decide +kernel
theorem dX8_thing_106 : decode cX8_thing 106 = .ok (.iaload, 1) := by decide +kernel
theorem dX8_thing_107 : decode cX8_thing 107 = .ok (.ireturn, 1) := by decide +kernel
theorem dX8_thing_108 : decode cX8_thing 108 = .ok (.aload_n 0, 1) := by decide +kernel
theorem dX8_thing_109 : decode cX8_thing 109 = .ok (.getfield 33, 3) := by decide +kernel
theorem dX8_thing_112 : decode cX8_thing 112 = .ok (.iload_n 1, 1) := by decide +kernel
theorem dX8_thing_113 : decode cX8_thing 113 = .ok (.invokevirtual 160, 3) := by decide +kernel
theorem dX8_thing_116 : decode cX8_thing 116 = .ok (.ifCond .eq 7, 3) := by decide +kernel
theorem dX8_thing_119 : decode cX8_thing 119 = .ok (.iconst 1, 1) := by decide +kernel
theorem dX8_thing_120 : decode cX8_thing 120 = .ok (.goto 4, 3) := by decide +kernel
theorem dX8_thing_123 : decode cX8_thing 123 = .ok (.iconst 0, 1) := by decide +kernel
theorem dX8_thing_124 : decode cX8_thing 124 = .ok (.ireturn, 1) := by decide +kernel
theorem dX8_thing_125 : decode cX8_thing 125 = .ok (.aload_n 0, 1) := by decide +kernel
theorem dX8_thing_126 : decode cX8_thing 126 = .ok (.getfield 26, 3) := by decide +kernel
theorem dX8_thing_129 : decode cX8_thing 129 = .ok (.aload_n 0, 1) := by decide +kernel
theorem dX8_thing_130 : decode cX8_thing 130 = .ok (.getfield 33, 3) := by decide +kernel
theorem dX8_thing_133 : decode cX8_thing 133 = .ok (.aload_n 0, 1) := by decide +kernel
theorem dX8_thing_134 : decode cX8_thing 134 = .ok (.getfield 26, 3) := by decide +kernel
theorem dX8_thing_137 : decode cX8_thing 137 = .ok (.getfield 163, 3) := by decide +kernel
theorem dX8_thing_140 : decode cX8_thing 140 = .ok (.invokevirtual 167, 3) := by decide +kernel
theorem dX8_thing_143 : decode cX8_thing 143 = .ok (.aload_n 0, 1) := by decide +kernel
theorem dX8_thing_144 : decode cX8_thing 144 = .ok (.getfield 26, 3) := by decide +kernel
theorem dX8_thing_147 : decode cX8_thing 147 = .ok (.getfield 171, 3) := by decide +kernel
theorem dX8_thing_150 : decode cX8_thing 150 = .ok (.iload_n 1, 1) := by decide +kernel
theorem dX8_thing_151 : decode cX8_thing 151 = .ok (.iaload, 1) := by decide +kernel
theorem dX8_thing_152 : decode cX8_thing 152 = .ok (.ireturn, 1) := by decide +kernel
theorem dX8_thing_153 : decode cX8_thing 153 = .ok (.aload_n 0, 1) := by decide +kernel
theorem dX8_thing_154 : decode cX8_thing 154 = .ok (.getfield 33, 3) := by decide +kernel
theorem dX8_thing_157 : decode cX8_thing 157 = .ok (.getfield 174, 3) := by decide +kernel
theorem dX8_thing_160 : decode cX8_thing 160 = .ok (.iload_n 1, 1) := by decide +kernel
theorem dX8_thing_161 : decode cX8_thing 161 = .ok (.iaload, 1) := by decide +kernel
theorem dX8_thing_162 : decode cX8_thing 162 = .ok (.ireturn, 1) := by decide +kernel
theorem dX8_thing_163 : decode cX8_thing 163 = .ok (.aload_n 0, 1) := by decide +kernel
theorem dX8_thing_164 : decode cX8_thing 164 = .ok (.getfield 33, 3) := by decide +kernel
theorem dX8_thing_167 : decode cX8_thing 167 = .ok (.iload_n 1, 1) := by decide +kernel
theorem dX8_thing_168 : decode cX8_thing 168 = .ok (.invokevirtual 160, 3) := by decide +kernel
theorem dX8_thing_171 : decode cX8_thing 171 = .ok (.ifCond .eq 7, 3) := by decide +kernel
theorem dX8_thing_174 : decode cX8_thing 174 = .ok (.iconst 0, 1) := by decide +kernel
theorem dX8_thing_175 : decode cX8_thing 175 = .ok (.goto 11, 3) := by decide +kernel
theorem dX8_thing_178 : decode cX8_thing 178 = .ok (.aload_n 0, 1) := by decide +kernel
theorem dX8_thing_179 : decode cX8_thing 179 = .ok (.getfield 33, 3) := by decide +kernel
theorem dX8_thing_182 : decode cX8_thing 182 = .ok (.iload_n 1, 1) := by decide +kernel
theorem dX8_thing_183 : decode cX8_thing 183 = .ok (.invokevirtual 177, 3) := by decide +kernel
theorem dX8_thing_186 : decode cX8_thing 186 = .ok (.ireturn, 1) := by decide +kernel
theorem dX8_thing_187 : decode cX8_thing 187 = .ok (.new 141, 3) := by decide +kernel
theorem dX8_thing_190 : decode cX8_thing 190 = .ok (.dup, 1) := by decide +kernel
theorem dX8_thing_191 : decode cX8_thing 191 = .ok (.ldc 180, 2) := by decide +kernel
theorem dX8_thing_193 : decode cX8_thing 193 = .ok (.invokespecial 145, 3) := by decide +kernel
theorem dX8_thing_196 : decode cX8_thing 196 = .ok (.athrow, 1) := by decide +kernel
theorem dX8_sheet_0 : decode cX8_sheet 0 = .ok (.iload_n 1, 1) := by decide +kernel
theorem dX8_sheet_1 : decode cX8_sheet 1 = .ok (.ifCond .lt 14, 3) := by decide +kernel
theorem dX8_sheet_4 : decode cX8_sheet 4 = .ok (.iload_n 1, 1) := by decide +kernel
theorem dX8_sheet_5 : decode cX8_sheet 5 = .ok (.iconst 3, 1) := by decide +kernel
theorem dX8_sheet_6 : decode cX8_sheet 6 = .ok (.if_icmp .gt 9, 3) := by decide +kernel
theorem dX8_sheet_9 : decode cX8_sheet 9 = .ok (.iload_n 2, 1) := by decide +kernel
theorem dX8_sheet_10 : decode cX8_sheet 10 = .ok (.bipush 8, 2) := by decide +kernel
theorem dX8_sheet_12 : decode cX8_sheet 12 = .ok (.if_icmp .le 5, 3) := by decide +kernel
theorem dX8_sheet_15 : decode cX8_sheet 15 = .ok (.iconst (-1), 1) := by decide +kernel
theorem dX8_sheet_16 : decode cX8_sheet 16 = .ok (.ireturn, 1) := by decide +kernel
theorem dX8_sheet_17 : decode cX8_sheet 17 = .ok (.iload_n 1, 1) := by decide +kernel
theorem dX8_sheet_18 : decode cX8_sheet 18 = .ok (.iconst 3, 1) := by decide +kernel
theorem dX8_sheet_19 : decode cX8_sheet 19 = .ok (.if_icmp .ne 19, 3) := by decide +kernel
theorem dX8_sheet_22 : decode cX8_sheet 22 = .ok (.aload_n 0, 1) := by decide +kernel
theorem dX8_sheet_23 : decode cX8_sheet 23 = .ok (.getfield 26, 3) := by decide +kernel
theorem dX8_sheet_26 : decode cX8_sheet 26 = .ok (.iload_n 1, 1) := by decide +kernel
theorem dX8_sheet_27 : decode cX8_sheet 27 = .ok (.iconst 0, 1) := by decide +kernel
theorem dX8_sheet_28 : decode cX8_sheet 28 = .ok (.iload_n 3, 1) := by decide +kernel
theorem dX8_sheet_29 : decode cX8_sheet 29 = .ok (.iload 4, 2) := by decide +kernel
theorem dX8_sheet_31 : decode cX8_sheet 31 = .ok (.invokevirtual 182, 3) := by decide +kernel
theorem dX8_sheet_34 : decode cX8_sheet 34 = .ok (.pop, 1) := by decide +kernel
theorem dX8_sheet_35 : decode cX8_sheet 35 = .ok (.bipush (-3), 2) := by decide +kernel
theorem dX8_sheet_37 : decode cX8_sheet 37 = .ok (.ireturn, 1) := by decide +kernel
theorem dX8_sheet_38 : decode cX8_sheet 38 = .ok (.iload_n 2, 1) := by decide +kernel
theorem dX8_sheet_39 : decode cX8_sheet 39 = .ok (.ifCond .ge 6, 3) := by decide +kernel
theorem dX8_sheet_42 : decode cX8_sheet 42 = .ok (.bipush (-2), 2) := by decide +kernel
theorem dX8_sheet_44 : decode cX8_sheet 44 = .ok (.ireturn, 1) := by decide +kernel
theorem dX8_sheet_45 : decode cX8_sheet 45 = .ok (.aload_n 0, 1) := by decide +kernel
theorem dX8_sheet_46 : decode cX8_sheet 46 = .ok (.getfield 26, 3) := by decide +kernel
theorem dX8_sheet_49 : decode cX8_sheet 49 = .ok (.iload_n 1, 1) := by decide +kernel
theorem dX8_sheet_50 : decode cX8_sheet 50 = .ok (.iload_n 2, 1) := by decide +kernel
theorem dX8_sheet_51 : decode cX8_sheet 51 = .ok (.iload_n 3, 1) := by decide +kernel
theorem dX8_sheet_52 : decode cX8_sheet 52 = .ok (.iload 4, 2) := by decide +kernel
theorem dX8_sheet_54 : decode cX8_sheet 54 = .ok (.invokevirtual 182, 3) := by decide +kernel
theorem dX8_sheet_57 : decode cX8_sheet 57 = .ok (.ireturn, 1) := by decide +kernel
theorem dX8_hours_0 : decode cX8_hours 0 = .ok (.iload_n 1, 1) := by decide +kernel
theorem dX8_hours_1 : decode cX8_hours 1 = .ok (.ifCond .lt 9, 3) := by decide +kernel
theorem dX8_hours_4 : decode cX8_hours 4 = .ok (.iload_n 1, 1) := by decide +kernel
theorem dX8_hours_5 : decode cX8_hours 5 = .ok (.bipush 60, 2) := by decide +kernel
theorem dX8_hours_7 : decode cX8_hours 7 = .ok (.if_icmp .le 5, 3) := by decide +kernel
theorem dX8_hours_10 : decode cX8_hours 10 = .ok (.iconst (-1), 1) := by decide +kernel
theorem dX8_hours_11 : decode cX8_hours 11 = .ok (.ireturn, 1) := by decide +kernel
theorem dX8_hours_12 : decode cX8_hours 12 = .ok (.aload_n 0, 1) := by decide +kernel
theorem dX8_hours_13 : decode cX8_hours 13 = .ok (.getfield 43, 3) := by decide +kernel
theorem dX8_hours_16 : decode cX8_hours 16 = .ok (.aload_n 0, 1) := by decide +kernel
theorem dX8_hours_17 : decode cX8_hours 17 = .ok (.getfield 33, 3) := by decide +kernel
theorem dX8_hours_20 : decode cX8_hours 20 = .ok (.invokevirtual 115, 3) := by decide +kernel
theorem dX8_hours_23 : decode cX8_hours 23 = .ok (.aload_n 0, 1) := by decide +kernel
theorem dX8_hours_24 : decode cX8_hours 24 = .ok (.getfield 43, 3) := by decide +kernel
theorem dX8_hours_27 : decode cX8_hours 27 = .ok (.invokevirtual 122, 3) := by decide +kernel
theorem dX8_hours_30 : decode cX8_hours 30 = .ok (.aload_n 0, 1) := by decide +kernel
theorem dX8_hours_31 : decode cX8_hours 31 = .ok (.getfield 33, 3) := by decide +kernel
theorem dX8_hours_34 : decode cX8_hours 34 = .ok (.getfield 186, 3) := by decide +kernel
theorem dX8_hours_37 : decode cX8_hours 37 = .ok (.invokestatic 189, 3) := by decide +kernel
theorem dX8_hours_40 : decode cX8_hours 40 = .ok (.istore_n 2, 1) := by decide +kernel
theorem dX8_hours_41 : decode cX8_hours 41 = .ok (.aload_n 0, 1) := by decide +kernel
theorem dX8_hours_42 : decode cX8_hours 42 = .ok (.getfield 26, 3) := by decide +kernel
theorem dX8_hours_45 : decode cX8_hours 45 = .ok (.aload_n 0, 1) := by decide +kernel
theorem dX8_hours_46 : decode cX8_hours 46 = .ok (.getfield 33, 3) := by decide +kernel
theorem dX8_hours_49 : decode cX8_hours 49 = .ok (.iload_n 1, 1) := by decide +kernel
theorem dX8_hours_50 : decode cX8_hours 50 = .ok (.invokevirtual 194, 3) := by decide +kernel
theorem dX8_hours_53 : decode cX8_hours 53 = .ok (.istore_n 3, 1) := by decide +kernel
theorem dX8_hours_54 : decode cX8_hours 54 = .ok (.aload_n 0, 1) := by decide +kernel
theorem dX8_hours_55 : decode cX8_hours 55 = .ok (.getfield 19, 3) := by decide +kernel
theorem dX8_hours_58 : decode cX8_hours 58 = .ok (.aload_n 0, 1) := by decide +kernel
theorem dX8_hours_59 : decode cX8_hours 59 = .ok (.getfield 33, 3) := by decide +kernel
theorem dX8_hours_62 : decode cX8_hours 62 = .ok (.getfield 186, 3) := by decide +kernel
theorem dX8_hours_65 : decode cX8_hours 65 = .ok (.invokestatic 189, 3) := by decide +kernel
theorem dX8_hours_68 : decode cX8_hours 68 = .ok (.iload_n 2, 1) := by decide +kernel
theorem dX8_hours_69 : decode cX8_hours 69 = .ok (.isub, 1) := by decide +kernel
theorem dX8_hours_70 : decode cX8_hours 70 = .ok (.i2l, 1) := by decide +kernel
theorem dX8_hours_71 : decode cX8_hours 71 = .ok (.iload_n 3, 1) := by decide +kernel
theorem dX8_hours_72 : decode cX8_hours 72 = .ok (.i2l, 1) := by decide +kernel
theorem dX8_hours_73 : decode cX8_hours 73 = .ok (.invokevirtual 198, 3) := by decide +kernel
theorem dX8_hours_76 : decode cX8_hours 76 = .ok (.aload_n 0, 1) := by decide +kernel
theorem dX8_hours_77 : decode cX8_hours 77 = .ok (.getfield 26, 3) := by decide +kernel
theorem dX8_hours_80 : decode cX8_hours 80 = .ok (.aload_n 0, 1) := by decide +kernel
theorem dX8_hours_81 : decode cX8_hours 81 = .ok (.getfield 33, 3) := by decide +kernel
theorem dX8_hours_84 : decode cX8_hours 84 = .ok (.invokevirtual 202, 3) := by decide +kernel
theorem dX8_hours_87 : decode cX8_hours 87 = .ok (.ireturn, 1) := by decide +kernel
theorem dX8_lends_0 : decode cX8_lends 0 = .ok (.aload_n 0, 1) := by decide +kernel
theorem dX8_lends_1 : decode cX8_lends 1 = .ok (.getfield 43, 3) := by decide +kernel
theorem dX8_lends_4 : decode cX8_lends 4 = .ok (.aload_n 0, 1) := by decide +kernel
theorem dX8_lends_5 : decode cX8_lends 5 = .ok (.getfield 33, 3) := by decide +kernel
theorem dX8_lends_8 : decode cX8_lends 8 = .ok (.invokevirtual 115, 3) := by decide +kernel
theorem dX8_lends_11 : decode cX8_lends 11 = .ok (.aload_n 0, 1) := by decide +kernel
theorem dX8_lends_12 : decode cX8_lends 12 = .ok (.getfield 43, 3) := by decide +kernel
theorem dX8_lends_15 : decode cX8_lends 15 = .ok (.aload_n 0, 1) := by decide +kernel
theorem dX8_lends_16 : decode cX8_lends 16 = .ok (.getfield 26, 3) := by decide +kernel
theorem dX8_lends_19 : decode cX8_lends 19 = .ok (.aload_n 0, 1) := by decide +kernel
theorem dX8_lends_20 : decode cX8_lends 20 = .ok (.getfield 33, 3) := by decide +kernel
theorem dX8_lends_23 : decode cX8_lends 23 = .ok (.iload_n 1, 1) := by decide +kernel
theorem dX8_lends_24 : decode cX8_lends 24 = .ok (.iload_n 2, 1) := by decide +kernel
theorem dX8_lends_25 : decode cX8_lends 25 = .ok (.invokevirtual 206, 3) := by decide +kernel
theorem dX8_lends_28 : decode cX8_lends 28 = .ok (.invokevirtual 210, 3) := by decide +kernel
theorem dX8_lends_31 : decode cX8_lends 31 = .ok (.ireturn, 1) := by decide +kernel
theorem dX8_gives_0 : decode cX8_gives 0 = .ok (.aload_n 0, 1) := by decide +kernel
theorem dX8_gives_1 : decode cX8_gives 1 = .ok (.getfield 43, 3) := by decide +kernel
theorem dX8_gives_4 : decode cX8_gives 4 = .ok (.aload_n 0, 1) := by decide +kernel
theorem dX8_gives_5 : decode cX8_gives 5 = .ok (.getfield 33, 3) := by decide +kernel
theorem dX8_gives_8 : decode cX8_gives 8 = .ok (.invokevirtual 115, 3) := by decide +kernel
theorem dX8_gives_11 : decode cX8_gives 11 = .ok (.aload_n 0, 1) := by decide +kernel
theorem dX8_gives_12 : decode cX8_gives 12 = .ok (.getfield 43, 3) := by decide +kernel
theorem dX8_gives_15 : decode cX8_gives 15 = .ok (.aload_n 0, 1) := by decide +kernel
theorem dX8_gives_16 : decode cX8_gives 16 = .ok (.getfield 26, 3) := by decide +kernel
theorem dX8_gives_19 : decode cX8_gives 19 = .ok (.aload_n 0, 1) := by decide +kernel
theorem dX8_gives_20 : decode cX8_gives 20 = .ok (.getfield 33, 3) := by decide +kernel
theorem dX8_gives_23 : decode cX8_gives 23 = .ok (.iload_n 1, 1) := by decide +kernel
theorem dX8_gives_24 : decode cX8_gives 24 = .ok (.iload_n 2, 1) := by decide +kernel
theorem dX8_gives_25 : decode cX8_gives 25 = .ok (.invokevirtual 213, 3) := by decide +kernel
theorem dX8_gives_28 : decode cX8_gives 28 = .ok (.invokevirtual 210, 3) := by decide +kernel
theorem dX8_gives_31 : decode cX8_gives 31 = .ok (.ireturn, 1) := by decide +kernel
theorem dX8_ties_0 : decode cX8_ties 0 = .ok (.aload_n 0, 1) := by decide +kernel
theorem dX8_ties_1 : decode cX8_ties 1 = .ok (.getfield 43, 3) := by decide +kernel
theorem dX8_ties_4 : decode cX8_ties 4 = .ok (.aload_n 0, 1) := by decide +kernel
theorem dX8_ties_5 : decode cX8_ties 5 = .ok (.getfield 33, 3) := by decide +kernel
theorem dX8_ties_8 : decode cX8_ties 8 = .ok (.invokevirtual 115, 3) := by decide +kernel
theorem dX8_ties_11 : decode cX8_ties 11 = .ok (.aload_n 0, 1) := by decide +kernel
theorem dX8_ties_12 : decode cX8_ties 12 = .ok (.getfield 43, 3) := by decide +kernel
theorem dX8_ties_15 : decode cX8_ties 15 = .ok (.aload_n 0, 1) := by decide +kernel
theorem dX8_ties_16 : decode cX8_ties 16 = .ok (.getfield 26, 3) := by decide +kernel
theorem dX8_ties_19 : decode cX8_ties 19 = .ok (.aload_n 0, 1) := by decide +kernel
theorem dX8_ties_20 : decode cX8_ties 20 = .ok (.getfield 33, 3) := by decide +kernel
theorem dX8_ties_23 : decode cX8_ties 23 = .ok (.iload_n 1, 1) := by decide +kernel
theorem dX8_ties_24 : decode cX8_ties 24 = .ok (.iload_n 2, 1) := by decide +kernel
theorem dX8_ties_25 : decode cX8_ties 25 = .ok (.invokevirtual 216, 3) := by decide +kernel
theorem dX8_ties_28 : decode cX8_ties 28 = .ok (.invokevirtual 210, 3) := by decide +kernel
theorem dX8_ties_31 : decode cX8_ties 31 = .ok (.ireturn, 1) := by decide +kernel
theorem dX8_pays_0 : decode cX8_pays 0 = .ok (.aload_n 0, 1) := by decide +kernel
theorem dX8_pays_1 : decode cX8_pays 1 = .ok (.getfield 43, 3) := by decide +kernel
theorem dX8_pays_4 : decode cX8_pays 4 = .ok (.aload_n 0, 1) := by decide +kernel
theorem dX8_pays_5 : decode cX8_pays 5 = .ok (.getfield 33, 3) := by decide +kernel
theorem dX8_pays_8 : decode cX8_pays 8 = .ok (.invokevirtual 115, 3) := by decide +kernel
theorem dX8_pays_11 : decode cX8_pays 11 = .ok (.aload_n 0, 1) := by decide +kernel
theorem dX8_pays_12 : decode cX8_pays 12 = .ok (.getfield 43, 3) := by decide +kernel
theorem dX8_pays_15 : decode cX8_pays 15 = .ok (.aload_n 0, 1) := by decide +kernel
theorem dX8_pays_16 : decode cX8_pays 16 = .ok (.getfield 26, 3) := by decide +kernel
theorem dX8_pays_19 : decode cX8_pays 19 = .ok (.aload_n 0, 1) := by decide +kernel
theorem dX8_pays_20 : decode cX8_pays 20 = .ok (.getfield 33, 3) := by decide +kernel
theorem dX8_pays_23 : decode cX8_pays 23 = .ok (.iload_n 1, 1) := by decide +kernel
theorem dX8_pays_24 : decode cX8_pays 24 = .ok (.invokevirtual 219, 3) := by decide +kernel
theorem dX8_pays_27 : decode cX8_pays 27 = .ok (.invokevirtual 210, 3) := by decide +kernel
theorem dX8_pays_30 : decode cX8_pays 30 = .ok (.ireturn, 1) := by decide +kernel
theorem dX8_digs_0 : decode cX8_digs 0 = .ok (.iload_n 1, 1) := by decide +kernel
theorem dX8_digs_1 : decode cX8_digs 1 = .ok (.iconst 1, 1) := by decide +kernel
theorem dX8_digs_2 : decode cX8_digs 2 = .ok (.if_icmp .lt 9, 3) := by decide +kernel
theorem dX8_digs_5 : decode cX8_digs 5 = .ok (.iload_n 1, 1) := by decide +kernel
theorem dX8_digs_6 : decode cX8_digs 6 = .ok (.bipush 99, 2) := by decide +kernel
theorem dX8_digs_8 : decode cX8_digs 8 = .ok (.if_icmp .le 5, 3) := by decide +kernel
theorem dX8_digs_11 : decode cX8_digs 11 = .ok (.iconst (-1), 1) := by decide +kernel
theorem dX8_digs_12 : decode cX8_digs 12 = .ok (.ireturn, 1) := by decide +kernel
theorem dX8_digs_13 : decode cX8_digs 13 = .ok (.aload_n 0, 1) := by decide +kernel
theorem dX8_digs_14 : decode cX8_digs 14 = .ok (.getfield 33, 3) := by decide +kernel
theorem dX8_digs_17 : decode cX8_digs 17 = .ok (.getfield 222, 3) := by decide +kernel
theorem dX8_digs_20 : decode cX8_digs 20 = .ok (.iload_n 1, 1) := by decide +kernel
theorem dX8_digs_21 : decode cX8_digs 21 = .ok (.iadd, 1) := by decide +kernel
theorem dX8_digs_22 : decode cX8_digs 22 = .ok (.bipush 99, 2) := by decide +kernel
theorem dX8_digs_24 : decode cX8_digs 24 = .ok (.if_icmp .le 6, 3) := by decide +kernel
theorem dX8_digs_27 : decode cX8_digs 27 = .ok (.bipush (-3), 2) := by decide +kernel
theorem dX8_digs_29 : decode cX8_digs 29 = .ok (.ireturn, 1) := by decide +kernel
theorem dX8_digs_30 : decode cX8_digs 30 = .ok (.aload_n 0, 1) := by decide +kernel
theorem dX8_digs_31 : decode cX8_digs 31 = .ok (.getfield 43, 3) := by decide +kernel
theorem dX8_digs_34 : decode cX8_digs 34 = .ok (.aload_n 0, 1) := by decide +kernel
theorem dX8_digs_35 : decode cX8_digs 35 = .ok (.getfield 33, 3) := by decide +kernel
theorem dX8_digs_38 : decode cX8_digs 38 = .ok (.invokevirtual 115, 3) := by decide +kernel
theorem dX8_digs_41 : decode cX8_digs 41 = .ok (.aload_n 0, 1) := by decide +kernel
theorem dX8_digs_42 : decode cX8_digs 42 = .ok (.getfield 43, 3) := by decide +kernel
theorem dX8_digs_45 : decode cX8_digs 45 = .ok (.invokevirtual 122, 3) := by decide +kernel
theorem dX8_digs_48 : decode cX8_digs 48 = .ok (.aload_n 0, 1) := by decide +kernel
theorem dX8_digs_49 : decode cX8_digs 49 = .ok (.getfield 33, 3) := by decide +kernel
theorem dX8_digs_52 : decode cX8_digs 52 = .ok (.dup, 1) := by decide +kernel
theorem dX8_digs_53 : decode cX8_digs 53 = .ok (.getfield 222, 3) := by decide +kernel
theorem dX8_digs_56 : decode cX8_digs 56 = .ok (.iload_n 1, 1) := by decide +kernel
theorem dX8_digs_57 : decode cX8_digs 57 = .ok (.iadd, 1) := by decide +kernel
theorem dX8_digs_58 : decode cX8_digs 58 = .ok (.putfield 222, 3) := by decide +kernel
theorem dX8_digs_61 : decode cX8_digs 61 = .ok (.aload_n 0, 1) := by decide +kernel
theorem dX8_digs_62 : decode cX8_digs 62 = .ok (.getfield 33, 3) := by decide +kernel
theorem dX8_digs_65 : decode cX8_digs 65 = .ok (.getfield 222, 3) := by decide +kernel
theorem dX8_digs_68 : decode cX8_digs 68 = .ok (.ireturn, 1) := by decide +kernel
theorem dX8_night_0 : decode cX8_night 0 = .ok (.aload_n 0, 1) := by decide +kernel
theorem dX8_night_1 : decode cX8_night 1 = .ok (.invokevirtual 225, 3) := by decide +kernel
theorem dX8_night_4 : decode cX8_night 4 = .ok (.istore_n 1, 1) := by decide +kernel
theorem dX8_night_5 : decode cX8_night 5 = .ok (.iload_n 1, 1) := by decide +kernel
theorem dX8_night_6 : decode cX8_night 6 = .ok (.iconst (-1), 1) := by decide +kernel
theorem dX8_night_7 : decode cX8_night 7 = .ok (.if_icmp .eq 14, 3) := by decide +kernel
theorem dX8_night_10 : decode cX8_night 10 = .ok (.aload_n 0, 1) := by decide +kernel
theorem dX8_night_11 : decode cX8_night 11 = .ok (.getfield 10, 3) := by decide +kernel
theorem dX8_night_14 : decode cX8_night 14 = .ok (.invokevirtual 111, 3) := by decide +kernel
theorem dX8_night_17 : decode cX8_night 17 = .ok (.iconst (-1), 1) := by decide +kernel
theorem dX8_night_18 : decode cX8_night 18 = .ok (.iload_n 1, 1) := by decide +kernel
theorem dX8_night_19 : decode cX8_night 19 = .ok (.isub, 1) := by decide +kernel
theorem dX8_night_20 : decode cX8_night 20 = .ok (.ireturn, 1) := by decide +kernel
theorem dX8_night_21 : decode cX8_night 21 = .ok (.aload_n 0, 1) := by decide +kernel
theorem dX8_night_22 : decode cX8_night 22 = .ok (.getfield 43, 3) := by decide +kernel
theorem dX8_night_25 : decode cX8_night 25 = .ok (.aload_n 0, 1) := by decide +kernel
theorem dX8_night_26 : decode cX8_night 26 = .ok (.getfield 33, 3) := by decide +kernel
theorem dX8_night_29 : decode cX8_night 29 = .ok (.invokevirtual 115, 3) := by decide +kernel
theorem dX8_night_32 : decode cX8_night 32 = .ok (.iconst 0, 1) := by decide +kernel
theorem dX8_night_33 : decode cX8_night 33 = .ok (.istore_n 2, 1) := by decide +kernel
theorem dX8_night_34 : decode cX8_night 34 = .ok (.iconst 0, 1) := by decide +kernel
theorem dX8_night_35 : decode cX8_night 35 = .ok (.istore_n 3, 1) := by decide +kernel
theorem dX8_night_36 : decode cX8_night 36 = .ok (.iconst 0, 1) := by decide +kernel
theorem dX8_night_37 : decode cX8_night 37 = .ok (.istore 4, 2) := by decide +kernel
theorem dX8_night_39 : decode cX8_night 39 = .ok (.iload 4, 2) := by decide +kernel
theorem dX8_night_41 : decode cX8_night 41 = .ok (.aload_n 0, 1) := by decide +kernel
