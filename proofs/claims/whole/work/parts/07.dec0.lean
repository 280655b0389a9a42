theorem dX0_init_0 : decode cX0_init 0 = .ok (.aload_n 0, 1) := by decide +kernel
theorem dX0_init_1 : decode cX0_init 1 = .ok (.invokespecial 3, 3) := by decide +kernel
theorem dX0_init_4 : decode cX0_init 4 = .ok (.aload_n 0, 1) := by decide +kernel
theorem dX0_init_5 : decode cX0_init 5 = .ok (.new 9, 3) := by decide +kernel
theorem dX0_init_8 : decode cX0_init 8 = .ok (.dup, 1) := by decide +kernel
theorem dX0_init_9 : decode cX0_init 9 = .ok (.bipush 6, 2) := by decide +kernel
theorem dX0_init_11 : decode cX0_init 11 = .ok (.iconst 3, 1) := by decide +kernel
theorem dX0_init_12 : decode cX0_init 12 = .ok (.invokespecial 11, 3) := by decide +kernel
theorem dX0_init_15 : decode cX0_init 15 = .ok (.putfield 14, 3) := by decide +kernel
theorem dX0_init_18 : decode cX0_init 18 = .ok (.aload_n 0, 1) := by decide +kernel
theorem dX0_init_19 : decode cX0_init 19 = .ok (.iconst 4, 1) := by decide +kernel
theorem dX0_init_20 : decode cX0_init 20 = .ok (.newarray .int, 2) := by decide +kernel
theorem dX0_init_22 : decode cX0_init 22 = .ok (.putfield 20, 3) := by decide +kernel
theorem dX0_init_25 : decode cX0_init 25 = .ok (.aload_n 0, 1) := by decide +kernel
theorem dX0_init_26 : decode cX0_init 26 = .ok (.new 9, 3) := by decide +kernel
theorem dX0_init_29 : decode cX0_init 29 = .ok (.dup, 1) := by decide +kernel
theorem dX0_init_30 : decode cX0_init 30 = .ok (.bipush 16, 2) := by decide +kernel
theorem dX0_init_32 : decode cX0_init 32 = .ok (.bipush 6, 2) := by decide +kernel
theorem dX0_init_34 : decode cX0_init 34 = .ok (.invokespecial 11, 3) := by decide +kernel
theorem dX0_init_37 : decode cX0_init 37 = .ok (.putfield 24, 3) := by decide +kernel
theorem dX0_init_40 : decode cX0_init 40 = .ok (.aload_n 0, 1) := by decide +kernel
theorem dX0_init_41 : decode cX0_init 41 = .ok (.new 9, 3) := by decide +kernel
theorem dX0_init_44 : decode cX0_init 44 = .ok (.dup, 1) := by decide +kernel
theorem dX0_init_45 : decode cX0_init 45 = .ok (.bipush 16, 2) := by decide +kernel
theorem dX0_init_47 : decode cX0_init 47 = .ok (.bipush 6, 2) := by decide +kernel
theorem dX0_init_49 : decode cX0_init 49 = .ok (.invokespecial 11, 3) := by decide +kernel
theorem dX0_init_52 : decode cX0_init 52 = .ok (.putfield 27, 3) := by decide +kernel
theorem dX0_init_55 : decode cX0_init 55 = .ok (.aload_n 0, 1) := by decide +kernel
theorem dX0_init_56 : decode cX0_init 56 = .ok (.new 9, 3) := by decide +kernel
theorem dX0_init_59 : decode cX0_init 59 = .ok (.dup, 1) := by decide +kernel
theorem dX0_init_60 : decode cX0_init 60 = .ok (.bipush 16, 2) := by decide +kernel
theorem dX0_init_62 : decode cX0_init 62 = .ok (.bipush 6, 2) := by decide +kernel
theorem dX0_init_64 : decode cX0_init 64 = .ok (.invokespecial 11, 3) := by decide +kernel
theorem dX0_init_67 : decode cX0_init 67 = .ok (.putfield 30, 3) := by decide +kernel
theorem dX0_init_70 : decode cX0_init 70 = .ok (.aload_n 0, 1) := by decide +kernel
theorem dX0_init_71 : decode cX0_init 71 = .ok (.new 9, 3) := by decide +kernel
theorem dX0_init_74 : decode cX0_init 74 = .ok (.dup, 1) := by decide +kernel
theorem dX0_init_75 : decode cX0_init 75 = .ok (.iconst 4, 1) := by decide +kernel
theorem dX0_init_76 : decode cX0_init 76 = .ok (.iconst 1, 1) := by decide +kernel
theorem dX0_init_77 : decode cX0_init 77 = .ok (.invokespecial 11, 3) := by decide +kernel
theorem dX0_init_80 : decode cX0_init 80 = .ok (.putfield 33, 3) := by decide +kernel
theorem dX0_init_83 : decode cX0_init 83 = .ok (.aload_n 0, 1) := by decide +kernel
theorem dX0_init_84 : decode cX0_init 84 = .ok (.new 9, 3) := by decide +kernel
theorem dX0_init_87 : decode cX0_init 87 = .ok (.dup, 1) := by decide +kernel
theorem dX0_init_88 : decode cX0_init 88 = .ok (.bipush 30, 2) := by decide +kernel
theorem dX0_init_90 : decode cX0_init 90 = .ok (.iconst 4, 1) := by decide +kernel
theorem dX0_init_91 : decode cX0_init 91 = .ok (.invokespecial 11, 3) := by decide +kernel
theorem dX0_init_94 : decode cX0_init 94 = .ok (.putfield 36, 3) := by decide +kernel
theorem dX0_init_97 : decode cX0_init 97 = .ok (.aload_n 0, 1) := by decide +kernel
theorem dX0_init_98 : decode cX0_init 98 = .ok (.new 39, 3) := by decide +kernel
theorem dX0_init_101 : decode cX0_init 101 = .ok (.dup, 1) := by decide +kernel
theorem dX0_init_102 : decode cX0_init 102 = .ok (.invokespecial 41, 3) := by decide +kernel
theorem dX0_init_105 : decode cX0_init 105 = .ok (.putfield 42, 3) := by decide +kernel
theorem dX0_init_108 : decode cX0_init 108 = .ok (.return_, 1) := by decide +kernel
theorem dX0_clear_0 : decode cX0_clear 0 = .ok (.aload_n 0, 1) := by decide +kernel
theorem dX0_clear_1 : decode cX0_clear 1 = .ok (.invokevirtual 46, 3) := by decide +kernel
theorem dX0_clear_4 : decode cX0_clear 4 = .ok (.aload_n 0, 1) := by decide +kernel
theorem dX0_clear_5 : decode cX0_clear 5 = .ok (.getfield 42, 3) := by decide +kernel
theorem dX0_clear_8 : decode cX0_clear 8 = .ok (.invokevirtual 49, 3) := by decide +kernel
theorem dX0_clear_11 : decode cX0_clear 11 = .ok (.aload_n 0, 1) := by decide +kernel
theorem dX0_clear_12 : decode cX0_clear 12 = .ok (.getfield 36, 3) := by decide +kernel
theorem dX0_clear_15 : decode cX0_clear 15 = .ok (.invokevirtual 52, 3) := by decide +kernel
theorem dX0_clear_18 : decode cX0_clear 18 = .ok (.aload_n 0, 1) := by decide +kernel
theorem dX0_clear_19 : decode cX0_clear 19 = .ok (.iconst 0, 1) := by decide +kernel
theorem dX0_clear_20 : decode cX0_clear 20 = .ok (.putfield 55, 3) := by decide +kernel
theorem dX0_clear_23 : decode cX0_clear 23 = .ok (.aload_n 0, 1) := by decide +kernel
theorem dX0_clear_24 : decode cX0_clear 24 = .ok (.iconst 0, 1) := by decide +kernel
theorem dX0_clear_25 : decode cX0_clear 25 = .ok (.putfield 59, 3) := by decide +kernel
theorem dX0_clear_28 : decode cX0_clear 28 = .ok (.aload_n 0, 1) := by decide +kernel
theorem dX0_clear_29 : decode cX0_clear 29 = .ok (.iconst 0, 1) := by decide +kernel
theorem dX0_clear_30 : decode cX0_clear 30 = .ok (.putfield 62, 3) := by decide +kernel
theorem dX0_clear_33 : decode cX0_clear 33 = .ok (.aload_n 0, 1) := by decide +kernel
theorem dX0_clear_34 : decode cX0_clear 34 = .ok (.iconst 0, 1) := by decide +kernel
theorem dX0_clear_35 : decode cX0_clear 35 = .ok (.putfield 65, 3) := by decide +kernel
theorem dX0_clear_38 : decode cX0_clear 38 = .ok (.return_, 1) := by decide +kernel
theorem dX0_clearSession_0 : decode cX0_clearSession 0 = .ok (.aload_n 0, 1) := by decide +kernel
theorem dX0_clearSession_1 : decode cX0_clearSession 1 = .ok (.iconst 0, 1) := by decide +kernel
theorem dX0_clearSession_2 : decode cX0_clearSession 2 = .ok (.putfield 68, 3) := by decide +kernel
theorem dX0_clearSession_5 : decode cX0_clearSession 5 = .ok (.aload_n 0, 1) := by decide +kernel
theorem dX0_clearSession_6 : decode cX0_clearSession 6 = .ok (.iconst 0, 1) := by decide +kernel
theorem dX0_clearSession_7 : decode cX0_clearSession 7 = .ok (.putfield 71, 3) := by decide +kernel
theorem dX0_clearSession_10 : decode cX0_clearSession 10 = .ok (.aload_n 0, 1) := by decide +kernel
theorem dX0_clearSession_11 : decode cX0_clearSession 11 = .ok (.iconst 0, 1) := by decide +kernel
theorem dX0_clearSession_12 : decode cX0_clearSession 12 = .ok (.putfield 74, 3) := by decide +kernel
theorem dX0_clearSession_15 : decode cX0_clearSession 15 = .ok (.aload_n 0, 1) := by decide +kernel
theorem dX0_clearSession_16 : decode cX0_clearSession 16 = .ok (.iconst 0, 1) := by decide +kernel
theorem dX0_clearSession_17 : decode cX0_clearSession 17 = .ok (.putfield 77, 3) := by decide +kernel
theorem dX0_clearSession_20 : decode cX0_clearSession 20 = .ok (.aload_n 0, 1) := by decide +kernel
theorem dX0_clearSession_21 : decode cX0_clearSession 21 = .ok (.iconst 0, 1) := by decide +kernel
theorem dX0_clearSession_22 : decode cX0_clearSession 22 = .ok (.putfield 80, 3) := by decide +kernel
theorem dX0_clearSession_25 : decode cX0_clearSession 25 = .ok (.aload_n 0, 1) := by decide +kernel
theorem dX0_clearSession_26 : decode cX0_clearSession 26 = .ok (.getfield 14, 3) := by decide +kernel
theorem dX0_clearSession_29 : decode cX0_clearSession 29 = .ok (.invokevirtual 52, 3) := by decide +kernel
theorem dX0_clearSession_32 : decode cX0_clearSession 32 = .ok (.iconst 0, 1) := by decide +kernel
theorem dX0_clearSession_33 : decode cX0_clearSession 33 = .ok (.istore_n 1, 1) := by decide +kernel
theorem dX0_clearSession_34 : decode cX0_clearSession 34 = .ok (.iload_n 1, 1) := by decide +kernel
theorem dX0_clearSession_35 : decode cX0_clearSession 35 = .ok (.iconst 4, 1) := by decide +kernel
theorem dX0_clearSession_36 : decode cX0_clearSession 36 = .ok (.if_icmp .ge 16, 3) := by decide +kernel
theorem dX0_clearSession_39 : decode cX0_clearSession 39 = .ok (.aload_n 0, 1) := by decide +kernel
theorem dX0_clearSession_40 : decode cX0_clearSession 40 = .ok (.getfield 20, 3) := by decide +kernel
theorem dX0_clearSession_43 : decode cX0_clearSession 43 = .ok (.iload_n 1, 1) := by decide +kernel
theorem dX0_clearSession_44 : decode cX0_clearSession 44 = .ok (.iconst 0, 1) := by decide +kernel
theorem dX0_clearSession_45 : decode cX0_clearSession 45 = .ok (.iastore, 1) := by decide +kernel
theorem dX0_clearSession_46 : decode cX0_clearSession 46 = .ok (.iinc 1 1, 3) := by decide +kernel
theorem dX0_clearSession_49 : decode cX0_clearSession 49 = .ok (.goto (-15), 3) := by decide +kernel
theorem dX0_clearSession_52 : decode cX0_clearSession 52 = .ok (.aload_n 0, 1) := by decide +kernel
theorem dX0_clearSession_53 : decode cX0_clearSession 53 = .ok (.getfield 24, 3) := by decide +kernel
theorem dX0_clearSession_56 : decode cX0_clearSession 56 = .ok (.invokevirtual 52, 3) := by decide +kernel
theorem dX0_clearSession_59 : decode cX0_clearSession 59 = .ok (.aload_n 0, 1) := by decide +kernel
theorem dX0_clearSession_60 : decode cX0_clearSession 60 = .ok (.invokevirtual 85, 3) := by decide +kernel
theorem dX0_clearSession_63 : decode cX0_clearSession 63 = .ok (.aload_n 0, 1) := by decide +kernel
theorem dX0_clearSession_64 : decode cX0_clearSession 64 = .ok (.getfield 33, 3) := by decide +kernel
theorem dX0_clearSession_67 : decode cX0_clearSession 67 = .ok (.invokevirtual 52, 3) := by decide +kernel
theorem dX0_clearSession_70 : decode cX0_clearSession 70 = .ok (.return_, 1) := by decide +kernel
theorem dX0_awaken_0 : decode cX0_awaken 0 = .ok (.aload_n 0, 1) := by decide +kernel
theorem dX0_awaken_1 : decode cX0_awaken 1 = .ok (.iconst 1, 1) := by decide +kernel
theorem dX0_awaken_2 : decode cX0_awaken 2 = .ok (.putfield 68, 3) := by decide +kernel
theorem dX0_awaken_5 : decode cX0_awaken 5 = .ok (.aload_n 0, 1) := by decide +kernel
theorem dX0_awaken_6 : decode cX0_awaken 6 = .ok (.iload_n 1, 1) := by decide +kernel
theorem dX0_awaken_7 : decode cX0_awaken 7 = .ok (.putfield 71, 3) := by decide +kernel
theorem dX0_awaken_10 : decode cX0_awaken 10 = .ok (.aload_n 0, 1) := by decide +kernel
theorem dX0_awaken_11 : decode cX0_awaken 11 = .ok (.invokevirtual 85, 3) := by decide +kernel
theorem dX0_awaken_14 : decode cX0_awaken 14 = .ok (.aload_n 0, 1) := by decide +kernel
theorem dX0_awaken_15 : decode cX0_awaken 15 = .ok (.getfield 42, 3) := by decide +kernel
theorem dX0_awaken_18 : decode cX0_awaken 18 = .ok (.invokevirtual 49, 3) := by decide +kernel
theorem dX0_awaken_21 : decode cX0_awaken 21 = .ok (.aload_n 0, 1) := by decide +kernel
theorem dX0_awaken_22 : decode cX0_awaken 22 = .ok (.invokevirtual 88, 3) := by decide +kernel
theorem dX0_awaken_25 : decode cX0_awaken 25 = .ok (.pop, 1) := by decide +kernel
theorem dX0_awaken_26 : decode cX0_awaken 26 = .ok (.aload_n 0, 1) := by decide +kernel
theorem dX0_awaken_27 : decode cX0_awaken 27 = .ok (.invokevirtual 92, 3) := by decide +kernel
theorem dX0_awaken_30 : decode cX0_awaken 30 = .ok (.return_, 1) := by decide +kernel
theorem dX0_fallAsleep_0 : decode cX0_fallAsleep 0 = .ok (.aload_n 0, 1) := by decide +kernel
theorem dX0_fallAsleep_1 : decode cX0_fallAsleep 1 = .ok (.iconst 2, 1) := by decide +kernel
theorem dX0_fallAsleep_2 : decode cX0_fallAsleep 2 = .ok (.putfield 68, 3) := by decide +kernel
theorem dX0_fallAsleep_5 : decode cX0_fallAsleep 5 = .ok (.aload_n 0, 1) := by decide +kernel
theorem dX0_fallAsleep_6 : decode cX0_fallAsleep 6 = .ok (.iload_n 1, 1) := by decide +kernel
theorem dX0_fallAsleep_7 : decode cX0_fallAsleep 7 = .ok (.aload_n 0, 1) := by decide +kernel
theorem dX0_fallAsleep_8 : decode cX0_fallAsleep 8 = .ok (.getfield 71, 3) := by decide +kernel
theorem dX0_fallAsleep_11 : decode cX0_fallAsleep 11 = .ok (.iadd, 1) := by decide +kernel
theorem dX0_fallAsleep_12 : decode cX0_fallAsleep 12 = .ok (.putfield 74, 3) := by decide +kernel
theorem dX0_fallAsleep_15 : decode cX0_fallAsleep 15 = .ok (.aload_n 0, 1) := by decide +kernel
theorem dX0_fallAsleep_16 : decode cX0_fallAsleep 16 = .ok (.invokevirtual 85, 3) := by decide +kernel
theorem dX0_fallAsleep_19 : decode cX0_fallAsleep 19 = .ok (.return_, 1) := by decide +kernel
theorem dX0_beToldAsleep_0 : decode cX0_beToldAsleep 0 = .ok (.aload_n 0, 1) := by decide +kernel
theorem dX0_beToldAsleep_1 : decode cX0_beToldAsleep 1 = .ok (.iconst 2, 1) := by decide +kernel
theorem dX0_beToldAsleep_2 : decode cX0_beToldAsleep 2 = .ok (.putfield 68, 3) := by decide +kernel
theorem dX0_beToldAsleep_5 : decode cX0_beToldAsleep 5 = .ok (.aload_n 0, 1) := by decide +kernel
theorem dX0_beToldAsleep_6 : decode cX0_beToldAsleep 6 = .ok (.bipush 99, 2) := by decide +kernel
theorem dX0_beToldAsleep_8 : decode cX0_beToldAsleep 8 = .ok (.putfield 71, 3) := by decide +kernel
theorem dX0_beToldAsleep_11 : decode cX0_beToldAsleep 11 = .ok (.aload_n 0, 1) := by decide +kernel
theorem dX0_beToldAsleep_12 : decode cX0_beToldAsleep 12 = .ok (.bipush 99, 2) := by decide +kernel
theorem dX0_beToldAsleep_14 : decode cX0_beToldAsleep 14 = .ok (.putfield 74, 3) := by decide +kernel
theorem dX0_beToldAsleep_17 : decode cX0_beToldAsleep 17 = .ok (.return_, 1) := by decide +kernel
theorem dX0_clearLines_0 : decode cX0_clearLines 0 = .ok (.aload_n 0, 1) := by decide +kernel
theorem dX0_clearLines_1 : decode cX0_clearLines 1 = .ok (.getfield 27, 3) := by decide +kernel
theorem dX0_clearLines_4 : decode cX0_clearLines 4 = .ok (.invokevirtual 52, 3) := by decide +kernel
theorem dX0_clearLines_7 : decode cX0_clearLines 7 = .ok (.aload_n 0, 1) := by decide +kernel
theorem dX0_clearLines_8 : decode cX0_clearLines 8 = .ok (.getfield 30, 3) := by decide +kernel
theorem dX0_clearLines_11 : decode cX0_clearLines 11 = .ok (.invokevirtual 52, 3) := by decide +kernel
theorem dX0_clearLines_14 : decode cX0_clearLines 14 = .ok (.return_, 1) := by decide +kernel
theorem dX0_packets_0 : decode cX0_packets 0 = .ok (.iload_n 1, 1) := by decide +kernel
theorem dX0_packets_1 : decode cX0_packets 1 = .ok (.ifCond .ne 10, 3) := by decide +kernel
theorem dX0_packets_4 : decode cX0_packets 4 = .ok (.aload_n 0, 1) := by decide +kernel
theorem dX0_packets_5 : decode cX0_packets 5 = .ok (.getfield 27, 3) := by decide +kernel
theorem dX0_packets_8 : decode cX0_packets 8 = .ok (.goto 7, 3) := by decide +kernel
theorem dX0_packets_11 : decode cX0_packets 11 = .ok (.aload_n 0, 1) := by decide +kernel
theorem dX0_packets_12 : decode cX0_packets 12 = .ok (.getfield 30, 3) := by decide +kernel
theorem dX0_packets_15 : decode cX0_packets 15 = .ok (.areturn, 1) := by decide +kernel
theorem dX0_findSubscription_0 : decode cX0_findSubscription 0 = .ok (.iconst 0, 1) := by decide +kernel
theorem dX0_findSubscription_1 : decode cX0_findSubscription 1 = .ok (.istore_n 3, 1) := by decide +kernel
theorem dX0_findSubscription_2 : decode cX0_findSubscription 2 = .ok (.iload_n 3, 1) := by decide +kernel
theorem dX0_findSubscription_3 : decode cX0_findSubscription 3 = .ok (.aload_n 0, 1) := by decide +kernel
theorem dX0_findSubscription_4 : decode cX0_findSubscription 4 = .ok (.getfield 14, 3) := by decide +kernel
theorem dX0_findSubscription_7 : decode cX0_findSubscription 7 = .ok (.getfield 95, 3) := by decide +kernel
theorem dX0_findSubscription_10 : decode cX0_findSubscription 10 = .ok (.if_icmp .ge 37, 3) := by decide +kernel
theorem dX0_findSubscription_13 : decode cX0_findSubscription 13 = .ok (.aload_n 0, 1) := by decide +kernel
theorem dX0_findSubscription_14 : decode cX0_findSubscription 14 = .ok (.getfield 14, 3) := by decide +kernel
theorem dX0_findSubscription_17 : decode cX0_findSubscription 17 = .ok (.iload_n 3, 1) := by decide +kernel
theorem dX0_findSubscription_18 : decode cX0_findSubscription 18 = .ok (.iconst 0, 1) := by decide +kernel
theorem dX0_findSubscription_19 : decode cX0_findSubscription 19 = .ok (.invokevirtual 98, 3) := by decide +kernel
theorem dX0_findSubscription_22 : decode cX0_findSubscription 22 = .ok (.iload_n 1, 1) := by decide +kernel
theorem dX0_findSubscription_23 : decode cX0_findSubscription 23 = .ok (.if_icmp .ne 18, 3) := by decide +kernel
theorem dX0_findSubscription_26 : decode cX0_findSubscription 26 = .ok (.aload_n 0, 1) := by decide +kernel
theorem dX0_findSubscription_27 : decode cX0_findSubscription 27 = .ok (.getfield 14, 3) := by decide +kernel
theorem dX0_findSubscription_30 : decode cX0_findSubscription 30 = .ok (.iload_n 3, 1) := by decide +kernel
theorem dX0_findSubscription_31 : decode cX0_findSubscription 31 = .ok (.iconst 2, 1) := by decide +kernel
theorem dX0_findSubscription_32 : decode cX0_findSubscription 32 = .ok (.invokevirtual 98, 3) := by decide +kernel
theorem dX0_findSubscription_35 : decode cX0_findSubscription 35 = .ok (.iload_n 2, 1) := by decide +kernel
theorem dX0_findSubscription_36 : decode cX0_findSubscription 36 = .ok (.if_icmp .ne 5, 3) := by decide +kernel
theorem dX0_findSubscription_39 : decode cX0_findSubscription 39 = .ok (.iload_n 3, 1) := by decide +kernel
theorem dX0_findSubscription_40 : decode cX0_findSubscription 40 = .ok (.ireturn, 1) := by decide +kernel
theorem dX0_findSubscription_41 : decode cX0_findSubscription 41 = .ok (.iinc 3 1, 3) := by decide +kernel
theorem dX0_findSubscription_44 : decode cX0_findSubscription 44 = .ok (.goto (-42), 3) := by decide +kernel
theorem dX0_findSubscription_47 : decode cX0_findSubscription 47 = .ok (.iconst (-1), 1) := by decide +kernel
theorem dX0_findSubscription_48 : decode cX0_findSubscription 48 = .ok (.ireturn, 1) := by decide +kernel
theorem dX0_addSubscription_0 : decode cX0_addSubscription 0 = .ok (.aload_n 0, 1) := by decide +kernel
theorem dX0_addSubscription_1 : decode cX0_addSubscription 1 = .ok (.iload_n 1, 1) := by decide +kernel
theorem dX0_addSubscription_2 : decode cX0_addSubscription 2 = .ok (.iload_n 3, 1) := by decide +kernel
theorem dX0_addSubscription_3 : decode cX0_addSubscription 3 = .ok (.invokevirtual 102, 3) := by decide +kernel
theorem dX0_addSubscription_6 : decode cX0_addSubscription 6 = .ok (.istore 4, 2) := by decide +kernel
theorem dX0_addSubscription_8 : decode cX0_addSubscription 8 = .ok (.iload 4, 2) := by decide +kernel
theorem dX0_addSubscription_10 : decode cX0_addSubscription 10 = .ok (.ifCond .ge 34, 3) := by decide +kernel
theorem dX0_addSubscription_13 : decode cX0_addSubscription 13 = .ok (.aload_n 0, 1) := by decide +kernel
theorem dX0_addSubscription_14 : decode cX0_addSubscription 14 = .ok (.getfield 14, 3) := by decide +kernel
theorem dX0_addSubscription_17 : decode cX0_addSubscription 17 = .ok (.invokevirtual 105, 3) := by decide +kernel
theorem dX0_addSubscription_20 : decode cX0_addSubscription 20 = .ok (.istore 4, 2) := by decide +kernel
theorem dX0_addSubscription_22 : decode cX0_addSubscription 22 = .ok (.aload_n 0, 1) := by decide +kernel
theorem dX0_addSubscription_23 : decode cX0_addSubscription 23 = .ok (.getfield 14, 3) := by decide +kernel
theorem dX0_addSubscription_26 : decode cX0_addSubscription 26 = .ok (.iload 4, 2) := by decide +kernel
theorem dX0_addSubscription_28 : decode cX0_addSubscription 28 = .ok (.iconst 0, 1) := by decide +kernel
theorem dX0_addSubscription_29 : decode cX0_addSubscription 29 = .ok (.iload_n 1, 1) := by decide +kernel
theorem dX0_addSubscription_30 : decode cX0_addSubscription 30 = .ok (.invokevirtual 108, 3) := by decide +kernel
theorem dX0_addSubscription_33 : decode cX0_addSubscription 33 = .ok (.aload_n 0, 1) := by decide +kernel
theorem dX0_addSubscription_34 : decode cX0_addSubscription 34 = .ok (.getfield 14, 3) := by decide +kernel
theorem dX0_addSubscription_37 : decode cX0_addSubscription 37 = .ok (.iload 4, 2) := by decide +kernel
theorem dX0_addSubscription_39 : decode cX0_addSubscription 39 = .ok (.iconst 2, 1) := by decide +kernel
theorem dX0_addSubscription_40 : decode cX0_addSubscription 40 = .ok (.iload_n 3, 1) := by decide +kernel
theorem dX0_addSubscription_41 : decode cX0_addSubscription 41 = .ok (.invokevirtual 108, 3) := by decide +kernel
theorem dX0_addSubscription_44 : decode cX0_addSubscription 44 = .ok (.aload_n 0, 1) := by decide +kernel
theorem dX0_addSubscription_45 : decode cX0_addSubscription 45 = .ok (.getfield 14, 3) := by decide +kernel
theorem dX0_addSubscription_48 : decode cX0_addSubscription 48 = .ok (.iload 4, 2) := by decide +kernel
theorem dX0_addSubscription_50 : decode cX0_addSubscription 50 = .ok (.iconst 1, 1) := by decide +kernel
theorem dX0_addSubscription_51 : decode cX0_addSubscription 51 = .ok (.iload_n 2, 1) := by decide +kernel
theorem dX0_addSubscription_52 : decode cX0_addSubscription 52 = .ok (.invokevirtual 108, 3) := by decide +kernel
theorem dX0_addSubscription_55 : decode cX0_addSubscription 55 = .ok (.iload 4, 2) := by decide +kernel
theorem dX0_addSubscription_57 : decode cX0_addSubscription 57 = .ok (.ifCond .lt 7, 3) := by decide +kernel
theorem dX0_addSubscription_60 : decode cX0_addSubscription 60 = .ok (.iconst 1, 1) := by decide +kernel
theorem dX0_addSubscription_61 : decode cX0_addSubscription 61 = .ok (.goto 4, 3) := by decide +kernel
theorem dX0_addSubscription_64 : decode cX0_addSubscription 64 = .ok (.iconst 0, 1) := by decide +kernel
theorem dX0_addSubscription_65 : decode cX0_addSubscription 65 = .ok (.ireturn, 1) := by decide +kernel
theorem dX0_greatestPromise_0 : decode cX0_greatestPromise 0 = .ok (.iconst (-1), 1) := by decide +kernel
theorem dX0_greatestPromise_1 : decode cX0_greatestPromise 1 = .ok (.istore_n 2, 1) := by decide +kernel
theorem dX0_greatestPromise_2 : decode cX0_greatestPromise 2 = .ok (.iconst 0, 1) := by decide +kernel
theorem dX0_greatestPromise_3 : decode cX0_greatestPromise 3 = .ok (.istore_n 3, 1) := by decide +kernel
theorem dX0_greatestPromise_4 : decode cX0_greatestPromise 4 = .ok (.iload_n 3, 1) := by decide +kernel
theorem dX0_greatestPromise_5 : decode cX0_greatestPromise 5 = .ok (.aload_n 0, 1) := by decide +kernel
theorem dX0_greatestPromise_6 : decode cX0_greatestPromise 6 = .ok (.getfield 14, 3) := by decide +kernel
theorem dX0_greatestPromise_9 : decode cX0_greatestPromise 9 = .ok (.getfield 95, 3) := by decide +kernel
theorem dX0_greatestPromise_12 : decode cX0_greatestPromise 12 = .ok (.if_icmp .ge 51, 3) := by decide +kernel
theorem dX0_greatestPromise_15 : decode cX0_greatestPromise 15 = .ok (.aload_n 0, 1) := by decide +kernel
theorem dX0_greatestPromise_16 : decode cX0_greatestPromise 16 = .ok (.getfield 14, 3) := by decide +kernel
theorem dX0_greatestPromise_19 : decode cX0_greatestPromise 19 = .ok (.iload_n 3, 1) := by decide +kernel
theorem dX0_greatestPromise_20 : decode cX0_greatestPromise 20 = .ok (.iconst 2, 1) := by decide +kernel
theorem dX0_greatestPromise_21 : decode cX0_greatestPromise 21 = .ok (.invokevirtual 98, 3) := by decide +kernel
theorem dX0_greatestPromise_24 : decode cX0_greatestPromise 24 = .ok (.ifCond .ne 33, 3) := by decide +kernel
theorem dX0_greatestPromise_27 : decode cX0_greatestPromise 27 = .ok (.aload_n 0, 1) := by decide +kernel
theorem dX0_greatestPromise_28 : decode cX0_greatestPromise 28 = .ok (.getfield 14, 3) := by decide +kernel
theorem dX0_greatestPromise_31 : decode cX0_greatestPromise 31 = .ok (.iload_n 3, 1) := by decide +kernel
theorem dX0_greatestPromise_32 : decode cX0_greatestPromise 32 = .ok (.iconst 0, 1) := by decide +kernel
theorem dX0_greatestPromise_33 : decode cX0_greatestPromise 33 = .ok (.invokevirtual 98, 3) := by decide +kernel
theorem dX0_greatestPromise_36 : decode cX0_greatestPromise 36 = .ok (.iload_n 1, 1) := by decide +kernel
theorem dX0_greatestPromise_37 : decode cX0_greatestPromise 37 = .ok (.invokestatic 112, 3) := by decide +kernel
theorem dX0_greatestPromise_40 : decode cX0_greatestPromise 40 = .ok (.ifCond .eq 17, 3) := by decide +kernel
theorem dX0_greatestPromise_43 : decode cX0_greatestPromise 43 = .ok (.iload_n 2, 1) := by decide +kernel
theorem dX0_greatestPromise_44 : decode cX0_greatestPromise 44 = .ok (.aload_n 0, 1) := by decide +kernel
theorem dX0_greatestPromise_45 : decode cX0_greatestPromise 45 = .ok (.getfield 14, 3) := by decide +kernel
theorem dX0_greatestPromise_48 : decode cX0_greatestPromise 48 = .ok (.iload_n 3, 1) := by decide +kernel
theorem dX0_greatestPromise_49 : decode cX0_greatestPromise 49 = .ok (.iconst 1, 1) := by decide +kernel
theorem dX0_greatestPromise_50 : decode cX0_greatestPromise 50 = .ok (.invokevirtual 98, 3) := by decide +kernel
theorem dX0_greatestPromise_53 : decode cX0_greatestPromise 53 = .ok (.invokestatic 116, 3) := by decide +kernel
theorem dX0_greatestPromise_56 : decode cX0_greatestPromise 56 = .ok (.istore_n 2, 1) := by decide +kernel
theorem dX0_greatestPromise_57 : decode cX0_greatestPromise 57 = .ok (.iinc 3 1, 3) := by decide +kernel
theorem dX0_greatestPromise_60 : decode cX0_greatestPromise 60 = .ok (.goto (-56), 3) := by decide +kernel
theorem dX0_greatestPromise_63 : decode cX0_greatestPromise 63 = .ok (.iload_n 2, 1) := by decide +kernel
theorem dX0_greatestPromise_64 : decode cX0_greatestPromise 64 = .ok (.ireturn, 1) := by decide +kernel
theorem dX0_findShare_0 : decode cX0_findShare 0 = .ok (.aload_n 0, 1) := by decide +kernel
theorem dX0_findShare_1 : decode cX0_findShare 1 = .ok (.iload_n 1, 1) := by decide +kernel
theorem dX0_findShare_2 : decode cX0_findShare 2 = .ok (.invokestatic 121, 3) := by decide +kernel
theorem dX0_findShare_5 : decode cX0_findShare 5 = .ok (.iload_n 1, 1) := by decide +kernel
theorem dX0_findShare_6 : decode cX0_findShare 6 = .ok (.invokestatic 125, 3) := by decide +kernel
theorem dX0_findShare_9 : decode cX0_findShare 9 = .ok (.invokevirtual 102, 3) := by decide +kernel
theorem dX0_findShare_12 : decode cX0_findShare 12 = .ok (.ireturn, 1) := by decide +kernel
theorem dX0_queued_0 : decode cX0_queued 0 = .ok (.aload_n 0, 1) := by decide +kernel
theorem dX0_queued_1 : decode cX0_queued 1 = .ok (.getfield 24, 3) := by decide +kernel
theorem dX0_queued_4 : decode cX0_queued 4 = .ok (.getfield 95, 3) := by decide +kernel
theorem dX0_queued_7 : decode cX0_queued 7 = .ok (.aload_n 0, 1) := by decide +kernel
theorem dX0_queued_8 : decode cX0_queued 8 = .ok (.getfield 77, 3) := by decide +kernel
theorem dX0_queued_11 : decode cX0_queued 11 = .ok (.isub, 1) := by decide +kernel
theorem dX0_queued_12 : decode cX0_queued 12 = .ok (.ireturn, 1) := by decide +kernel
theorem dX0_receive_0 : decode cX0_receive 0 = .ok (.aload_n 0, 1) := by decide +kernel
theorem dX0_receive_1 : decode cX0_receive 1 = .ok (.dup, 1) := by decide +kernel
theorem dX0_receive_2 : decode cX0_receive 2 = .ok (.getfield 55, 3) := by decide +kernel
theorem dX0_receive_5 : decode cX0_receive 5 = .ok (.iconst 1, 1) := by decide +kernel
theorem dX0_receive_6 : decode cX0_receive 6 = .ok (.iadd, 1) := by decide +kernel
theorem dX0_receive_7 : decode cX0_receive 7 = .ok (.putfield 55, 3) := by decide +kernel
theorem dX0_receive_10 : decode cX0_receive 10 = .ok (.iload_n 3, 1) := by decide +kernel
theorem dX0_receive_11 : decode cX0_receive 11 = .ok (.ifCond .ne 14, 3) := by decide +kernel
theorem dX0_receive_14 : decode cX0_receive 14 = .ok (.aload_n 0, 1) := by decide +kernel
theorem dX0_receive_15 : decode cX0_receive 15 = .ok (.iload_n 1, 1) := by decide +kernel
theorem dX0_receive_16 : decode cX0_receive 16 = .ok (.iload_n 2, 1) := by decide +kernel
theorem dX0_receive_17 : decode cX0_receive 17 = .ok (.iload 4, 2) := by decide +kernel
theorem dX0_receive_19 : decode cX0_receive 19 = .ok (.invokevirtual 128, 3) := by decide +kernel
theorem dX0_receive_22 : decode cX0_receive 22 = .ok (.goto 86, 3) := by decide +kernel
theorem dX0_receive_25 : decode cX0_receive 25 = .ok (.aload_n 0, 1) := by decide +kernel
theorem dX0_receive_26 : decode cX0_receive 26 = .ok (.invokevirtual 132, 3) := by decide +kernel
theorem dX0_receive_29 : decode cX0_receive 29 = .ok (.bipush 12, 2) := by decide +kernel
theorem dX0_receive_31 : decode cX0_receive 31 = .ok (.if_icmp .lt 16, 3) := by decide +kernel
theorem dX0_receive_34 : decode cX0_receive 34 = .ok (.aload_n 0, 1) := by decide +kernel
theorem dX0_receive_35 : decode cX0_receive 35 = .ok (.dup, 1) := by decide +kernel
theorem dX0_receive_36 : decode cX0_receive 36 = .ok (.getfield 59, 3) := by decide +kernel
theorem dX0_receive_39 : decode cX0_receive 39 = .ok (.iconst 1, 1) := by decide +kernel
theorem dX0_receive_40 : decode cX0_receive 40 = .ok (.iadd, 1) := by decide +kernel
theorem dX0_receive_41 : decode cX0_receive 41 = .ok (.putfield 59, 3) := by decide +kernel
theorem dX0_receive_44 : decode cX0_receive 44 = .ok (.goto 64, 3) := by decide +kernel
theorem dX0_receive_47 : decode cX0_receive 47 = .ok (.aload_n 0, 1) := by decide +kernel
theorem dX0_receive_48 : decode cX0_receive 48 = .ok (.getfield 24, 3) := by decide +kernel
theorem dX0_receive_51 : decode cX0_receive 51 = .ok (.invokevirtual 105, 3) := by decide +kernel
theorem dX0_receive_54 : decode cX0_receive 54 = .ok (.istore 5, 2) := by decide +kernel
theorem dX0_receive_56 : decode cX0_receive 56 = .ok (.aload_n 0, 1) := by decide +kernel
theorem dX0_receive_57 : decode cX0_receive 57 = .ok (.getfield 24, 3) := by decide +kernel
theorem dX0_receive_60 : decode cX0_receive 60 = .ok (.iload 5, 2) := by decide +kernel
theorem dX0_receive_62 : decode cX0_receive 62 = .ok (.iconst 1, 1) := by decide +kernel
theorem dX0_receive_63 : decode cX0_receive 63 = .ok (.iload_n 1, 1) := by decide +kernel
theorem dX0_receive_64 : decode cX0_receive 64 = .ok (.invokevirtual 108, 3) := by decide +kernel
theorem dX0_receive_67 : decode cX0_receive 67 = .ok (.aload_n 0, 1) := by decide +kernel
theorem dX0_receive_68 : decode cX0_receive 68 = .ok (.getfield 24, 3) := by decide +kernel
theorem dX0_receive_71 : decode cX0_receive 71 = .ok (.iload 5, 2) := by decide +kernel
theorem dX0_receive_73 : decode cX0_receive 73 = .ok (.iconst 2, 1) := by decide +kernel
theorem dX0_receive_74 : decode cX0_receive 74 = .ok (.iload_n 3, 1) := by decide +kernel
theorem dX0_receive_75 : decode cX0_receive 75 = .ok (.invokevirtual 108, 3) := by decide +kernel
theorem dX0_receive_78 : decode cX0_receive 78 = .ok (.aload_n 0, 1) := by decide +kernel
theorem dX0_receive_79 : decode cX0_receive 79 = .ok (.getfield 24, 3) := by decide +kernel
theorem dX0_receive_82 : decode cX0_receive 82 = .ok (.iload 5, 2) := by decide +kernel
theorem dX0_receive_84 : decode cX0_receive 84 = .ok (.iconst 3, 1) := by decide +kernel
theorem dX0_receive_85 : decode cX0_receive 85 = .ok (.iload_n 2, 1) := by decide +kernel
theorem dX0_receive_86 : decode cX0_receive 86 = .ok (.invokevirtual 108, 3) := by decide +kernel
theorem dX0_receive_89 : decode cX0_receive 89 = .ok (.aload_n 0, 1) := by decide +kernel
theorem dX0_receive_90 : decode cX0_receive 90 = .ok (.getfield 24, 3) := by decide +kernel
theorem dX0_receive_93 : decode cX0_receive 93 = .ok (.iload 5, 2) := by decide +kernel
theorem dX0_receive_95 : decode cX0_receive 95 = .ok (.iconst 5, 1) := by decide +kernel
theorem dX0_receive_96 : decode cX0_receive 96 = .ok (.iload 4, 2) := by decide +kernel
theorem dX0_receive_98 : decode cX0_receive 98 = .ok (.invokestatic 135, 3) := by decide +kernel
theorem dX0_receive_101 : decode cX0_receive 101 = .ok (.invokevirtual 108, 3) := by decide +kernel
theorem dX0_receive_104 : decode cX0_receive 104 = .ok (.aload_n 0, 1) := by decide +kernel
theorem dX0_receive_105 : decode cX0_receive 105 = .ok (.invokevirtual 92, 3) := by decide +kernel
theorem dX0_receive_108 : decode cX0_receive 108 = .ok (.return_, 1) := by decide +kernel
theorem dX0_receiveAtMostOnce_0 : decode cX0_receiveAtMostOnce 0 = .ok (.aload_n 0, 1) := by decide +kernel
theorem dX0_receiveAtMostOnce_1 : decode cX0_receiveAtMostOnce 1 = .ok (.getfield 68, 3) := by decide +kernel
theorem dX0_receiveAtMostOnce_4 : decode cX0_receiveAtMostOnce 4 = .ok (.iconst 1, 1) := by decide +kernel
theorem dX0_receiveAtMostOnce_5 : decode cX0_receiveAtMostOnce 5 = .ok (.if_icmp .eq 14, 3) := by decide +kernel
theorem dX0_receiveAtMostOnce_8 : decode cX0_receiveAtMostOnce 8 = .ok (.aload_n 0, 1) := by decide +kernel
theorem dX0_receiveAtMostOnce_9 : decode cX0_receiveAtMostOnce 9 = .ok (.dup, 1) := by decide +kernel
theorem dX0_receiveAtMostOnce_10 : decode cX0_receiveAtMostOnce 10 = .ok (.getfield 59, 3) := by decide +kernel
theorem dX0_receiveAtMostOnce_13 : decode cX0_receiveAtMostOnce 13 = .ok (.iconst 1, 1) := by decide +kernel
theorem dX0_receiveAtMostOnce_14 : decode cX0_receiveAtMostOnce 14 = .ok (.iadd, 1) := by decide +kernel
theorem dX0_receiveAtMostOnce_15 : decode cX0_receiveAtMostOnce 15 = .ok (.putfield 59, 3) := by decide +kernel
theorem dX0_receiveAtMostOnce_18 : decode cX0_receiveAtMostOnce 18 = .ok (.return_, 1) := by decide +kernel
theorem dX0_receiveAtMostOnce_19 : decode cX0_receiveAtMostOnce 19 = .ok (.aload_n 0, 1) := by decide +kernel
theorem dX0_receiveAtMostOnce_20 : decode cX0_receiveAtMostOnce 20 = .ok (.getfield 27, 3) := by decide +kernel
theorem dX0_receiveAtMostOnce_23 : decode cX0_receiveAtMostOnce 23 = .ok (.invokevirtual 105, 3) := by decide +kernel
theorem dX0_receiveAtMostOnce_26 : decode cX0_receiveAtMostOnce 26 = .ok (.istore 4, 2) := by decide +kernel
theorem dX0_receiveAtMostOnce_28 : decode cX0_receiveAtMostOnce 28 = .ok (.aload_n 0, 1) := by decide +kernel
theorem dX0_receiveAtMostOnce_29 : decode cX0_receiveAtMostOnce 29 = .ok (.getfield 27, 3) := by decide +kernel
theorem dX0_receiveAtMostOnce_32 : decode cX0_receiveAtMostOnce 32 = .ok (.iload 4, 2) := by decide +kernel
theorem dX0_receiveAtMostOnce_34 : decode cX0_receiveAtMostOnce 34 = .ok (.iconst 0, 1) := by decide +kernel
theorem dX0_receiveAtMostOnce_35 : decode cX0_receiveAtMostOnce 35 = .ok (.iconst 0, 1) := by decide +kernel
theorem dX0_receiveAtMostOnce_36 : decode cX0_receiveAtMostOnce 36 = .ok (.invokevirtual 108, 3) := by decide +kernel
theorem dX0_receiveAtMostOnce_39 : decode cX0_receiveAtMostOnce 39 = .ok (.aload_n 0, 1) := by decide +kernel
theorem dX0_receiveAtMostOnce_40 : decode cX0_receiveAtMostOnce 40 = .ok (.getfield 27, 3) := by decide +kernel
theorem dX0_receiveAtMostOnce_43 : decode cX0_receiveAtMostOnce 43 = .ok (.iload 4, 2) := by decide +kernel
theorem dX0_receiveAtMostOnce_45 : decode cX0_receiveAtMostOnce 45 = .ok (.iconst 2, 1) := by decide +kernel
theorem dX0_receiveAtMostOnce_46 : decode cX0_receiveAtMostOnce 46 = .ok (.iload_n 1, 1) := by decide +kernel
theorem dX0_receiveAtMostOnce_47 : decode cX0_receiveAtMostOnce 47 = .ok (.invokevirtual 108, 3) := by decide +kernel
theorem dX0_receiveAtMostOnce_50 : decode cX0_receiveAtMostOnce 50 = .ok (.aload_n 0, 1) := by decide +kernel
theorem dX0_receiveAtMostOnce_51 : decode cX0_receiveAtMostOnce 51 = .ok (.getfield 27, 3) := by decide +kernel
theorem dX0_receiveAtMostOnce_54 : decode cX0_receiveAtMostOnce 54 = .ok (.iload 4, 2) := by decide +kernel
theorem dX0_receiveAtMostOnce_56 : decode cX0_receiveAtMostOnce 56 = .ok (.iconst 4, 1) := by decide +kernel
theorem dX0_receiveAtMostOnce_57 : decode cX0_receiveAtMostOnce 57 = .ok (.iload_n 2, 1) := by decide +kernel
theorem dX0_receiveAtMostOnce_58 : decode cX0_receiveAtMostOnce 58 = .ok (.invokevirtual 108, 3) := by decide +kernel
theorem dX0_receiveAtMostOnce_61 : decode cX0_receiveAtMostOnce 61 = .ok (.aload_n 0, 1) := by decide +kernel
theorem dX0_receiveAtMostOnce_62 : decode cX0_receiveAtMostOnce 62 = .ok (.getfield 27, 3) := by decide +kernel
theorem dX0_receiveAtMostOnce_65 : decode cX0_receiveAtMostOnce 65 = .ok (.iload 4, 2) := by decide +kernel
theorem dX0_receiveAtMostOnce_67 : decode cX0_receiveAtMostOnce 67 = .ok (.iconst 5, 1) := by decide +kernel
theorem dX0_receiveAtMostOnce_68 : decode cX0_receiveAtMostOnce 68 = .ok (.iload_n 3, 1) := by decide +kernel
theorem dX0_receiveAtMostOnce_69 : decode cX0_receiveAtMostOnce 69 = .ok (.invokestatic 135, 3) := by decide +kernel
theorem dX0_receiveAtMostOnce_72 : decode cX0_receiveAtMostOnce 72 = .ok (.invokevirtual 108, 3) := by decide +kernel
theorem dX0_receiveAtMostOnce_75 : decode cX0_receiveAtMostOnce 75 = .ok (.return_, 1) := by decide +kernel
theorem dX0_launchQueued_0 : decode cX0_launchQueued 0 = .ok (.aload_n 0, 1) := by decide +kernel
theorem dX0_launchQueued_1 : decode cX0_launchQueued 1 = .ok (.getfield 68, 3) := by decide +kernel
theorem dX0_launchQueued_4 : decode cX0_launchQueued 4 = .ok (.iconst 1, 1) := by decide +kernel
theorem dX0_launchQueued_5 : decode cX0_launchQueued 5 = .ok (.if_icmp .eq 4, 3) := by decide +kernel
theorem dX0_launchQueued_8 : decode cX0_launchQueued 8 = .ok (.return_, 1) := by decide +kernel
theorem dX0_launchQueued_9 : decode cX0_launchQueued 9 = .ok (.aload_n 0, 1) := by decide +kernel
theorem dX0_launchQueued_10 : decode cX0_launchQueued 10 = .ok (.getfield 77, 3) := by decide +kernel
theorem dX0_launchQueued_13 : decode cX0_launchQueued 13 = .ok (.istore_n 1, 1) := by decide +kernel
theorem dX0_launchQueued_14 : decode cX0_launchQueued 14 = .ok (.iload_n 1, 1) := by decide +kernel
theorem dX0_launchQueued_15 : decode cX0_launchQueued 15 = .ok (.aload_n 0, 1) := by decide +kernel
theorem dX0_launchQueued_16 : decode cX0_launchQueued 16 = .ok (.getfield 24, 3) := by decide +kernel
theorem dX0_launchQueued_19 : decode cX0_launchQueued 19 = .ok (.getfield 95, 3) := by decide +kernel
theorem dX0_launchQueued_22 : decode cX0_launchQueued 22 = .ok (.if_icmp .ge 52, 3) := by decide +kernel
theorem dX0_launchQueued_25 : decode cX0_launchQueued 25 = .ok (.iload_n 1, 1) := by decide +kernel
theorem dX0_launchQueued_26 : decode cX0_launchQueued 26 = .ok (.iconst 4, 1) := by decide +kernel
theorem dX0_launchQueued_27 : decode cX0_launchQueued 27 = .ok (.if_icmp .ge 47, 3) := by decide +kernel
theorem dX0_launchQueued_30 : decode cX0_launchQueued 30 = .ok (.aload_n 0, 1) := by decide +kernel
theorem dX0_launchQueued_31 : decode cX0_launchQueued 31 = .ok (.dup, 1) := by decide +kernel
theorem dX0_launchQueued_32 : decode cX0_launchQueued 32 = .ok (.getfield 80, 3) := by decide +kernel
theorem dX0_launchQueued_35 : decode cX0_launchQueued 35 = .ok (.iconst 1, 1) := by decide +kernel
theorem dX0_launchQueued_36 : decode cX0_launchQueued 36 = .ok (.iadd, 1) := by decide +kernel
theorem dX0_launchQueued_37 : decode cX0_launchQueued 37 = .ok (.putfield 80, 3) := by decide +kernel
theorem dX0_launchQueued_40 : decode cX0_launchQueued 40 = .ok (.aload_n 0, 1) := by decide +kernel
theorem dX0_launchQueued_41 : decode cX0_launchQueued 41 = .ok (.dup, 1) := by decide +kernel
theorem dX0_launchQueued_42 : decode cX0_launchQueued 42 = .ok (.getfield 77, 3) := by decide +kernel
theorem dX0_launchQueued_45 : decode cX0_launchQueued 45 = .ok (.iconst 1, 1) := by decide +kernel
theorem dX0_launchQueued_46 : decode cX0_launchQueued 46 = .ok (.iadd, 1) := by decide +kernel
theorem dX0_launchQueued_47 : decode cX0_launchQueued 47 = .ok (.putfield 77, 3) := by decide +kernel
theorem dX0_launchQueued_50 : decode cX0_launchQueued 50 = .ok (.aload_n 0, 1) := by decide +kernel
theorem dX0_launchQueued_51 : decode cX0_launchQueued 51 = .ok (.getfield 24, 3) := by decide +kernel
theorem dX0_launchQueued_54 : decode cX0_launchQueued 54 = .ok (.iload_n 1, 1) := by decide +kernel
theorem dX0_launchQueued_55 : decode cX0_launchQueued 55 = .ok (.iconst 0, 1) := by decide +kernel
theorem dX0_launchQueued_56 : decode cX0_launchQueued 56 = .ok (.aload_n 0, 1) := by decide +kernel
theorem dX0_launchQueued_57 : decode cX0_launchQueued 57 = .ok (.getfield 80, 3) := by decide +kernel
theorem dX0_launchQueued_60 : decode cX0_launchQueued 60 = .ok (.invokevirtual 108, 3) := by decide +kernel
theorem dX0_launchQueued_63 : decode cX0_launchQueued 63 = .ok (.aload_n 0, 1) := by decide +kernel
theorem dX0_launchQueued_64 : decode cX0_launchQueued 64 = .ok (.iload_n 1, 1) := by decide +kernel
theorem dX0_launchQueued_65 : decode cX0_launchQueued 65 = .ok (.invokevirtual 139, 3) := by decide +kernel
theorem dX0_launchQueued_68 : decode cX0_launchQueued 68 = .ok (.iinc 1 1, 3) := by decide +kernel
theorem dX0_launchQueued_71 : decode cX0_launchQueued 71 = .ok (.goto (-57), 3) := by decide +kernel
theorem dX0_launchQueued_74 : decode cX0_launchQueued 74 = .ok (.return_, 1) := by decide +kernel
theorem dX0_sendAgain_0 : decode cX0_sendAgain 0 = .ok (.iconst 0, 1) := by decide +kernel
theorem dX0_sendAgain_1 : decode cX0_sendAgain 1 = .ok (.istore_n 1, 1) := by decide +kernel
theorem dX0_sendAgain_2 : decode cX0_sendAgain 2 = .ok (.iload_n 1, 1) := by decide +kernel
theorem dX0_sendAgain_3 : decode cX0_sendAgain 3 = .ok (.aload_n 0, 1) := by decide +kernel
theorem dX0_sendAgain_4 : decode cX0_sendAgain 4 = .ok (.getfield 77, 3) := by decide +kernel
theorem dX0_sendAgain_7 : decode cX0_sendAgain 7 = .ok (.if_icmp .ge 48, 3) := by decide +kernel
theorem dX0_sendAgain_10 : decode cX0_sendAgain 10 = .ok (.aload_n 0, 1) := by decide +kernel
theorem dX0_sendAgain_11 : decode cX0_sendAgain 11 = .ok (.getfield 24, 3) := by decide +kernel
theorem dX0_sendAgain_14 : decode cX0_sendAgain 14 = .ok (.iload_n 1, 1) := by decide +kernel
theorem dX0_sendAgain_15 : decode cX0_sendAgain 15 = .ok (.iconst 4, 1) := by decide +kernel
theorem dX0_sendAgain_16 : decode cX0_sendAgain 16 = .ok (.invokevirtual 98, 3) := by decide +kernel
theorem dX0_sendAgain_19 : decode cX0_sendAgain 19 = .ok (.iconst 1, 1) := by decide +kernel
theorem dX0_sendAgain_20 : decode cX0_sendAgain 20 = .ok (.if_icmp .ne 24, 3) := by decide +kernel
theorem dX0_sendAgain_23 : decode cX0_sendAgain 23 = .ok (.aload_n 0, 1) := by decide +kernel
theorem dX0_sendAgain_24 : decode cX0_sendAgain 24 = .ok (.aload_n 0, 1) := by decide +kernel
theorem dX0_sendAgain_25 : decode cX0_sendAgain 25 = .ok (.getfield 27, 3) := by decide +kernel
theorem dX0_sendAgain_28 : decode cX0_sendAgain 28 = .ok (.iconst 3, 1) := by decide +kernel
theorem dX0_sendAgain_29 : decode cX0_sendAgain 29 = .ok (.aload_n 0, 1) := by decide +kernel
theorem dX0_sendAgain_30 : decode cX0_sendAgain 30 = .ok (.getfield 24, 3) := by decide +kernel
theorem dX0_sendAgain_33 : decode cX0_sendAgain 33 = .ok (.iload_n 1, 1) := by decide +kernel
theorem dX0_sendAgain_34 : decode cX0_sendAgain 34 = .ok (.iconst 0, 1) := by decide +kernel
theorem dX0_sendAgain_35 : decode cX0_sendAgain 35 = .ok (.invokevirtual 98, 3) := by decide +kernel
theorem dX0_sendAgain_38 : decode cX0_sendAgain 38 = .ok (.invokevirtual 143, 3) := by decide +kernel
theorem dX0_sendAgain_41 : decode cX0_sendAgain 41 = .ok (.goto 8, 3) := by decide +kernel
theorem dX0_sendAgain_44 : decode cX0_sendAgain 44 = .ok (.aload_n 0, 1) := by decide +kernel
theorem dX0_sendAgain_45 : decode cX0_sendAgain 45 = .ok (.iload_n 1, 1) := by decide +kernel
theorem dX0_sendAgain_46 : decode cX0_sendAgain 46 = .ok (.invokevirtual 139, 3) := by decide +kernel
theorem dX0_sendAgain_49 : decode cX0_sendAgain 49 = .ok (.iinc 1 1, 3) := by decide +kernel
theorem dX0_sendAgain_52 : decode cX0_sendAgain 52 = .ok (.goto (-50), 3) := by decide +kernel
theorem dX0_sendAgain_55 : decode cX0_sendAgain 55 = .ok (.aload_n 0, 1) := by decide +kernel
theorem dX0_sendAgain_56 : decode cX0_sendAgain 56 = .ok (.getfield 77, 3) := by decide +kernel
theorem dX0_sendAgain_59 : decode cX0_sendAgain 59 = .ok (.ireturn, 1) := by decide +kernel
theorem dX0_sendMail_0 : decode cX0_sendMail 0 = .ok (.aload_n 0, 1) := by decide +kernel
theorem dX0_sendMail_1 : decode cX0_sendMail 1 = .ok (.getfield 27, 3) := by decide +kernel
theorem dX0_sendMail_4 : decode cX0_sendMail 4 = .ok (.invokevirtual 105, 3) := by decide +kernel
theorem dX0_sendMail_7 : decode cX0_sendMail 7 = .ok (.istore_n 2, 1) := by decide +kernel
theorem dX0_sendMail_8 : decode cX0_sendMail 8 = .ok (.aload_n 0, 1) := by decide +kernel
theorem dX0_sendMail_9 : decode cX0_sendMail 9 = .ok (.getfield 27, 3) := by decide +kernel
theorem dX0_sendMail_12 : decode cX0_sendMail 12 = .ok (.iload_n 2, 1) := by decide +kernel
theorem dX0_sendMail_13 : decode cX0_sendMail 13 = .ok (.iconst 0, 1) := by decide +kernel
theorem dX0_sendMail_14 : decode cX0_sendMail 14 = .ok (.iconst 0, 1) := by decide +kernel
theorem dX0_sendMail_15 : decode cX0_sendMail 15 = .ok (.invokevirtual 108, 3) := by decide +kernel
theorem dX0_sendMail_18 : decode cX0_sendMail 18 = .ok (.aload_n 0, 1) := by decide +kernel
theorem dX0_sendMail_19 : decode cX0_sendMail 19 = .ok (.getfield 27, 3) := by decide +kernel
theorem dX0_sendMail_22 : decode cX0_sendMail 22 = .ok (.iload_n 2, 1) := by decide +kernel
theorem dX0_sendMail_23 : decode cX0_sendMail 23 = .ok (.iconst 1, 1) := by decide +kernel
theorem dX0_sendMail_24 : decode cX0_sendMail 24 = .ok (.aload_n 0, 1) := by decide +kernel
theorem dX0_sendMail_25 : decode cX0_sendMail 25 = .ok (.getfield 24, 3) := by decide +kernel
theorem dX0_sendMail_28 : decode cX0_sendMail 28 = .ok (.iload_n 1, 1) := by decide +kernel
theorem dX0_sendMail_29 : decode cX0_sendMail 29 = .ok (.iconst 0, 1) := by decide +kernel
theorem dX0_sendMail_30 : decode cX0_sendMail 30 = .ok (.invokevirtual 98, 3) := by decide +kernel
theorem dX0_sendMail_33 : decode cX0_sendMail 33 = .ok (.invokevirtual 108, 3) := by decide +kernel
theorem dX0_sendMail_36 : decode cX0_sendMail 36 = .ok (.aload_n 0, 1) := by decide +kernel
theorem dX0_sendMail_37 : decode cX0_sendMail 37 = .ok (.getfield 27, 3) := by decide +kernel
theorem dX0_sendMail_40 : decode cX0_sendMail 40 = .ok (.iload_n 2, 1) := by decide +kernel
theorem dX0_sendMail_41 : decode cX0_sendMail 41 = .ok (.iconst 2, 1) := by decide +kernel
theorem dX0_sendMail_42 : decode cX0_sendMail 42 = .ok (.aload_n 0, 1) := by decide +kernel
theorem dX0_sendMail_43 : decode cX0_sendMail 43 = .ok (.getfield 24, 3) := by decide +kernel
theorem dX0_sendMail_46 : decode cX0_sendMail 46 = .ok (.iload_n 1, 1) := by decide +kernel
theorem dX0_sendMail_47 : decode cX0_sendMail 47 = .ok (.iconst 1, 1) := by decide +kernel
theorem dX0_sendMail_48 : decode cX0_sendMail 48 = .ok (.invokevirtual 98, 3) := by decide +kernel
theorem dX0_sendMail_51 : decode cX0_sendMail 51 = .ok (.invokevirtual 108, 3) := by decide +kernel
theorem dX0_sendMail_54 : decode cX0_sendMail 54 = .ok (.aload_n 0, 1) := by decide +kernel
theorem dX0_sendMail_55 : decode cX0_sendMail 55 = .ok (.getfield 27, 3) := by decide +kernel
theorem dX0_sendMail_58 : decode cX0_sendMail 58 = .ok (.iload_n 2, 1) := by decide +kernel
theorem dX0_sendMail_59 : decode cX0_sendMail 59 = .ok (.iconst 3, 1) := by decide +kernel
theorem dX0_sendMail_60 : decode cX0_sendMail 60 = .ok (.aload_n 0, 1) := by decide +kernel
theorem dX0_sendMail_61 : decode cX0_sendMail 61 = .ok (.getfield 24, 3) := by decide +kernel
theorem dX0_sendMail_64 : decode cX0_sendMail 64 = .ok (.iload_n 1, 1) := by decide +kernel
theorem dX0_sendMail_65 : decode cX0_sendMail 65 = .ok (.iconst 2, 1) := by decide +kernel
theorem dX0_sendMail_66 : decode cX0_sendMail 66 = .ok (.invokevirtual 98, 3) := by decide +kernel
theorem dX0_sendMail_69 : decode cX0_sendMail 69 = .ok (.invokevirtual 108, 3) := by decide +kernel
theorem dX0_sendMail_72 : decode cX0_sendMail 72 = .ok (.aload_n 0, 1) := by decide +kernel
theorem dX0_sendMail_73 : decode cX0_sendMail 73 = .ok (.getfield 27, 3) := by decide +kernel
theorem dX0_sendMail_76 : decode cX0_sendMail 76 = .ok (.iload_n 2, 1) := by decide +kernel
theorem dX0_sendMail_77 : decode cX0_sendMail 77 = .ok (.iconst 4, 1) := by decide +kernel
theorem dX0_sendMail_78 : decode cX0_sendMail 78 = .ok (.aload_n 0, 1) := by decide +kernel
theorem dX0_sendMail_79 : decode cX0_sendMail 79 = .ok (.getfield 24, 3) := by decide +kernel
theorem dX0_sendMail_82 : decode cX0_sendMail 82 = .ok (.iload_n 1, 1) := by decide +kernel
theorem dX0_sendMail_83 : decode cX0_sendMail 83 = .ok (.iconst 3, 1) := by decide +kernel
theorem dX0_sendMail_84 : decode cX0_sendMail 84 = .ok (.invokevirtual 98, 3) := by decide +kernel
theorem dX0_sendMail_87 : decode cX0_sendMail 87 = .ok (.invokevirtual 108, 3) := by decide +kernel
theorem dX0_sendMail_90 : decode cX0_sendMail 90 = .ok (.aload_n 0, 1) := by decide +kernel
theorem dX0_sendMail_91 : decode cX0_sendMail 91 = .ok (.getfield 27, 3) := by decide +kernel
theorem dX0_sendMail_94 : decode cX0_sendMail 94 = .ok (.iload_n 2, 1) := by decide +kernel
theorem dX0_sendMail_95 : decode cX0_sendMail 95 = .ok (.iconst 5, 1) := by decide +kernel
theorem dX0_sendMail_96 : decode cX0_sendMail 96 = .ok (.aload_n 0, 1) := by decide +kernel
theorem dX0_sendMail_97 : decode cX0_sendMail 97 = .ok (.getfield 24, 3) := by decide +kernel
theorem dX0_sendMail_100 : decode cX0_sendMail 100 = .ok (.iload_n 1, 1) := by decide +kernel
theorem dX0_sendMail_101 : decode cX0_sendMail 101 = .ok (.iconst 5, 1) := by decide +kernel
theorem dX0_sendMail_102 : decode cX0_sendMail 102 = .ok (.invokevirtual 98, 3) := by decide +kernel
theorem dX0_sendMail_105 : decode cX0_sendMail 105 = .ok (.invokevirtual 108, 3) := by decide +kernel
theorem dX0_sendMail_108 : decode cX0_sendMail 108 = .ok (.return_, 1) := by decide +kernel
theorem dX0_sendBare_0 : decode cX0_sendBare 0 = .ok (.aload_n 1, 1) := by decide +kernel
theorem dX0_sendBare_1 : decode cX0_sendBare 1 = .ok (.invokevirtual 105, 3) := by decide +kernel
theorem dX0_sendBare_4 : decode cX0_sendBare 4 = .ok (.istore 4, 2) := by decide +kernel
theorem dX0_sendBare_6 : decode cX0_sendBare 6 = .ok (.aload_n 1, 1) := by decide +kernel
theorem dX0_sendBare_7 : decode cX0_sendBare 7 = .ok (.iload 4, 2) := by decide +kernel
theorem dX0_sendBare_9 : decode cX0_sendBare 9 = .ok (.iconst 0, 1) := by decide +kernel
theorem dX0_sendBare_10 : decode cX0_sendBare 10 = .ok (.iload_n 2, 1) := by decide +kernel
theorem dX0_sendBare_11 : decode cX0_sendBare 11 = .ok (.invokevirtual 108, 3) := by decide +kernel
theorem dX0_sendBare_14 : decode cX0_sendBare 14 = .ok (.aload_n 1, 1) := by decide +kernel
theorem dX0_sendBare_15 : decode cX0_sendBare 15 = .ok (.iload 4, 2) := by decide +kernel
theorem dX0_sendBare_17 : decode cX0_sendBare 17 = .ok (.iconst 1, 1) := by decide +kernel
theorem dX0_sendBare_18 : decode cX0_sendBare 18 = .ok (.iload_n 3, 1) := by decide +kernel
theorem dX0_sendBare_19 : decode cX0_sendBare 19 = .ok (.invokevirtual 108, 3) := by decide +kernel
theorem dX0_sendBare_22 : decode cX0_sendBare 22 = .ok (.aload_n 1, 1) := by decide +kernel
theorem dX0_sendBare_23 : decode cX0_sendBare 23 = .ok (.iload 4, 2) := by decide +kernel
theorem dX0_sendBare_25 : decode cX0_sendBare 25 = .ok (.iconst 2, 1) := by decide +kernel
theorem dX0_sendBare_26 : decode cX0_sendBare 26 = .ok (.bipush (-4), 2) := by decide +kernel
theorem dX0_sendBare_28 : decode cX0_sendBare 28 = .ok (.invokevirtual 108, 3) := by decide +kernel
theorem dX0_sendBare_31 : decode cX0_sendBare 31 = .ok (.aload_n 1, 1) := by decide +kernel
theorem dX0_sendBare_32 : decode cX0_sendBare 32 = .ok (.iload 4, 2) := by decide +kernel
theorem dX0_sendBare_34 : decode cX0_sendBare 34 = .ok (.iconst 3, 1) := by decide +kernel
theorem dX0_sendBare_35 : decode cX0_sendBare 35 = .ok (.bipush (-4), 2) := by decide +kernel
theorem dX0_sendBare_37 : decode cX0_sendBare 37 = .ok (.invokevirtual 108, 3) := by decide +kernel
theorem dX0_sendBare_40 : decode cX0_sendBare 40 = .ok (.aload_n 1, 1) := by decide +kernel
theorem dX0_sendBare_41 : decode cX0_sendBare 41 = .ok (.iload 4, 2) := by decide +kernel
theorem dX0_sendBare_43 : decode cX0_sendBare 43 = .ok (.iconst 4, 1) := by decide +kernel
theorem dX0_sendBare_44 : decode cX0_sendBare 44 = .ok (.bipush (-4), 2) := by decide +kernel
theorem dX0_sendBare_46 : decode cX0_sendBare 46 = .ok (.invokevirtual 108, 3) := by decide +kernel
theorem dX0_sendBare_49 : decode cX0_sendBare 49 = .ok (.return_, 1) := by decide +kernel
theorem dX0_carryFirst_0 : decode cX0_carryFirst 0 = .ok (.aload_n 0, 1) := by decide +kernel
theorem dX0_carryFirst_1 : decode cX0_carryFirst 1 = .ok (.iload_n 1, 1) := by decide +kernel
theorem dX0_carryFirst_2 : decode cX0_carryFirst 2 = .ok (.invokevirtual 147, 3) := by decide +kernel
theorem dX0_carryFirst_5 : decode cX0_carryFirst 5 = .ok (.astore_n 2, 1) := by decide +kernel
theorem dX0_carryFirst_6 : decode cX0_carryFirst 6 = .ok (.aload_n 2, 1) := by decide +kernel
theorem dX0_carryFirst_7 : decode cX0_carryFirst 7 = .ok (.iconst 0, 1) := by decide +kernel
theorem dX0_carryFirst_8 : decode cX0_carryFirst 8 = .ok (.iconst 0, 1) := by decide +kernel
theorem dX0_carryFirst_9 : decode cX0_carryFirst 9 = .ok (.invokevirtual 98, 3) := by decide +kernel
theorem dX0_carryFirst_12 : decode cX0_carryFirst 12 = .ok (.istore_n 3, 1) := by decide +kernel
theorem dX0_carryFirst_13 : decode cX0_carryFirst 13 = .ok (.aload_n 2, 1) := by decide +kernel
theorem dX0_carryFirst_14 : decode cX0_carryFirst 14 = .ok (.iconst 0, 1) := by decide +kernel
theorem dX0_carryFirst_15 : decode cX0_carryFirst 15 = .ok (.iconst 1, 1) := by decide +kernel
theorem dX0_carryFirst_16 : decode cX0_carryFirst 16 = .ok (.invokevirtual 98, 3) := by decide +kernel
theorem dX0_carryFirst_19 : decode cX0_carryFirst 19 = .ok (.istore 4, 2) := by decide +kernel
theorem dX0_carryFirst_21 : decode cX0_carryFirst 21 = .ok (.iload_n 1, 1) := by decide +kernel
theorem dX0_carryFirst_22 : decode cX0_carryFirst 22 = .ok (.ifCond .eq 13, 3) := by decide +kernel
theorem dX0_carryFirst_25 : decode cX0_carryFirst 25 = .ok (.aload_n 0, 1) := by decide +kernel
theorem dX0_carryFirst_26 : decode cX0_carryFirst 26 = .ok (.iload_n 3, 1) := by decide +kernel
theorem dX0_carryFirst_27 : decode cX0_carryFirst 27 = .ok (.iload 4, 2) := by decide +kernel
theorem dX0_carryFirst_29 : decode cX0_carryFirst 29 = .ok (.invokevirtual 151, 3) := by decide +kernel
theorem dX0_carryFirst_32 : decode cX0_carryFirst 32 = .ok (.goto 44, 3) := by decide +kernel
theorem dX0_carryFirst_35 : decode cX0_carryFirst 35 = .ok (.iload_n 3, 1) := by decide +kernel
theorem dX0_carryFirst_36 : decode cX0_carryFirst 36 = .ok (.ifCond .ne 12, 3) := by decide +kernel
theorem dX0_carryFirst_39 : decode cX0_carryFirst 39 = .ok (.aload_n 0, 1) := by decide +kernel
theorem dX0_carryFirst_40 : decode cX0_carryFirst 40 = .ok (.iload 4, 2) := by decide +kernel
theorem dX0_carryFirst_42 : decode cX0_carryFirst 42 = .ok (.invokevirtual 154, 3) := by decide +kernel
theorem dX0_carryFirst_45 : decode cX0_carryFirst 45 = .ok (.goto 31, 3) := by decide +kernel
theorem dX0_carryFirst_48 : decode cX0_carryFirst 48 = .ok (.aload_n 0, 1) := by decide +kernel
theorem dX0_carryFirst_49 : decode cX0_carryFirst 49 = .ok (.getfield 33, 3) := by decide +kernel
theorem dX0_carryFirst_52 : decode cX0_carryFirst 52 = .ok (.aload_n 0, 1) := by decide +kernel
theorem dX0_carryFirst_53 : decode cX0_carryFirst 53 = .ok (.getfield 33, 3) := by decide +kernel
theorem dX0_carryFirst_56 : decode cX0_carryFirst 56 = .ok (.iconst 0, 1) := by decide +kernel
theorem dX0_carryFirst_57 : decode cX0_carryFirst 57 = .ok (.iload 4, 2) := by decide +kernel
theorem dX0_carryFirst_59 : decode cX0_carryFirst 59 = .ok (.invokevirtual 157, 3) := by decide +kernel
theorem dX0_carryFirst_62 : decode cX0_carryFirst 62 = .ok (.invokevirtual 160, 3) := by decide +kernel
theorem dX0_carryFirst_65 : decode cX0_carryFirst 65 = .ok (.aload_n 0, 1) := by decide +kernel
theorem dX0_carryFirst_66 : decode cX0_carryFirst 66 = .ok (.aload_n 0, 1) := by decide +kernel
theorem dX0_carryFirst_67 : decode cX0_carryFirst 67 = .ok (.getfield 30, 3) := by decide +kernel
theorem dX0_carryFirst_70 : decode cX0_carryFirst 70 = .ok (.iconst 4, 1) := by decide +kernel
theorem dX0_carryFirst_71 : decode cX0_carryFirst 71 = .ok (.iload 4, 2) := by decide +kernel
theorem dX0_carryFirst_73 : decode cX0_carryFirst 73 = .ok (.invokevirtual 143, 3) := by decide +kernel
theorem dX0_carryFirst_76 : decode cX0_carryFirst 76 = .ok (.return_, 1) := by decide +kernel
theorem dX0_carryLetter_0 : decode cX0_carryLetter 0 = .ok (.aload_n 0, 1) := by decide +kernel
theorem dX0_carryLetter_1 : decode cX0_carryLetter 1 = .ok (.getfield 27, 3) := by decide +kernel
theorem dX0_carryLetter_4 : decode cX0_carryLetter 4 = .ok (.iconst 0, 1) := by decide +kernel
theorem dX0_carryLetter_5 : decode cX0_carryLetter 5 = .ok (.iconst 3, 1) := by decide +kernel
theorem dX0_carryLetter_6 : decode cX0_carryLetter 6 = .ok (.invokevirtual 98, 3) := by decide +kernel
theorem dX0_carryLetter_9 : decode cX0_carryLetter 9 = .ok (.istore_n 2, 1) := by decide +kernel
theorem dX0_carryLetter_10 : decode cX0_carryLetter 10 = .ok (.iload_n 2, 1) := by decide +kernel
theorem dX0_carryLetter_11 : decode cX0_carryLetter 11 = .ok (.iconst 2, 1) := by decide +kernel
theorem dX0_carryLetter_12 : decode cX0_carryLetter 12 = .ok (.if_icmp .ge 10, 3) := by decide +kernel
theorem dX0_carryLetter_15 : decode cX0_carryLetter 15 = .ok (.aload_n 0, 1) := by decide +kernel
theorem dX0_carryLetter_16 : decode cX0_carryLetter 16 = .ok (.invokevirtual 163, 3) := by decide +kernel
theorem dX0_carryLetter_19 : decode cX0_carryLetter 19 = .ok (.goto 35, 3) := by decide +kernel
theorem dX0_carryLetter_22 : decode cX0_carryLetter 22 = .ok (.aload_n 0, 1) := by decide +kernel
theorem dX0_carryLetter_23 : decode cX0_carryLetter 23 = .ok (.getfield 33, 3) := by decide +kernel
theorem dX0_carryLetter_26 : decode cX0_carryLetter 26 = .ok (.iconst 0, 1) := by decide +kernel
theorem dX0_carryLetter_27 : decode cX0_carryLetter 27 = .ok (.iload_n 1, 1) := by decide +kernel
theorem dX0_carryLetter_28 : decode cX0_carryLetter 28 = .ok (.invokevirtual 157, 3) := by decide +kernel
theorem dX0_carryLetter_31 : decode cX0_carryLetter 31 = .ok (.ifCond .ge 23, 3) := by decide +kernel
theorem dX0_carryLetter_34 : decode cX0_carryLetter 34 = .ok (.aload_n 0, 1) := by decide +kernel
theorem dX0_carryLetter_35 : decode cX0_carryLetter 35 = .ok (.invokevirtual 163, 3) := by decide +kernel
theorem dX0_carryLetter_38 : decode cX0_carryLetter 38 = .ok (.aload_n 0, 1) := by decide +kernel
theorem dX0_carryLetter_39 : decode cX0_carryLetter 39 = .ok (.getfield 33, 3) := by decide +kernel
theorem dX0_carryLetter_42 : decode cX0_carryLetter 42 = .ok (.aload_n 0, 1) := by decide +kernel
theorem dX0_carryLetter_43 : decode cX0_carryLetter 43 = .ok (.getfield 33, 3) := by decide +kernel
theorem dX0_carryLetter_46 : decode cX0_carryLetter 46 = .ok (.invokevirtual 105, 3) := by decide +kernel
theorem dX0_carryLetter_49 : decode cX0_carryLetter 49 = .ok (.iconst 0, 1) := by decide +kernel
theorem dX0_carryLetter_50 : decode cX0_carryLetter 50 = .ok (.iload_n 1, 1) := by decide +kernel
theorem dX0_carryLetter_51 : decode cX0_carryLetter 51 = .ok (.invokevirtual 108, 3) := by decide +kernel
theorem dX0_carryLetter_54 : decode cX0_carryLetter 54 = .ok (.iload_n 2, 1) := by decide +kernel
theorem dX0_carryLetter_55 : decode cX0_carryLetter 55 = .ok (.ifCond .le 22, 3) := by decide +kernel
theorem dX0_carryLetter_58 : decode cX0_carryLetter 58 = .ok (.aload_n 0, 1) := by decide +kernel
theorem dX0_carryLetter_59 : decode cX0_carryLetter 59 = .ok (.aload_n 0, 1) := by decide +kernel
theorem dX0_carryLetter_60 : decode cX0_carryLetter 60 = .ok (.getfield 30, 3) := by decide +kernel
theorem dX0_carryLetter_63 : decode cX0_carryLetter 63 = .ok (.iload_n 2, 1) := by decide +kernel
theorem dX0_carryLetter_64 : decode cX0_carryLetter 64 = .ok (.iconst 1, 1) := by decide +kernel
theorem dX0_carryLetter_65 : decode cX0_carryLetter 65 = .ok (.if_icmp .ne 7, 3) := by decide +kernel
theorem dX0_carryLetter_68 : decode cX0_carryLetter 68 = .ok (.iconst 1, 1) := by decide +kernel
theorem dX0_carryLetter_69 : decode cX0_carryLetter 69 = .ok (.goto 4, 3) := by decide +kernel
theorem dX0_carryLetter_72 : decode cX0_carryLetter 72 = .ok (.iconst 2, 1) := by decide +kernel
theorem dX0_carryLetter_73 : decode cX0_carryLetter 73 = .ok (.iload_n 1, 1) := by decide +kernel
theorem dX0_carryLetter_74 : decode cX0_carryLetter 74 = .ok (.invokevirtual 143, 3) := by decide +kernel
theorem dX0_carryLetter_77 : decode cX0_carryLetter 77 = .ok (.return_, 1) := by decide +kernel
theorem dX0_takeFirst_0 : decode cX0_takeFirst 0 = .ok (.aload_n 0, 1) := by decide +kernel
theorem dX0_takeFirst_1 : decode cX0_takeFirst 1 = .ok (.dup, 1) := by decide +kernel
theorem dX0_takeFirst_2 : decode cX0_takeFirst 2 = .ok (.getfield 62, 3) := by decide +kernel
theorem dX0_takeFirst_5 : decode cX0_takeFirst 5 = .ok (.iconst 1, 1) := by decide +kernel
theorem dX0_takeFirst_6 : decode cX0_takeFirst 6 = .ok (.iadd, 1) := by decide +kernel
theorem dX0_takeFirst_7 : decode cX0_takeFirst 7 = .ok (.putfield 62, 3) := by decide +kernel
theorem dX0_takeFirst_10 : decode cX0_takeFirst 10 = .ok (.aload_n 0, 1) := by decide +kernel
theorem dX0_takeFirst_11 : decode cX0_takeFirst 11 = .ok (.getfield 36, 3) := by decide +kernel
theorem dX0_takeFirst_14 : decode cX0_takeFirst 14 = .ok (.invokevirtual 166, 3) := by decide +kernel
theorem dX0_takeFirst_17 : decode cX0_takeFirst 17 = .ok (.ifCond .eq 11, 3) := by decide +kernel
theorem dX0_takeFirst_20 : decode cX0_takeFirst 20 = .ok (.aload_n 0, 1) := by decide +kernel
theorem dX0_takeFirst_21 : decode cX0_takeFirst 21 = .ok (.getfield 36, 3) := by decide +kernel
theorem dX0_takeFirst_24 : decode cX0_takeFirst 24 = .ok (.iconst 0, 1) := by decide +kernel
theorem dX0_takeFirst_25 : decode cX0_takeFirst 25 = .ok (.invokevirtual 160, 3) := by decide +kernel
theorem dX0_takeFirst_28 : decode cX0_takeFirst 28 = .ok (.aload_n 0, 1) := by decide +kernel
theorem dX0_takeFirst_29 : decode cX0_takeFirst 29 = .ok (.getfield 36, 3) := by decide +kernel
theorem dX0_takeFirst_32 : decode cX0_takeFirst 32 = .ok (.invokevirtual 105, 3) := by decide +kernel
theorem dX0_takeFirst_35 : decode cX0_takeFirst 35 = .ok (.istore_n 1, 1) := by decide +kernel
theorem dX0_takeFirst_36 : decode cX0_takeFirst 36 = .ok (.aload_n 0, 1) := by decide +kernel
theorem dX0_takeFirst_37 : decode cX0_takeFirst 37 = .ok (.getfield 36, 3) := by decide +kernel
theorem dX0_takeFirst_40 : decode cX0_takeFirst 40 = .ok (.iload_n 1, 1) := by decide +kernel
theorem dX0_takeFirst_41 : decode cX0_takeFirst 41 = .ok (.iconst 0, 1) := by decide +kernel
theorem dX0_takeFirst_42 : decode cX0_takeFirst 42 = .ok (.aload_n 0, 1) := by decide +kernel
theorem dX0_takeFirst_43 : decode cX0_takeFirst 43 = .ok (.getfield 27, 3) := by decide +kernel
theorem dX0_takeFirst_46 : decode cX0_takeFirst 46 = .ok (.iconst 0, 1) := by decide +kernel
theorem dX0_takeFirst_47 : decode cX0_takeFirst 47 = .ok (.iconst 2, 1) := by decide +kernel
theorem dX0_takeFirst_48 : decode cX0_takeFirst 48 = .ok (.invokevirtual 98, 3) := by decide +kernel
theorem dX0_takeFirst_51 : decode cX0_takeFirst 51 = .ok (.invokevirtual 108, 3) := by decide +kernel
theorem dX0_takeFirst_54 : decode cX0_takeFirst 54 = .ok (.aload_n 0, 1) := by decide +kernel
theorem dX0_takeFirst_55 : decode cX0_takeFirst 55 = .ok (.getfield 36, 3) := by decide +kernel
theorem dX0_takeFirst_58 : decode cX0_takeFirst 58 = .ok (.iload_n 1, 1) := by decide +kernel
theorem dX0_takeFirst_59 : decode cX0_takeFirst 59 = .ok (.iconst 1, 1) := by decide +kernel
theorem dX0_takeFirst_60 : decode cX0_takeFirst 60 = .ok (.aload_n 0, 1) := by decide +kernel
theorem dX0_takeFirst_61 : decode cX0_takeFirst 61 = .ok (.getfield 27, 3) := by decide +kernel
theorem dX0_takeFirst_64 : decode cX0_takeFirst 64 = .ok (.iconst 0, 1) := by decide +kernel
theorem dX0_takeFirst_65 : decode cX0_takeFirst 65 = .ok (.iconst 4, 1) := by decide +kernel
theorem dX0_takeFirst_66 : decode cX0_takeFirst 66 = .ok (.invokevirtual 98, 3) := by decide +kernel
theorem dX0_takeFirst_69 : decode cX0_takeFirst 69 = .ok (.invokevirtual 108, 3) := by decide +kernel
theorem dX0_takeFirst_72 : decode cX0_takeFirst 72 = .ok (.aload_n 0, 1) := by decide +kernel
theorem dX0_takeFirst_73 : decode cX0_takeFirst 73 = .ok (.getfield 36, 3) := by decide +kernel
theorem dX0_takeFirst_76 : decode cX0_takeFirst 76 = .ok (.iload_n 1, 1) := by decide +kernel
theorem dX0_takeFirst_77 : decode cX0_takeFirst 77 = .ok (.iconst 2, 1) := by decide +kernel
theorem dX0_takeFirst_78 : decode cX0_takeFirst 78 = .ok (.aload_n 0, 1) := by decide +kernel
theorem dX0_takeFirst_79 : decode cX0_takeFirst 79 = .ok (.getfield 27, 3) := by decide +kernel
theorem dX0_takeFirst_82 : decode cX0_takeFirst 82 = .ok (.iconst 0, 1) := by decide +kernel
theorem dX0_takeFirst_83 : decode cX0_takeFirst 83 = .ok (.iconst 3, 1) := by decide +kernel
theorem dX0_takeFirst_84 : decode cX0_takeFirst 84 = .ok (.invokevirtual 98, 3) := by decide +kernel
theorem dX0_takeFirst_87 : decode cX0_takeFirst 87 = .ok (.invokevirtual 108, 3) := by decide +kernel
theorem dX0_takeFirst_90 : decode cX0_takeFirst 90 = .ok (.aload_n 0, 1) := by decide +kernel
theorem dX0_takeFirst_91 : decode cX0_takeFirst 91 = .ok (.getfield 36, 3) := by decide +kernel
theorem dX0_takeFirst_94 : decode cX0_takeFirst 94 = .ok (.iload_n 1, 1) := by decide +kernel
theorem dX0_takeFirst_95 : decode cX0_takeFirst 95 = .ok (.iconst 3, 1) := by decide +kernel
theorem dX0_takeFirst_96 : decode cX0_takeFirst 96 = .ok (.aload_n 0, 1) := by decide +kernel
theorem dX0_takeFirst_97 : decode cX0_takeFirst 97 = .ok (.getfield 27, 3) := by decide +kernel
theorem dX0_takeFirst_100 : decode cX0_takeFirst 100 = .ok (.iconst 0, 1) := by decide +kernel
theorem dX0_takeFirst_101 : decode cX0_takeFirst 101 = .ok (.iconst 5, 1) := by decide +kernel
theorem dX0_takeFirst_102 : decode cX0_takeFirst 102 = .ok (.invokevirtual 98, 3) := by decide +kernel
theorem dX0_takeFirst_105 : decode cX0_takeFirst 105 = .ok (.invokevirtual 108, 3) := by decide +kernel
theorem dX0_takeFirst_108 : decode cX0_takeFirst 108 = .ok (.return_, 1) := by decide +kernel
theorem dX0_carryUp_0 : decode cX0_carryUp 0 = .ok (.aload_n 0, 1) := by decide +kernel
theorem dX0_carryUp_1 : decode cX0_carryUp 1 = .ok (.getfield 24, 3) := by decide +kernel
theorem dX0_carryUp_4 : decode cX0_carryUp 4 = .ok (.iconst 0, 1) := by decide +kernel
theorem dX0_carryUp_5 : decode cX0_carryUp 5 = .ok (.iload_n 2, 1) := by decide +kernel
theorem dX0_carryUp_6 : decode cX0_carryUp 6 = .ok (.invokevirtual 157, 3) := by decide +kernel
theorem dX0_carryUp_9 : decode cX0_carryUp 9 = .ok (.istore_n 3, 1) := by decide +kernel
theorem dX0_carryUp_10 : decode cX0_carryUp 10 = .ok (.iload_n 3, 1) := by decide +kernel
theorem dX0_carryUp_11 : decode cX0_carryUp 11 = .ok (.ifCond .lt 11, 3) := by decide +kernel
theorem dX0_carryUp_14 : decode cX0_carryUp 14 = .ok (.iload_n 3, 1) := by decide +kernel
theorem dX0_carryUp_15 : decode cX0_carryUp 15 = .ok (.aload_n 0, 1) := by decide +kernel
theorem dX0_carryUp_16 : decode cX0_carryUp 16 = .ok (.getfield 77, 3) := by decide +kernel
theorem dX0_carryUp_19 : decode cX0_carryUp 19 = .ok (.if_icmp .lt 4, 3) := by decide +kernel
theorem dX0_carryUp_22 : decode cX0_carryUp 22 = .ok (.return_, 1) := by decide +kernel
theorem dX0_carryUp_23 : decode cX0_carryUp 23 = .ok (.aload_n 0, 1) := by decide +kernel
theorem dX0_carryUp_24 : decode cX0_carryUp 24 = .ok (.getfield 24, 3) := by decide +kernel
theorem dX0_carryUp_27 : decode cX0_carryUp 27 = .ok (.iload_n 3, 1) := by decide +kernel
theorem dX0_carryUp_28 : decode cX0_carryUp 28 = .ok (.iconst 2, 1) := by decide +kernel
theorem dX0_carryUp_29 : decode cX0_carryUp 29 = .ok (.invokevirtual 98, 3) := by decide +kernel
theorem dX0_carryUp_32 : decode cX0_carryUp 32 = .ok (.iconst 2, 1) := by decide +kernel
theorem dX0_carryUp_33 : decode cX0_carryUp 33 = .ok (.if_icmp .ne 7, 3) := by decide +kernel
theorem dX0_carryUp_36 : decode cX0_carryUp 36 = .ok (.iconst 1, 1) := by decide +kernel
theorem dX0_carryUp_37 : decode cX0_carryUp 37 = .ok (.goto 4, 3) := by decide +kernel
theorem dX0_carryUp_40 : decode cX0_carryUp 40 = .ok (.iconst 0, 1) := by decide +kernel
theorem dX0_carryUp_41 : decode cX0_carryUp 41 = .ok (.istore 4, 2) := by decide +kernel
theorem dX0_carryUp_43 : decode cX0_carryUp 43 = .ok (.aload_n 0, 1) := by decide +kernel
theorem dX0_carryUp_44 : decode cX0_carryUp 44 = .ok (.getfield 24, 3) := by decide +kernel
theorem dX0_carryUp_47 : decode cX0_carryUp 47 = .ok (.iload_n 3, 1) := by decide +kernel
theorem dX0_carryUp_48 : decode cX0_carryUp 48 = .ok (.iconst 4, 1) := by decide +kernel
theorem dX0_carryUp_49 : decode cX0_carryUp 49 = .ok (.invokevirtual 98, 3) := by decide +kernel
theorem dX0_carryUp_52 : decode cX0_carryUp 52 = .ok (.iconst 1, 1) := by decide +kernel
theorem dX0_carryUp_53 : decode cX0_carryUp 53 = .ok (.if_icmp .ne 7, 3) := by decide +kernel
theorem dX0_carryUp_56 : decode cX0_carryUp 56 = .ok (.iconst 1, 1) := by decide +kernel
theorem dX0_carryUp_57 : decode cX0_carryUp 57 = .ok (.goto 4, 3) := by decide +kernel
theorem dX0_carryUp_60 : decode cX0_carryUp 60 = .ok (.iconst 0, 1) := by decide +kernel
theorem dX0_carryUp_61 : decode cX0_carryUp 61 = .ok (.istore 5, 2) := by decide +kernel
theorem dX0_carryUp_63 : decode cX0_carryUp 63 = .ok (.iload_n 1, 1) := by decide +kernel
theorem dX0_carryUp_64 : decode cX0_carryUp 64 = .ok (.iconst 2, 1) := by decide +kernel
theorem dX0_carryUp_65 : decode cX0_carryUp 65 = .ok (.if_icmp .ne 31, 3) := by decide +kernel
theorem dX0_carryUp_68 : decode cX0_carryUp 68 = .ok (.iload 4, 2) := by decide +kernel
theorem dX0_carryUp_70 : decode cX0_carryUp 70 = .ok (.ifCond .eq 26, 3) := by decide +kernel
theorem dX0_carryUp_73 : decode cX0_carryUp 73 = .ok (.aload_n 0, 1) := by decide +kernel
theorem dX0_carryUp_74 : decode cX0_carryUp 74 = .ok (.getfield 24, 3) := by decide +kernel
theorem dX0_carryUp_77 : decode cX0_carryUp 77 = .ok (.iload_n 3, 1) := by decide +kernel
theorem dX0_carryUp_78 : decode cX0_carryUp 78 = .ok (.iconst 4, 1) := by decide +kernel
theorem dX0_carryUp_79 : decode cX0_carryUp 79 = .ok (.iconst 1, 1) := by decide +kernel
theorem dX0_carryUp_80 : decode cX0_carryUp 80 = .ok (.invokevirtual 108, 3) := by decide +kernel
theorem dX0_carryUp_83 : decode cX0_carryUp 83 = .ok (.aload_n 0, 1) := by decide +kernel
theorem dX0_carryUp_84 : decode cX0_carryUp 84 = .ok (.aload_n 0, 1) := by decide +kernel
theorem dX0_carryUp_85 : decode cX0_carryUp 85 = .ok (.getfield 27, 3) := by decide +kernel
theorem dX0_carryUp_88 : decode cX0_carryUp 88 = .ok (.iconst 3, 1) := by decide +kernel
theorem dX0_carryUp_89 : decode cX0_carryUp 89 = .ok (.iload_n 2, 1) := by decide +kernel
theorem dX0_carryUp_90 : decode cX0_carryUp 90 = .ok (.invokevirtual 143, 3) := by decide +kernel
theorem dX0_carryUp_93 : decode cX0_carryUp 93 = .ok (.goto 55, 3) := by decide +kernel
theorem dX0_carryUp_96 : decode cX0_carryUp 96 = .ok (.iload_n 1, 1) := by decide +kernel
theorem dX0_carryUp_97 : decode cX0_carryUp 97 = .ok (.iconst 1, 1) := by decide +kernel
theorem dX0_carryUp_98 : decode cX0_carryUp 98 = .ok (.if_icmp .ne 8, 3) := by decide +kernel
theorem dX0_carryUp_101 : decode cX0_carryUp 101 = .ok (.iload 4, 2) := by decide +kernel
theorem dX0_carryUp_103 : decode cX0_carryUp 103 = .ok (.ifCond .eq 13, 3) := by decide +kernel
theorem dX0_carryUp_106 : decode cX0_carryUp 106 = .ok (.iload_n 1, 1) := by decide +kernel
theorem dX0_carryUp_107 : decode cX0_carryUp 107 = .ok (.iconst 4, 1) := by decide +kernel
theorem dX0_carryUp_108 : decode cX0_carryUp 108 = .ok (.if_icmp .ne 40, 3) := by decide +kernel
theorem dX0_carryUp_111 : decode cX0_carryUp 111 = .ok (.iload 5, 2) := by decide +kernel
theorem dX0_carryUp_113 : decode cX0_carryUp 113 = .ok (.ifCond .eq 35, 3) := by decide +kernel
theorem dX0_carryUp_116 : decode cX0_carryUp 116 = .ok (.aload_n 0, 1) := by decide +kernel
theorem dX0_carryUp_117 : decode cX0_carryUp 117 = .ok (.getfield 24, 3) := by decide +kernel
theorem dX0_carryUp_120 : decode cX0_carryUp 120 = .ok (.iload_n 3, 1) := by decide +kernel
theorem dX0_carryUp_121 : decode cX0_carryUp 121 = .ok (.invokevirtual 160, 3) := by decide +kernel
theorem dX0_carryUp_124 : decode cX0_carryUp 124 = .ok (.aload_n 0, 1) := by decide +kernel
theorem dX0_carryUp_125 : decode cX0_carryUp 125 = .ok (.dup, 1) := by decide +kernel
theorem dX0_carryUp_126 : decode cX0_carryUp 126 = .ok (.getfield 77, 3) := by decide +kernel
theorem dX0_carryUp_129 : decode cX0_carryUp 129 = .ok (.iconst 1, 1) := by decide +kernel
theorem dX0_carryUp_130 : decode cX0_carryUp 130 = .ok (.isub, 1) := by decide +kernel
theorem dX0_carryUp_131 : decode cX0_carryUp 131 = .ok (.putfield 77, 3) := by decide +kernel
theorem dX0_carryUp_134 : decode cX0_carryUp 134 = .ok (.aload_n 0, 1) := by decide +kernel
theorem dX0_carryUp_135 : decode cX0_carryUp 135 = .ok (.dup, 1) := by decide +kernel
theorem dX0_carryUp_136 : decode cX0_carryUp 136 = .ok (.getfield 65, 3) := by decide +kernel
theorem dX0_carryUp_139 : decode cX0_carryUp 139 = .ok (.iconst 1, 1) := by decide +kernel
theorem dX0_carryUp_140 : decode cX0_carryUp 140 = .ok (.iadd, 1) := by decide +kernel
theorem dX0_carryUp_141 : decode cX0_carryUp 141 = .ok (.putfield 65, 3) := by decide +kernel
theorem dX0_carryUp_144 : decode cX0_carryUp 144 = .ok (.aload_n 0, 1) := by decide +kernel
theorem dX0_carryUp_145 : decode cX0_carryUp 145 = .ok (.invokevirtual 92, 3) := by decide +kernel
theorem dX0_carryUp_148 : decode cX0_carryUp 148 = .ok (.return_, 1) := by decide +kernel
theorem dX0_sessionFact_0 : decode cX0_sessionFact 0 = .ok (.iload_n 1, 1) := by decide +kernel
theorem dX0_sessionFact_1 : decode cX0_sessionFact 1 = .ok (.tableswitch 121 1 9 #[51, 56, 74, 82, 87, 92, 100, 108, 116], 51) := by decide +kernel
theorem dX0_sessionFact_52 : decode cX0_sessionFact 52 = .ok (.aload_n 0, 1) := by decide +kernel
theorem dX0_sessionFact_53 : decode cX0_sessionFact 53 = .ok (.getfield 71, 3) := by decide +kernel
theorem dX0_sessionFact_56 : decode cX0_sessionFact 56 = .ok (.ireturn, 1) := by decide +kernel
theorem dX0_sessionFact_57 : decode cX0_sessionFact 57 = .ok (.aload_n 0, 1) := by decide +kernel
theorem dX0_sessionFact_58 : decode cX0_sessionFact 58 = .ok (.getfield 68, 3) := by decide +kernel
theorem dX0_sessionFact_61 : decode cX0_sessionFact 61 = .ok (.iconst 1, 1) := by decide +kernel
theorem dX0_sessionFact_62 : decode cX0_sessionFact 62 = .ok (.if_icmp .ne 8, 3) := by decide +kernel
theorem dX0_sessionFact_65 : decode cX0_sessionFact 65 = .ok (.bipush (-4), 2) := by decide +kernel
theorem dX0_sessionFact_67 : decode cX0_sessionFact 67 = .ok (.goto 7, 3) := by decide +kernel
theorem dX0_sessionFact_70 : decode cX0_sessionFact 70 = .ok (.aload_n 0, 1) := by decide +kernel
theorem dX0_sessionFact_71 : decode cX0_sessionFact 71 = .ok (.getfield 74, 3) := by decide +kernel
theorem dX0_sessionFact_74 : decode cX0_sessionFact 74 = .ok (.ireturn, 1) := by decide +kernel
theorem dX0_sessionFact_75 : decode cX0_sessionFact 75 = .ok (.aload_n 0, 1) := by decide +kernel
theorem dX0_sessionFact_76 : decode cX0_sessionFact 76 = .ok (.getfield 14, 3) := by decide +kernel
theorem dX0_sessionFact_79 : decode cX0_sessionFact 79 = .ok (.getfield 95, 3) := by decide +kernel
theorem dX0_sessionFact_82 : decode cX0_sessionFact 82 = .ok (.ireturn, 1) := by decide +kernel
theorem dX0_sessionFact_83 : decode cX0_sessionFact 83 = .ok (.aload_n 0, 1) := by decide +kernel
theorem dX0_sessionFact_84 : decode cX0_sessionFact 84 = .ok (.getfield 77, 3) := by decide +kernel
theorem dX0_sessionFact_87 : decode cX0_sessionFact 87 = .ok (.ireturn, 1) := by decide +kernel
theorem dX0_sessionFact_88 : decode cX0_sessionFact 88 = .ok (.aload_n 0, 1) := by decide +kernel
theorem dX0_sessionFact_89 : decode cX0_sessionFact 89 = .ok (.invokevirtual 132, 3) := by decide +kernel
theorem dX0_sessionFact_92 : decode cX0_sessionFact 92 = .ok (.ireturn, 1) := by decide +kernel
theorem dX0_sessionFact_93 : decode cX0_sessionFact 93 = .ok (.aload_n 0, 1) := by decide +kernel
theorem dX0_sessionFact_94 : decode cX0_sessionFact 94 = .ok (.getfield 27, 3) := by decide +kernel
theorem dX0_sessionFact_97 : decode cX0_sessionFact 97 = .ok (.getfield 95, 3) := by decide +kernel
theorem dX0_sessionFact_100 : decode cX0_sessionFact 100 = .ok (.ireturn, 1) := by decide +kernel
theorem dX0_sessionFact_101 : decode cX0_sessionFact 101 = .ok (.aload_n 0, 1) := by decide +kernel
theorem dX0_sessionFact_102 : decode cX0_sessionFact 102 = .ok (.getfield 30, 3) := by decide +kernel
theorem dX0_sessionFact_105 : decode cX0_sessionFact 105 = .ok (.getfield 95, 3) := by decide +kernel
theorem dX0_sessionFact_108 : decode cX0_sessionFact 108 = .ok (.ireturn, 1) := by decide +kernel
theorem dX0_sessionFact_109 : decode cX0_sessionFact 109 = .ok (.aload_n 0, 1) := by decide +kernel
theorem dX0_sessionFact_110 : decode cX0_sessionFact 110 = .ok (.getfield 33, 3) := by decide +kernel
theorem dX0_sessionFact_113 : decode cX0_sessionFact 113 = .ok (.getfield 95, 3) := by decide +kernel
theorem dX0_sessionFact_116 : decode cX0_sessionFact 116 = .ok (.ireturn, 1) := by decide +kernel
theorem dX0_sessionFact_117 : decode cX0_sessionFact 117 = .ok (.aload_n 0, 1) := by decide +kernel
theorem dX0_sessionFact_118 : decode cX0_sessionFact 118 = .ok (.invokevirtual 170, 3) := by decide +kernel
theorem dX0_sessionFact_121 : decode cX0_sessionFact 121 = .ok (.ireturn, 1) := by decide +kernel
theorem dX0_sessionFact_122 : decode cX0_sessionFact 122 = .ok (.aload_n 0, 1) := by decide +kernel
theorem dX0_sessionFact_123 : decode cX0_sessionFact 123 = .ok (.getfield 42, 3) := by decide +kernel
theorem dX0_sessionFact_126 : decode cX0_sessionFact 126 = .ok (.invokevirtual 173, 3) := by decide +kernel
theorem dX0_sessionFact_129 : decode cX0_sessionFact 129 = .ok (.invokestatic 135, 3) := by decide +kernel
theorem dX0_sessionFact_132 : decode cX0_sessionFact 132 = .ok (.ireturn, 1) := by decide +kernel
theorem dX0_countAliases_0 : decode cX0_countAliases 0 = .ok (.iconst 0, 1) := by decide +kernel
theorem dX0_countAliases_1 : decode cX0_countAliases 1 = .ok (.istore_n 1, 1) := by decide +kernel
theorem dX0_countAliases_2 : decode cX0_countAliases 2 = .ok (.aload_n 0, 1) := by decide +kernel
theorem dX0_countAliases_3 : decode cX0_countAliases 3 = .ok (.getfield 20, 3) := by decide +kernel
theorem dX0_countAliases_6 : decode cX0_countAliases 6 = .ok (.astore_n 2, 1) := by decide +kernel
theorem dX0_countAliases_7 : decode cX0_countAliases 7 = .ok (.aload_n 2, 1) := by decide +kernel
theorem dX0_countAliases_8 : decode cX0_countAliases 8 = .ok (.arraylength, 1) := by decide +kernel
theorem dX0_countAliases_9 : decode cX0_countAliases 9 = .ok (.istore_n 3, 1) := by decide +kernel
theorem dX0_countAliases_10 : decode cX0_countAliases 10 = .ok (.iconst 0, 1) := by decide +kernel
theorem dX0_countAliases_11 : decode cX0_countAliases 11 = .ok (.istore 4, 2) := by decide +kernel
theorem dX0_countAliases_13 : decode cX0_countAliases 13 = .ok (.iload 4, 2) := by decide +kernel
theorem dX0_countAliases_15 : decode cX0_countAliases 15 = .ok (.iload_n 3, 1) := by decide +kernel
theorem dX0_countAliases_16 : decode cX0_countAliases 16 = .ok (.if_icmp .ge 31, 3) := by decide +kernel
theorem dX0_countAliases_19 : decode cX0_countAliases 19 = .ok (.aload_n 2, 1) := by decide +kernel
theorem dX0_countAliases_20 : decode cX0_countAliases 20 = .ok (.iload 4, 2) := by decide +kernel
theorem dX0_countAliases_22 : decode cX0_countAliases 22 = .ok (.iaload, 1) := by decide +kernel
theorem dX0_countAliases_23 : decode cX0_countAliases 23 = .ok (.istore 5, 2) := by decide +kernel
theorem dX0_countAliases_25 : decode cX0_countAliases 25 = .ok (.iload_n 1, 1) := by decide +kernel
theorem dX0_countAliases_26 : decode cX0_countAliases 26 = .ok (.iload 5, 2) := by decide +kernel
theorem dX0_countAliases_28 : decode cX0_countAliases 28 = .ok (.ifCond .eq 7, 3) := by decide +kernel
theorem dX0_countAliases_31 : decode cX0_countAliases 31 = .ok (.iconst 1, 1) := by decide +kernel
theorem dX0_countAliases_32 : decode cX0_countAliases 32 = .ok (.goto 4, 3) := by decide +kernel
theorem dX0_countAliases_35 : decode cX0_countAliases 35 = .ok (.iconst 0, 1) := by decide +kernel
theorem dX0_countAliases_36 : decode cX0_countAliases 36 = .ok (.invokestatic 135, 3) := by decide +kernel
theorem dX0_countAliases_39 : decode cX0_countAliases 39 = .ok (.iadd, 1) := by decide +kernel
theorem dX0_countAliases_40 : decode cX0_countAliases 40 = .ok (.istore_n 1, 1) := by decide +kernel
theorem dX0_countAliases_41 : decode cX0_countAliases 41 = .ok (.iinc 4 1, 3) := by decide +kernel
theorem dX0_countAliases_44 : decode cX0_countAliases 44 = .ok (.goto (-31), 3) := by decide +kernel
theorem dX0_countAliases_47 : decode cX0_countAliases 47 = .ok (.iload_n 1, 1) := by decide +kernel
theorem dX0_countAliases_48 : decode cX0_countAliases 48 = .ok (.ireturn, 1) := by decide +kernel
theorem dX0_copyFrom_0 : decode cX0_copyFrom 0 = .ok (.aload_n 0, 1) := by decide +kernel
theorem dX0_copyFrom_1 : decode cX0_copyFrom 1 = .ok (.getfield 14, 3) := by decide +kernel
theorem dX0_copyFrom_4 : decode cX0_copyFrom 4 = .ok (.aload_n 1, 1) := by decide +kernel
theorem dX0_copyFrom_5 : decode cX0_copyFrom 5 = .ok (.getfield 14, 3) := by decide +kernel
theorem dX0_copyFrom_8 : decode cX0_copyFrom 8 = .ok (.invokevirtual 176, 3) := by decide +kernel
theorem dX0_copyFrom_11 : decode cX0_copyFrom 11 = .ok (.aload_n 1, 1) := by decide +kernel
theorem dX0_copyFrom_12 : decode cX0_copyFrom 12 = .ok (.getfield 20, 3) := by decide +kernel
theorem dX0_copyFrom_15 : decode cX0_copyFrom 15 = .ok (.iconst 0, 1) := by decide +kernel
theorem dX0_copyFrom_16 : decode cX0_copyFrom 16 = .ok (.aload_n 0, 1) := by decide +kernel
theorem dX0_copyFrom_17 : decode cX0_copyFrom 17 = .ok (.getfield 20, 3) := by decide +kernel
theorem dX0_copyFrom_20 : decode cX0_copyFrom 20 = .ok (.iconst 0, 1) := by decide +kernel
theorem dX0_copyFrom_21 : decode cX0_copyFrom 21 = .ok (.iconst 4, 1) := by decide +kernel
theorem dX0_copyFrom_22 : decode cX0_copyFrom 22 = .ok (.invokestatic 180, 3) := by decide +kernel
theorem dX0_copyFrom_25 : decode cX0_copyFrom 25 = .ok (.aload_n 0, 1) := by decide +kernel
theorem dX0_copyFrom_26 : decode cX0_copyFrom 26 = .ok (.getfield 24, 3) := by decide +kernel
theorem dX0_copyFrom_29 : decode cX0_copyFrom 29 = .ok (.aload_n 1, 1) := by decide +kernel
theorem dX0_copyFrom_30 : decode cX0_copyFrom 30 = .ok (.getfield 24, 3) := by decide +kernel
theorem dX0_copyFrom_33 : decode cX0_copyFrom 33 = .ok (.invokevirtual 176, 3) := by decide +kernel
theorem dX0_copyFrom_36 : decode cX0_copyFrom 36 = .ok (.aload_n 0, 1) := by decide +kernel
theorem dX0_copyFrom_37 : decode cX0_copyFrom 37 = .ok (.getfield 27, 3) := by decide +kernel
theorem dX0_copyFrom_40 : decode cX0_copyFrom 40 = .ok (.aload_n 1, 1) := by decide +kernel
theorem dX0_copyFrom_41 : decode cX0_copyFrom 41 = .ok (.getfield 27, 3) := by decide +kernel
theorem dX0_copyFrom_44 : decode cX0_copyFrom 44 = .ok (.invokevirtual 176, 3) := by decide +kernel
theorem dX0_copyFrom_47 : decode cX0_copyFrom 47 = .ok (.aload_n 0, 1) := by decide +kernel
theorem dX0_copyFrom_48 : decode cX0_copyFrom 48 = .ok (.getfield 30, 3) := by decide +kernel
theorem dX0_copyFrom_51 : decode cX0_copyFrom 51 = .ok (.aload_n 1, 1) := by decide +kernel
theorem dX0_copyFrom_52 : decode cX0_copyFrom 52 = .ok (.getfield 30, 3) := by decide +kernel
theorem dX0_copyFrom_55 : decode cX0_copyFrom 55 = .ok (.invokevirtual 176, 3) := by decide +kernel
theorem dX0_copyFrom_58 : decode cX0_copyFrom 58 = .ok (.aload_n 0, 1) := by decide +kernel
theorem dX0_copyFrom_59 : decode cX0_copyFrom 59 = .ok (.getfield 33, 3) := by decide +kernel
theorem dX0_copyFrom_62 : decode cX0_copyFrom 62 = .ok (.aload_n 1, 1) := by decide +kernel
theorem dX0_copyFrom_63 : decode cX0_copyFrom 63 = .ok (.getfield 33, 3) := by decide +kernel
theorem dX0_copyFrom_66 : decode cX0_copyFrom 66 = .ok (.invokevirtual 176, 3) := by decide +kernel
theorem dX0_copyFrom_69 : decode cX0_copyFrom 69 = .ok (.aload_n 0, 1) := by decide +kernel
theorem dX0_copyFrom_70 : decode cX0_copyFrom 70 = .ok (.getfield 36, 3) := by decide +kernel
theorem dX0_copyFrom_73 : decode cX0_copyFrom 73 = .ok (.aload_n 1, 1) := by decide +kernel
theorem dX0_copyFrom_74 : decode cX0_copyFrom 74 = .ok (.getfield 36, 3) := by decide +kernel
theorem dX0_copyFrom_77 : decode cX0_copyFrom 77 = .ok (.invokevirtual 176, 3) := by decide +kernel
theorem dX0_copyFrom_80 : decode cX0_copyFrom 80 = .ok (.aload_n 0, 1) := by decide +kernel
theorem dX0_copyFrom_81 : decode cX0_copyFrom 81 = .ok (.getfield 42, 3) := by decide +kernel
theorem dX0_copyFrom_84 : decode cX0_copyFrom 84 = .ok (.aload_n 1, 1) := by decide +kernel
theorem dX0_copyFrom_85 : decode cX0_copyFrom 85 = .ok (.getfield 42, 3) := by decide +kernel
theorem dX0_copyFrom_88 : decode cX0_copyFrom 88 = .ok (.invokevirtual 186, 3) := by decide +kernel
theorem dX0_copyFrom_91 : decode cX0_copyFrom 91 = .ok (.aload_n 0, 1) := by decide +kernel
theorem dX0_copyFrom_92 : decode cX0_copyFrom 92 = .ok (.aload_n 1, 1) := by decide +kernel
theorem dX0_copyFrom_93 : decode cX0_copyFrom 93 = .ok (.getfield 68, 3) := by decide +kernel
theorem dX0_copyFrom_96 : decode cX0_copyFrom 96 = .ok (.putfield 68, 3) := by decide +kernel
theorem dX0_copyFrom_99 : decode cX0_copyFrom 99 = .ok (.aload_n 0, 1) := by decide +kernel
theorem dX0_copyFrom_100 : decode cX0_copyFrom 100 = .ok (.aload_n 1, 1) := by decide +kernel
theorem dX0_copyFrom_101 : decode cX0_copyFrom 101 = .ok (.getfield 71, 3) := by decide +kernel
theorem dX0_copyFrom_104 : decode cX0_copyFrom 104 = .ok (.putfield 71, 3) := by decide +kernel
theorem dX0_copyFrom_107 : decode cX0_copyFrom 107 = .ok (.aload_n 0, 1) := by decide +kernel
theorem dX0_copyFrom_108 : decode cX0_copyFrom 108 = .ok (.aload_n 1, 1) := by decide +kernel
theorem dX0_copyFrom_109 : decode cX0_copyFrom 109 = .ok (.getfield 74, 3) := by decide +kernel
theorem dX0_copyFrom_112 : decode cX0_copyFrom 112 = .ok (.putfield 74, 3) := by decide +kernel
theorem dX0_copyFrom_115 : decode cX0_copyFrom 115 = .ok (.aload_n 0, 1) := by decide +kernel
theorem dX0_copyFrom_116 : decode cX0_copyFrom 116 = .ok (.aload_n 1, 1) := by decide +kernel
theorem dX0_copyFrom_117 : decode cX0_copyFrom 117 = .ok (.getfield 77, 3) := by decide +kernel
theorem dX0_copyFrom_120 : decode cX0_copyFrom 120 = .ok (.putfield 77, 3) := by decide +kernel
theorem dX0_copyFrom_123 : decode cX0_copyFrom 123 = .ok (.aload_n 0, 1) := by decide +kernel
theorem dX0_copyFrom_124 : decode cX0_copyFrom 124 = .ok (.aload_n 1, 1) := by decide +kernel
theorem dX0_copyFrom_125 : decode cX0_copyFrom 125 = .ok (.getfield 80, 3) := by decide +kernel
theorem dX0_copyFrom_128 : decode cX0_copyFrom 128 = .ok (.putfield 80, 3) := by decide +kernel
theorem dX0_copyFrom_131 : decode cX0_copyFrom 131 = .ok (.aload_n 0, 1) := by decide +kernel
theorem dX0_copyFrom_132 : decode cX0_copyFrom 132 = .ok (.aload_n 1, 1) := by decide +kernel
theorem dX0_copyFrom_133 : decode cX0_copyFrom 133 = .ok (.getfield 55, 3) := by decide +kernel
theorem dX0_copyFrom_136 : decode cX0_copyFrom 136 = .ok (.putfield 55, 3) := by decide +kernel
theorem dX0_copyFrom_139 : decode cX0_copyFrom 139 = .ok (.aload_n 0, 1) := by decide +kernel
theorem dX0_copyFrom_140 : decode cX0_copyFrom 140 = .ok (.aload_n 1, 1) := by decide +kernel
theorem dX0_copyFrom_141 : decode cX0_copyFrom 141 = .ok (.getfield 59, 3) := by decide +kernel
theorem dX0_copyFrom_144 : decode cX0_copyFrom 144 = .ok (.putfield 59, 3) := by decide +kernel
theorem dX0_copyFrom_147 : decode cX0_copyFrom 147 = .ok (.aload_n 0, 1) := by decide +kernel
theorem dX0_copyFrom_148 : decode cX0_copyFrom 148 = .ok (.aload_n 1, 1) := by decide +kernel
theorem dX0_copyFrom_149 : decode cX0_copyFrom 149 = .ok (.getfield 62, 3) := by decide +kernel
theorem dX0_copyFrom_152 : decode cX0_copyFrom 152 = .ok (.putfield 62, 3) := by decide +kernel
theorem dX0_copyFrom_155 : decode cX0_copyFrom 155 = .ok (.aload_n 0, 1) := by decide +kernel
theorem dX0_copyFrom_156 : decode cX0_copyFrom 156 = .ok (.aload_n 1, 1) := by decide +kernel
theorem dX0_copyFrom_157 : decode cX0_copyFrom 157 = .ok (.getfield 65, 3) := by decide +kernel
theorem dX0_copyFrom_160 : decode cX0_copyFrom 160 = .ok (.putfield 65, 3) := by decide +kernel
theorem dX0_copyFrom_163 : decode cX0_copyFrom 163 = .ok (.return_, 1) := by decide +kernel
theorem dX1_levelAt_0 : decode cX1_levelAt 0 = .ok (.iload_n 1, 1) := by decide +kernel
theorem dX1_levelAt_1 : decode cX1_levelAt 1 = .ok (.ifCond .lt 8, 3) := by decide +kernel
theorem dX1_levelAt_4 : decode cX1_levelAt 4 = .ok (.iload_n 1, 1) := by decide +kernel
theorem dX1_levelAt_5 : decode cX1_levelAt 5 = .ok (.iconst 4, 1) := by decide +kernel
theorem dX1_levelAt_6 : decode cX1_levelAt 6 = .ok (.if_icmp .lt 5, 3) := by decide +kernel
theorem dX1_levelAt_9 : decode cX1_levelAt 9 = .ok (.iconst 0, 1) := by decide +kernel
theorem dX1_levelAt_10 : decode cX1_levelAt 10 = .ok (.ireturn, 1) := by decide +kernel
theorem dX1_levelAt_11 : decode cX1_levelAt 11 = .ok (.iload_n 0, 1) := by decide +kernel
theorem dX1_levelAt_12 : decode cX1_levelAt 12 = .ok (.iload_n 1, 1) := by decide +kernel
theorem dX1_levelAt_13 : decode cX1_levelAt 13 = .ok (.invokestatic 11, 3) := by decide +kernel
theorem dX1_levelAt_16 : decode cX1_levelAt 16 = .ok (.ishr, 1) := by decide +kernel
theorem dX1_levelAt_17 : decode cX1_levelAt 17 = .ok (.bipush 31, 2) := by decide +kernel
theorem dX1_levelAt_19 : decode cX1_levelAt 19 = .ok (.iand, 1) := by decide +kernel
theorem dX1_levelAt_20 : decode cX1_levelAt 20 = .ok (.ireturn, 1) := by decide +kernel
theorem dX1_count_0 : decode cX1_count 0 = .ok (.iconst 0, 1) := by decide +kernel
theorem dX1_count_1 : decode cX1_count 1 = .ok (.istore_n 1, 1) := by decide +kernel
theorem dX1_count_2 : decode cX1_count 2 = .ok (.iconst 0, 1) := by decide +kernel
theorem dX1_count_3 : decode cX1_count 3 = .ok (.istore_n 2, 1) := by decide +kernel
theorem dX1_count_4 : decode cX1_count 4 = .ok (.iload_n 2, 1) := by decide +kernel
theorem dX1_count_5 : decode cX1_count 5 = .ok (.iconst 4, 1) := by decide +kernel
theorem dX1_count_6 : decode cX1_count 6 = .ok (.if_icmp .ge 20, 3) := by decide +kernel
theorem dX1_count_9 : decode cX1_count 9 = .ok (.iload_n 0, 1) := by decide +kernel
theorem dX1_count_10 : decode cX1_count 10 = .ok (.iload_n 2, 1) := by decide +kernel
theorem dX1_count_11 : decode cX1_count 11 = .ok (.invokestatic 15, 3) := by decide +kernel
theorem dX1_count_14 : decode cX1_count 14 = .ok (.ifCond .eq 6, 3) := by decide +kernel
theorem dX1_count_17 : decode cX1_count 17 = .ok (.iinc 1 1, 3) := by decide +kernel
theorem dX1_count_20 : decode cX1_count 20 = .ok (.iinc 2 1, 3) := by decide +kernel
theorem dX1_count_23 : decode cX1_count 23 = .ok (.goto (-19), 3) := by decide +kernel
theorem dX1_count_26 : decode cX1_count 26 = .ok (.iload_n 1, 1) := by decide +kernel
theorem dX1_count_27 : decode cX1_count 27 = .ok (.ireturn, 1) := by decide +kernel
theorem dX1_with_0 : decode cX1_with 0 = .ok (.iload_n 0, 1) := by decide +kernel
theorem dX1_with_1 : decode cX1_with 1 = .ok (.invokestatic 19, 3) := by decide +kernel
theorem dX1_with_4 : decode cX1_with 4 = .ok (.istore_n 2, 1) := by decide +kernel
theorem dX1_with_5 : decode cX1_with 5 = .ok (.iload_n 2, 1) := by decide +kernel
theorem dX1_with_6 : decode cX1_with 6 = .ok (.iconst 4, 1) := by decide +kernel
theorem dX1_with_7 : decode cX1_with 7 = .ok (.if_icmp .ge 14, 3) := by decide +kernel
theorem dX1_with_10 : decode cX1_with 10 = .ok (.iload_n 0, 1) := by decide +kernel
theorem dX1_with_11 : decode cX1_with 11 = .ok (.iload_n 1, 1) := by decide +kernel
theorem dX1_with_12 : decode cX1_with 12 = .ok (.iload_n 2, 1) := by decide +kernel
theorem dX1_with_13 : decode cX1_with 13 = .ok (.invokestatic 11, 3) := by decide +kernel
theorem dX1_with_16 : decode cX1_with 16 = .ok (.ishl, 1) := by decide +kernel
theorem dX1_with_17 : decode cX1_with 17 = .ok (.ior, 1) := by decide +kernel
theorem dX1_with_18 : decode cX1_with 18 = .ok (.goto 4, 3) := by decide +kernel
theorem dX1_with_21 : decode cX1_with 21 = .ok (.iload_n 0, 1) := by decide +kernel
theorem dX1_with_22 : decode cX1_with 22 = .ok (.ireturn, 1) := by decide +kernel
theorem dX1_endsInRest_0 : decode cX1_endsInRest 0 = .ok (.iload_n 0, 1) := by decide +kernel
theorem dX1_endsInRest_1 : decode cX1_endsInRest 1 = .ok (.iload_n 0, 1) := by decide +kernel
theorem dX1_endsInRest_2 : decode cX1_endsInRest 2 = .ok (.invokestatic 19, 3) := by decide +kernel
theorem dX1_endsInRest_5 : decode cX1_endsInRest 5 = .ok (.iconst 1, 1) := by decide +kernel
theorem dX1_endsInRest_6 : decode cX1_endsInRest 6 = .ok (.isub, 1) := by decide +kernel
theorem dX1_endsInRest_7 : decode cX1_endsInRest 7 = .ok (.invokestatic 15, 3) := by decide +kernel
theorem dX1_endsInRest_10 : decode cX1_endsInRest 10 = .ok (.bipush 28, 2) := by decide +kernel
theorem dX1_endsInRest_12 : decode cX1_endsInRest 12 = .ok (.if_icmp .ne 7, 3) := by decide +kernel
theorem dX1_endsInRest_15 : decode cX1_endsInRest 15 = .ok (.iconst 1, 1) := by decide +kernel
theorem dX1_endsInRest_16 : decode cX1_endsInRest 16 = .ok (.goto 4, 3) := by decide +kernel
theorem dX1_endsInRest_19 : decode cX1_endsInRest 19 = .ok (.iconst 0, 1) := by decide +kernel
theorem dX1_endsInRest_20 : decode cX1_endsInRest 20 = .ok (.ireturn, 1) := by decide +kernel
theorem dX1_isTopic_0 : decode cX1_isTopic 0 = .ok (.iconst 0, 1) := by decide +kernel
theorem dX1_isTopic_1 : decode cX1_isTopic 1 = .ok (.istore_n 1, 1) := by decide +kernel
theorem dX1_isTopic_2 : decode cX1_isTopic 2 = .ok (.iload_n 1, 1) := by decide +kernel
theorem dX1_isTopic_3 : decode cX1_isTopic 3 = .ok (.iconst 4, 1) := by decide +kernel
theorem dX1_isTopic_4 : decode cX1_isTopic 4 = .ok (.if_icmp .ge 21, 3) := by decide +kernel
theorem dX1_isTopic_7 : decode cX1_isTopic 7 = .ok (.iload_n 0, 1) := by decide +kernel
theorem dX1_isTopic_8 : decode cX1_isTopic 8 = .ok (.iload_n 1, 1) := by decide +kernel
theorem dX1_isTopic_9 : decode cX1_isTopic 9 = .ok (.invokestatic 15, 3) := by decide +kernel
theorem dX1_isTopic_12 : decode cX1_isTopic 12 = .ok (.bipush 26, 2) := by decide +kernel
theorem dX1_isTopic_14 : decode cX1_isTopic 14 = .ok (.if_icmp .le 5, 3) := by decide +kernel
theorem dX1_isTopic_17 : decode cX1_isTopic 17 = .ok (.iconst 0, 1) := by decide +kernel
theorem dX1_isTopic_18 : decode cX1_isTopic 18 = .ok (.ireturn, 1) := by decide +kernel
theorem dX1_isTopic_19 : decode cX1_isTopic 19 = .ok (.iinc 1 1, 3) := by decide +kernel
theorem dX1_isTopic_22 : decode cX1_isTopic 22 = .ok (.goto (-20), 3) := by decide +kernel
theorem dX1_isTopic_25 : decode cX1_isTopic 25 = .ok (.iload_n 0, 1) := by decide +kernel
theorem dX1_isTopic_26 : decode cX1_isTopic 26 = .ok (.ifCond .eq 7, 3) := by decide +kernel
theorem dX1_isTopic_29 : decode cX1_isTopic 29 = .ok (.iconst 1, 1) := by decide +kernel
theorem dX1_isTopic_30 : decode cX1_isTopic 30 = .ok (.goto 4, 3) := by decide +kernel
theorem dX1_isTopic_33 : decode cX1_isTopic 33 = .ok (.iconst 0, 1) := by decide +kernel
theorem dX1_isTopic_34 : decode cX1_isTopic 34 = .ok (.ireturn, 1) := by decide +kernel
theorem dX1_matches_0 : decode cX1_matches 0 = .ok (.iconst 0, 1) := by decide +kernel
theorem dX1_matches_1 : decode cX1_matches 1 = .ok (.istore_n 2, 1) := by decide +kernel
theorem dX1_matches_2 : decode cX1_matches 2 = .ok (.iload_n 2, 1) := by decide +kernel
theorem dX1_matches_3 : decode cX1_matches 3 = .ok (.iconst 4, 1) := by decide +kernel
theorem dX1_matches_4 : decode cX1_matches 4 = .ok (.if_icmp .ge 65, 3) := by decide +kernel
theorem dX1_matches_7 : decode cX1_matches 7 = .ok (.iload_n 0, 1) := by decide +kernel
theorem dX1_matches_8 : decode cX1_matches 8 = .ok (.iload_n 2, 1) := by decide +kernel
theorem dX1_matches_9 : decode cX1_matches 9 = .ok (.invokestatic 15, 3) := by decide +kernel
theorem dX1_matches_12 : decode cX1_matches 12 = .ok (.istore_n 3, 1) := by decide +kernel
theorem dX1_matches_13 : decode cX1_matches 13 = .ok (.iload_n 1, 1) := by decide +kernel
theorem dX1_matches_14 : decode cX1_matches 14 = .ok (.iload_n 2, 1) := by decide +kernel
theorem dX1_matches_15 : decode cX1_matches 15 = .ok (.invokestatic 15, 3) := by decide +kernel
theorem dX1_matches_18 : decode cX1_matches 18 = .ok (.istore 4, 2) := by decide +kernel
theorem dX1_matches_20 : decode cX1_matches 20 = .ok (.iload_n 3, 1) := by decide +kernel
theorem dX1_matches_21 : decode cX1_matches 21 = .ok (.bipush 28, 2) := by decide +kernel
theorem dX1_matches_23 : decode cX1_matches 23 = .ok (.if_icmp .ne 5, 3) := by decide +kernel
theorem dX1_matches_26 : decode cX1_matches 26 = .ok (.iconst 1, 1) := by decide +kernel
theorem dX1_matches_27 : decode cX1_matches 27 = .ok (.ireturn, 1) := by decide +kernel
theorem dX1_matches_28 : decode cX1_matches 28 = .ok (.iload_n 3, 1) := by decide +kernel
theorem dX1_matches_29 : decode cX1_matches 29 = .ok (.ifCond .eq 8, 3) := by decide +kernel
theorem dX1_matches_32 : decode cX1_matches 32 = .ok (.iload 4, 2) := by decide +kernel
theorem dX1_matches_34 : decode cX1_matches 34 = .ok (.ifCond .ne 15, 3) := by decide +kernel
theorem dX1_matches_37 : decode cX1_matches 37 = .ok (.iload_n 3, 1) := by decide +kernel
theorem dX1_matches_38 : decode cX1_matches 38 = .ok (.iload 4, 2) := by decide +kernel
theorem dX1_matches_40 : decode cX1_matches 40 = .ok (.if_icmp .ne 7, 3) := by decide +kernel
theorem dX1_matches_43 : decode cX1_matches 43 = .ok (.iconst 1, 1) := by decide +kernel
theorem dX1_matches_44 : decode cX1_matches 44 = .ok (.goto 4, 3) := by decide +kernel
theorem dX1_matches_47 : decode cX1_matches 47 = .ok (.iconst 0, 1) := by decide +kernel
theorem dX1_matches_48 : decode cX1_matches 48 = .ok (.ireturn, 1) := by decide +kernel
theorem dX1_matches_49 : decode cX1_matches 49 = .ok (.iload_n 3, 1) := by decide +kernel
theorem dX1_matches_50 : decode cX1_matches 50 = .ok (.bipush 27, 2) := by decide +kernel
theorem dX1_matches_52 : decode cX1_matches 52 = .ok (.if_icmp .eq 11, 3) := by decide +kernel
theorem dX1_matches_55 : decode cX1_matches 55 = .ok (.iload_n 3, 1) := by decide +kernel
theorem dX1_matches_56 : decode cX1_matches 56 = .ok (.iload 4, 2) := by decide +kernel
theorem dX1_matches_58 : decode cX1_matches 58 = .ok (.if_icmp .eq 5, 3) := by decide +kernel
theorem dX1_matches_61 : decode cX1_matches 61 = .ok (.iconst 0, 1) := by decide +kernel
theorem dX1_matches_62 : decode cX1_matches 62 = .ok (.ireturn, 1) := by decide +kernel
theorem dX1_matches_63 : decode cX1_matches 63 = .ok (.iinc 2 1, 3) := by decide +kernel
theorem dX1_matches_66 : decode cX1_matches 66 = .ok (.goto (-64), 3) := by decide +kernel
theorem dX1_matches_69 : decode cX1_matches 69 = .ok (.iconst 1, 1) := by decide +kernel
theorem dX1_matches_70 : decode cX1_matches 70 = .ok (.ireturn, 1) := by decide +kernel
theorem dX1_shareKey_0 : decode cX1_shareKey 0 = .ok (.iload_n 0, 1) := by decide +kernel
theorem dX1_shareKey_1 : decode cX1_shareKey 1 = .ok (.bipush 20, 2) := by decide +kernel
theorem dX1_shareKey_3 : decode cX1_shareKey 3 = .ok (.ishl, 1) := by decide +kernel
theorem dX1_shareKey_4 : decode cX1_shareKey 4 = .ok (.iload_n 1, 1) := by decide +kernel
theorem dX1_shareKey_5 : decode cX1_shareKey 5 = .ok (.ior, 1) := by decide +kernel
theorem dX1_shareKey_6 : decode cX1_shareKey 6 = .ok (.ireturn, 1) := by decide +kernel
theorem dX1_filterOf_0 : decode cX1_filterOf 0 = .ok (.iload_n 0, 1) := by decide +kernel
theorem dX1_filterOf_1 : decode cX1_filterOf 1 = .ok (.ldc 22, 2) := by decide +kernel
theorem dX1_filterOf_3 : decode cX1_filterOf 3 = .ok (.iand, 1) := by decide +kernel
theorem dX1_filterOf_4 : decode cX1_filterOf 4 = .ok (.ireturn, 1) := by decide +kernel
theorem dX1_groupOf_0 : decode cX1_groupOf 0 = .ok (.iload_n 0, 1) := by decide +kernel
theorem dX1_groupOf_1 : decode cX1_groupOf 1 = .ok (.bipush 20, 2) := by decide +kernel
theorem dX1_groupOf_3 : decode cX1_groupOf 3 = .ok (.ishr, 1) := by decide +kernel
theorem dX1_groupOf_4 : decode cX1_groupOf 4 = .ok (.ireturn, 1) := by decide +kernel
theorem dX1_shiftOf_0 : decode cX1_shiftOf 0 = .ok (.iconst 5, 1) := by decide +kernel
theorem dX1_shiftOf_1 : decode cX1_shiftOf 1 = .ok (.iconst 3, 1) := by decide +kernel
theorem dX1_shiftOf_2 : decode cX1_shiftOf 2 = .ok (.iload_n 0, 1) := by decide +kernel
theorem dX1_shiftOf_3 : decode cX1_shiftOf 3 = .ok (.isub, 1) := by decide +kernel
theorem dX1_shiftOf_4 : decode cX1_shiftOf 4 = .ok (.imul, 1) := by decide +kernel
theorem dX1_shiftOf_5 : decode cX1_shiftOf 5 = .ok (.ireturn, 1) := by decide +kernel
theorem dX2_init_0 : decode cX2_init 0 = .ok (.aload_n 0, 1) := by decide +kernel
theorem dX2_init_1 : decode cX2_init 1 = .ok (.invokespecial 3, 3) := by decide +kernel
theorem dX2_init_4 : decode cX2_init 4 = .ok (.aload_n 0, 1) := by decide +kernel
theorem dX2_init_5 : decode cX2_init 5 = .ok (.new 9, 3) := by decide +kernel
theorem dX2_init_8 : decode cX2_init 8 = .ok (.dup, 1) := by decide +kernel
theorem dX2_init_9 : decode cX2_init 9 = .ok (.invokespecial 11, 3) := by decide +kernel
theorem dX2_init_12 : decode cX2_init 12 = .ok (.putfield 12, 3) := by decide +kernel
theorem dX2_init_15 : decode cX2_init 15 = .ok (.aload_n 0, 1) := by decide +kernel
theorem dX2_init_16 : decode cX2_init 16 = .ok (.new 18, 3) := by decide +kernel
theorem dX2_init_19 : decode cX2_init 19 = .ok (.dup, 1) := by decide +kernel
theorem dX2_init_20 : decode cX2_init 20 = .ok (.invokespecial 20, 3) := by decide +kernel
theorem dX2_init_23 : decode cX2_init 23 = .ok (.putfield 21, 3) := by decide +kernel
theorem dX2_init_26 : decode cX2_init 26 = .ok (.return_, 1) := by decide +kernel
theorem dX2_read_0 : decode cX2_read 0 = .ok (.aload_n 0, 1) := by decide +kernel
theorem dX2_read_1 : decode cX2_read 1 = .ok (.getfield 21, 3) := by decide +kernel
theorem dX2_read_4 : decode cX2_read 4 = .ok (.invokevirtual 25, 3) := by decide +kernel
theorem dX2_read_7 : decode cX2_read 7 = .ok (.aload_n 0, 1) := by decide +kernel
theorem dX2_read_8 : decode cX2_read 8 = .ok (.iconst 0, 1) := by decide +kernel
theorem dX2_read_9 : decode cX2_read 9 = .ok (.putfield 28, 3) := by decide +kernel
theorem dX2_read_12 : decode cX2_read 12 = .ok (.aload_n 0, 1) := by decide +kernel
theorem dX2_read_13 : decode cX2_read 13 = .ok (.iconst 0, 1) := by decide +kernel
theorem dX2_read_14 : decode cX2_read 14 = .ok (.putfield 32, 3) := by decide +kernel
theorem dX2_read_17 : decode cX2_read 17 = .ok (.aload_n 0, 1) := by decide +kernel
theorem dX2_read_18 : decode cX2_read 18 = .ok (.iconst 0, 1) := by decide +kernel
theorem dX2_read_19 : decode cX2_read 19 = .ok (.putfield 35, 3) := by decide +kernel
theorem dX2_read_22 : decode cX2_read 22 = .ok (.aload_n 0, 1) := by decide +kernel
theorem dX2_read_23 : decode cX2_read 23 = .ok (.iconst 0, 1) := by decide +kernel
theorem dX2_read_24 : decode cX2_read 24 = .ok (.putfield 38, 3) := by decide +kernel
theorem dX2_read_27 : decode cX2_read 27 = .ok (.aload_n 0, 1) := by decide +kernel
theorem dX2_read_28 : decode cX2_read 28 = .ok (.invokevirtual 41, 3) := by decide +kernel
theorem dX2_read_31 : decode cX2_read 31 = .ok (.iconst 0, 1) := by decide +kernel
theorem dX2_read_32 : decode cX2_read 32 = .ok (.istore_n 1, 1) := by decide +kernel
theorem dX2_read_33 : decode cX2_read 33 = .ok (.iload_n 1, 1) := by decide +kernel
theorem dX2_read_34 : decode cX2_read 34 = .ok (.sipush 200, 3) := by decide +kernel
theorem dX2_read_37 : decode cX2_read 37 = .ok (.if_icmp .ge 60, 3) := by decide +kernel
theorem dX2_read_40 : decode cX2_read 40 = .ok (.aload_n 0, 1) := by decide +kernel
theorem dX2_read_41 : decode cX2_read 41 = .ok (.getfield 32, 3) := by decide +kernel
theorem dX2_read_44 : decode cX2_read 44 = .ok (.ifCond .ne 53, 3) := by decide +kernel
theorem dX2_read_47 : decode cX2_read 47 = .ok (.aload_n 0, 1) := by decide +kernel
theorem dX2_read_48 : decode cX2_read 48 = .ok (.getfield 44, 3) := by decide +kernel
theorem dX2_read_51 : decode cX2_read 51 = .ok (.ifCond .eq 46, 3) := by decide +kernel
theorem dX2_read_54 : decode cX2_read 54 = .ok (.aload_n 0, 1) := by decide +kernel
theorem dX2_read_55 : decode cX2_read 55 = .ok (.ldc 47, 2) := by decide +kernel
theorem dX2_read_57 : decode cX2_read 57 = .ok (.invokevirtual 49, 3) := by decide +kernel
theorem dX2_read_60 : decode cX2_read 60 = .ok (.ifCond .eq 10, 3) := by decide +kernel
theorem dX2_read_63 : decode cX2_read 63 = .ok (.aload_n 0, 1) := by decide +kernel
theorem dX2_read_64 : decode cX2_read 64 = .ok (.invokevirtual 53, 3) := by decide +kernel
theorem dX2_read_67 : decode cX2_read 67 = .ok (.goto 24, 3) := by decide +kernel
theorem dX2_read_70 : decode cX2_read 70 = .ok (.aload_n 0, 1) := by decide +kernel
theorem dX2_read_71 : decode cX2_read 71 = .ok (.ldc 56, 2) := by decide +kernel
theorem dX2_read_73 : decode cX2_read 73 = .ok (.invokevirtual 49, 3) := by decide +kernel
theorem dX2_read_76 : decode cX2_read 76 = .ok (.ifCond .eq 10, 3) := by decide +kernel
theorem dX2_read_79 : decode cX2_read 79 = .ok (.aload_n 0, 1) := by decide +kernel
theorem dX2_read_80 : decode cX2_read 80 = .ok (.invokevirtual 58, 3) := by decide +kernel
theorem dX2_read_83 : decode cX2_read 83 = .ok (.goto 8, 3) := by decide +kernel
theorem dX2_read_86 : decode cX2_read 86 = .ok (.aload_n 0, 1) := by decide +kernel
theorem dX2_read_87 : decode cX2_read 87 = .ok (.iconst 2, 1) := by decide +kernel
theorem dX2_read_88 : decode cX2_read 88 = .ok (.invokevirtual 61, 3) := by decide +kernel
theorem dX2_read_91 : decode cX2_read 91 = .ok (.iinc 1 1, 3) := by decide +kernel
theorem dX2_read_94 : decode cX2_read 94 = .ok (.goto (-61), 3) := by decide +kernel
theorem dX2_read_97 : decode cX2_read 97 = .ok (.aload_n 0, 1) := by decide +kernel
theorem dX2_read_98 : decode cX2_read 98 = .ok (.getfield 32, 3) := by decide +kernel
theorem dX2_read_101 : decode cX2_read 101 = .ok (.ifCond .ne 10, 3) := by decide +kernel
theorem dX2_read_104 : decode cX2_read 104 = .ok (.aload_n 0, 1) := by decide +kernel
theorem dX2_read_105 : decode cX2_read 105 = .ok (.getfield 38, 3) := by decide +kernel
theorem dX2_read_108 : decode cX2_read 108 = .ok (.goto 10, 3) := by decide +kernel
theorem dX2_read_111 : decode cX2_read 111 = .ok (.bipush (-10), 2) := by decide +kernel
theorem dX2_read_113 : decode cX2_read 113 = .ok (.aload_n 0, 1) := by decide +kernel
theorem dX2_read_114 : decode cX2_read 114 = .ok (.getfield 35, 3) := by decide +kernel
theorem dX2_read_117 : decode cX2_read 117 = .ok (.isub, 1) := by decide +kernel
theorem dX2_read_118 : decode cX2_read 118 = .ok (.ireturn, 1) := by decide +kernel
theorem dX2_readSubscription_0 : decode cX2_readSubscription 0 = .ok (.aload_n 0, 1) := by decide +kernel
theorem dX2_readSubscription_1 : decode cX2_readSubscription 1 = .ok (.invokevirtual 41, 3) := by decide +kernel
theorem dX2_readSubscription_4 : decode cX2_readSubscription 4 = .ok (.aload_n 0, 1) := by decide +kernel
theorem dX2_readSubscription_5 : decode cX2_readSubscription 5 = .ok (.iconst 0, 1) := by decide +kernel
theorem dX2_readSubscription_6 : decode cX2_readSubscription 6 = .ok (.iconst 5, 1) := by decide +kernel
theorem dX2_readSubscription_7 : decode cX2_readSubscription 7 = .ok (.invokevirtual 65, 3) := by decide +kernel
theorem dX2_readSubscription_10 : decode cX2_readSubscription 10 = .ok (.istore_n 1, 1) := by decide +kernel
theorem dX2_readSubscription_11 : decode cX2_readSubscription 11 = .ok (.aload_n 0, 1) := by decide +kernel
theorem dX2_readSubscription_12 : decode cX2_readSubscription 12 = .ok (.bipush 28, 2) := by decide +kernel
theorem dX2_readSubscription_14 : decode cX2_readSubscription 14 = .ok (.invokevirtual 69, 3) := by decide +kernel
theorem dX2_readSubscription_17 : decode cX2_readSubscription 17 = .ok (.istore_n 2, 1) := by decide +kernel
theorem dX2_readSubscription_18 : decode cX2_readSubscription 18 = .ok (.aload_n 0, 1) := by decide +kernel
theorem dX2_readSubscription_19 : decode cX2_readSubscription 19 = .ok (.iconst 0, 1) := by decide +kernel
theorem dX2_readSubscription_20 : decode cX2_readSubscription 20 = .ok (.iconst 2, 1) := by decide +kernel
theorem dX2_readSubscription_21 : decode cX2_readSubscription 21 = .ok (.invokevirtual 65, 3) := by decide +kernel
theorem dX2_readSubscription_24 : decode cX2_readSubscription 24 = .ok (.istore_n 3, 1) := by decide +kernel
theorem dX2_readSubscription_25 : decode cX2_readSubscription 25 = .ok (.aload_n 0, 1) := by decide +kernel
theorem dX2_readSubscription_26 : decode cX2_readSubscription 26 = .ok (.iconst 0, 1) := by decide +kernel
theorem dX2_readSubscription_27 : decode cX2_readSubscription 27 = .ok (.iconst 3, 1) := by decide +kernel
theorem dX2_readSubscription_28 : decode cX2_readSubscription 28 = .ok (.invokevirtual 65, 3) := by decide +kernel
theorem dX2_readSubscription_31 : decode cX2_readSubscription 31 = .ok (.istore 4, 2) := by decide +kernel
theorem dX2_readSubscription_33 : decode cX2_readSubscription 33 = .ok (.aload_n 0, 1) := by decide +kernel
theorem dX2_readSubscription_34 : decode cX2_readSubscription 34 = .ok (.invokevirtual 73, 3) := by decide +kernel
theorem dX2_readSubscription_37 : decode cX2_readSubscription 37 = .ok (.ifCond .eq 10, 3) := by decide +kernel
theorem dX2_readSubscription_40 : decode cX2_readSubscription 40 = .ok (.iload_n 1, 1) := by decide +kernel
theorem dX2_readSubscription_41 : decode cX2_readSubscription 41 = .ok (.invokestatic 77, 3) := by decide +kernel
theorem dX2_readSubscription_44 : decode cX2_readSubscription 44 = .ok (.ifCond .eq 4, 3) := by decide +kernel
theorem dX2_readSubscription_47 : decode cX2_readSubscription 47 = .ok (.return_, 1) := by decide +kernel
theorem dX2_readSubscription_48 : decode cX2_readSubscription 48 = .ok (.aload_n 0, 1) := by decide +kernel
theorem dX2_readSubscription_49 : decode cX2_readSubscription 49 = .ok (.getfield 21, 3) := by decide +kernel
theorem dX2_readSubscription_52 : decode cX2_readSubscription 52 = .ok (.getfield 81, 3) := by decide +kernel
theorem dX2_readSubscription_55 : decode cX2_readSubscription 55 = .ok (.iload_n 1, 1) := by decide +kernel
theorem dX2_readSubscription_56 : decode cX2_readSubscription 56 = .ok (.aaload, 1) := by decide +kernel
theorem dX2_readSubscription_57 : decode cX2_readSubscription 57 = .ok (.astore 5, 2) := by decide +kernel
theorem dX2_readSubscription_59 : decode cX2_readSubscription 59 = .ok (.aload 5, 2) := by decide +kernel
theorem dX2_readSubscription_61 : decode cX2_readSubscription 61 = .ok (.iload_n 2, 1) := by decide +kernel
theorem dX2_readSubscription_62 : decode cX2_readSubscription 62 = .ok (.iload 4, 2) := by decide +kernel
theorem dX2_readSubscription_64 : decode cX2_readSubscription 64 = .ok (.invokevirtual 85, 3) := by decide +kernel
theorem dX2_readSubscription_67 : decode cX2_readSubscription 67 = .ok (.ifCond .lt 11, 3) := by decide +kernel
theorem dX2_readSubscription_70 : decode cX2_readSubscription 70 = .ok (.aload_n 0, 1) := by decide +kernel
theorem dX2_readSubscription_71 : decode cX2_readSubscription 71 = .ok (.iconst 4, 1) := by decide +kernel
theorem dX2_readSubscription_72 : decode cX2_readSubscription 72 = .ok (.invokevirtual 61, 3) := by decide +kernel
theorem dX2_readSubscription_75 : decode cX2_readSubscription 75 = .ok (.goto 32, 3) := by decide +kernel
theorem dX2_readSubscription_78 : decode cX2_readSubscription 78 = .ok (.aload 5, 2) := by decide +kernel
theorem dX2_readSubscription_80 : decode cX2_readSubscription 80 = .ok (.iload_n 2, 1) := by decide +kernel
theorem dX2_readSubscription_81 : decode cX2_readSubscription 81 = .ok (.iload_n 3, 1) := by decide +kernel
theorem dX2_readSubscription_82 : decode cX2_readSubscription 82 = .ok (.iload 4, 2) := by decide +kernel
theorem dX2_readSubscription_84 : decode cX2_readSubscription 84 = .ok (.invokevirtual 90, 3) := by decide +kernel
theorem dX2_readSubscription_87 : decode cX2_readSubscription 87 = .ok (.ifCond .ne 11, 3) := by decide +kernel
theorem dX2_readSubscription_90 : decode cX2_readSubscription 90 = .ok (.aload_n 0, 1) := by decide +kernel
theorem dX2_readSubscription_91 : decode cX2_readSubscription 91 = .ok (.iconst 5, 1) := by decide +kernel
theorem dX2_readSubscription_92 : decode cX2_readSubscription 92 = .ok (.invokevirtual 61, 3) := by decide +kernel
theorem dX2_readSubscription_95 : decode cX2_readSubscription 95 = .ok (.goto 12, 3) := by decide +kernel
theorem dX2_readSubscription_98 : decode cX2_readSubscription 98 = .ok (.aload 5, 2) := by decide +kernel
theorem dX2_readSubscription_100 : decode cX2_readSubscription 100 = .ok (.invokevirtual 94, 3) := by decide +kernel
theorem dX2_readSubscription_103 : decode cX2_readSubscription 103 = .ok (.aload_n 0, 1) := by decide +kernel
theorem dX2_readSubscription_104 : decode cX2_readSubscription 104 = .ok (.invokevirtual 97, 3) := by decide +kernel
theorem dX2_readSubscription_107 : decode cX2_readSubscription 107 = .ok (.return_, 1) := by decide +kernel
theorem dX2_readKept_0 : decode cX2_readKept 0 = .ok (.aload_n 0, 1) := by decide +kernel
theorem dX2_readKept_1 : decode cX2_readKept 1 = .ok (.invokevirtual 41, 3) := by decide +kernel
theorem dX2_readKept_4 : decode cX2_readKept 4 = .ok (.aload_n 0, 1) := by decide +kernel
theorem dX2_readKept_5 : decode cX2_readKept 5 = .ok (.bipush 26, 2) := by decide +kernel
theorem dX2_readKept_7 : decode cX2_readKept 7 = .ok (.invokevirtual 69, 3) := by decide +kernel
theorem dX2_readKept_10 : decode cX2_readKept 10 = .ok (.istore_n 1, 1) := by decide +kernel
theorem dX2_readKept_11 : decode cX2_readKept 11 = .ok (.aload_n 0, 1) := by decide +kernel
theorem dX2_readKept_12 : decode cX2_readKept 12 = .ok (.iconst 1, 1) := by decide +kernel
theorem dX2_readKept_13 : decode cX2_readKept 13 = .ok (.bipush 99, 2) := by decide +kernel
theorem dX2_readKept_15 : decode cX2_readKept 15 = .ok (.invokevirtual 65, 3) := by decide +kernel
theorem dX2_readKept_18 : decode cX2_readKept 18 = .ok (.istore_n 2, 1) := by decide +kernel
theorem dX2_readKept_19 : decode cX2_readKept 19 = .ok (.aload_n 0, 1) := by decide +kernel
theorem dX2_readKept_20 : decode cX2_readKept 20 = .ok (.iconst 0, 1) := by decide +kernel
theorem dX2_readKept_21 : decode cX2_readKept 21 = .ok (.iconst 2, 1) := by decide +kernel
theorem dX2_readKept_22 : decode cX2_readKept 22 = .ok (.invokevirtual 65, 3) := by decide +kernel
theorem dX2_readKept_25 : decode cX2_readKept 25 = .ok (.istore_n 3, 1) := by decide +kernel
theorem dX2_readKept_26 : decode cX2_readKept 26 = .ok (.aload_n 0, 1) := by decide +kernel
theorem dX2_readKept_27 : decode cX2_readKept 27 = .ok (.invokevirtual 73, 3) := by decide +kernel
theorem dX2_readKept_30 : decode cX2_readKept 30 = .ok (.ifCond .ne 4, 3) := by decide +kernel
theorem dX2_readKept_33 : decode cX2_readKept 33 = .ok (.return_, 1) := by decide +kernel
theorem dX2_readKept_34 : decode cX2_readKept 34 = .ok (.aload_n 0, 1) := by decide +kernel
theorem dX2_readKept_35 : decode cX2_readKept 35 = .ok (.getfield 21, 3) := by decide +kernel
theorem dX2_readKept_38 : decode cX2_readKept 38 = .ok (.getfield 100, 3) := by decide +kernel
theorem dX2_readKept_41 : decode cX2_readKept 41 = .ok (.iconst 0, 1) := by decide +kernel
theorem dX2_readKept_42 : decode cX2_readKept 42 = .ok (.iload_n 1, 1) := by decide +kernel
theorem dX2_readKept_43 : decode cX2_readKept 43 = .ok (.invokevirtual 103, 3) := by decide +kernel
theorem dX2_readKept_46 : decode cX2_readKept 46 = .ok (.ifCond .lt 11, 3) := by decide +kernel
theorem dX2_readKept_49 : decode cX2_readKept 49 = .ok (.aload_n 0, 1) := by decide +kernel
theorem dX2_readKept_50 : decode cX2_readKept 50 = .ok (.iconst 4, 1) := by decide +kernel
theorem dX2_readKept_51 : decode cX2_readKept 51 = .ok (.invokevirtual 61, 3) := by decide +kernel
theorem dX2_readKept_54 : decode cX2_readKept 54 = .ok (.goto 58, 3) := by decide +kernel
theorem dX2_readKept_57 : decode cX2_readKept 57 = .ok (.aload_n 0, 1) := by decide +kernel
theorem dX2_readKept_58 : decode cX2_readKept 58 = .ok (.getfield 21, 3) := by decide +kernel
theorem dX2_readKept_61 : decode cX2_readKept 61 = .ok (.getfield 100, 3) := by decide +kernel
theorem dX2_readKept_64 : decode cX2_readKept 64 = .ok (.invokevirtual 108, 3) := by decide +kernel
theorem dX2_readKept_67 : decode cX2_readKept 67 = .ok (.ifCond .eq 11, 3) := by decide +kernel
theorem dX2_readKept_70 : decode cX2_readKept 70 = .ok (.aload_n 0, 1) := by decide +kernel
theorem dX2_readKept_71 : decode cX2_readKept 71 = .ok (.iconst 5, 1) := by decide +kernel
theorem dX2_readKept_72 : decode cX2_readKept 72 = .ok (.invokevirtual 61, 3) := by decide +kernel
theorem dX2_readKept_75 : decode cX2_readKept 75 = .ok (.goto 37, 3) := by decide +kernel
theorem dX2_readKept_78 : decode cX2_readKept 78 = .ok (.aload_n 0, 1) := by decide +kernel
theorem dX2_readKept_79 : decode cX2_readKept 79 = .ok (.getfield 21, 3) := by decide +kernel
theorem dX2_readKept_82 : decode cX2_readKept 82 = .ok (.iload_n 1, 1) := by decide +kernel
theorem dX2_readKept_83 : decode cX2_readKept 83 = .ok (.iload_n 2, 1) := by decide +kernel
theorem dX2_readKept_84 : decode cX2_readKept 84 = .ok (.iload_n 3, 1) := by decide +kernel
theorem dX2_readKept_85 : decode cX2_readKept 85 = .ok (.aload_n 0, 1) := by decide +kernel
theorem dX2_readKept_86 : decode cX2_readKept 86 = .ok (.getfield 21, 3) := by decide +kernel
theorem dX2_readKept_89 : decode cX2_readKept 89 = .ok (.getfield 111, 3) := by decide +kernel
theorem dX2_readKept_92 : decode cX2_readKept 92 = .ok (.invokevirtual 114, 3) := by decide +kernel
theorem dX2_readKept_95 : decode cX2_readKept 95 = .ok (.aload_n 0, 1) := by decide +kernel
theorem dX2_readKept_96 : decode cX2_readKept 96 = .ok (.getfield 21, 3) := by decide +kernel
theorem dX2_readKept_99 : decode cX2_readKept 99 = .ok (.dup, 1) := by decide +kernel
theorem dX2_readKept_100 : decode cX2_readKept 100 = .ok (.getfield 111, 3) := by decide +kernel
theorem dX2_readKept_103 : decode cX2_readKept 103 = .ok (.iconst 1, 1) := by decide +kernel
theorem dX2_readKept_104 : decode cX2_readKept 104 = .ok (.iadd, 1) := by decide +kernel
theorem dX2_readKept_105 : decode cX2_readKept 105 = .ok (.putfield 111, 3) := by decide +kernel
theorem dX2_readKept_108 : decode cX2_readKept 108 = .ok (.aload_n 0, 1) := by decide +kernel
theorem dX2_readKept_109 : decode cX2_readKept 109 = .ok (.invokevirtual 97, 3) := by decide +kernel
theorem dX2_readKept_112 : decode cX2_readKept 112 = .ok (.return_, 1) := by decide +kernel
theorem dX2_takePath_0 : decode cX2_takePath 0 = .ok (.iconst 0, 1) := by decide +kernel
theorem dX2_takePath_1 : decode cX2_takePath 1 = .ok (.istore_n 2, 1) := by decide +kernel
theorem dX2_takePath_2 : decode cX2_takePath 2 = .ok (.iconst 0, 1) := by decide +kernel
theorem dX2_takePath_3 : decode cX2_takePath 3 = .ok (.istore_n 3, 1) := by decide +kernel
theorem dX2_takePath_4 : decode cX2_takePath 4 = .ok (.iload_n 3, 1) := by decide +kernel
theorem dX2_takePath_5 : decode cX2_takePath 5 = .ok (.iconst 4, 1) := by decide +kernel
theorem dX2_takePath_6 : decode cX2_takePath 6 = .ok (.if_icmp .ge 78, 3) := by decide +kernel
theorem dX2_takePath_9 : decode cX2_takePath 9 = .ok (.aload_n 0, 1) := by decide +kernel
theorem dX2_takePath_10 : decode cX2_takePath 10 = .ok (.getfield 32, 3) := by decide +kernel
theorem dX2_takePath_13 : decode cX2_takePath 13 = .ok (.ifCond .ne 71, 3) := by decide +kernel
theorem dX2_takePath_16 : decode cX2_takePath 16 = .ok (.aload_n 0, 1) := by decide +kernel
theorem dX2_takePath_17 : decode cX2_takePath 17 = .ok (.invokevirtual 120, 3) := by decide +kernel
theorem dX2_takePath_20 : decode cX2_takePath 20 = .ok (.istore 4, 2) := by decide +kernel
theorem dX2_takePath_22 : decode cX2_takePath 22 = .ok (.iload 4, 2) := by decide +kernel
theorem dX2_takePath_24 : decode cX2_takePath 24 = .ok (.ifCond .eq 9, 3) := by decide +kernel
theorem dX2_takePath_27 : decode cX2_takePath 27 = .ok (.iload 4, 2) := by decide +kernel
theorem dX2_takePath_29 : decode cX2_takePath 29 = .ok (.iload_n 1, 1) := by decide +kernel
theorem dX2_takePath_30 : decode cX2_takePath 30 = .ok (.if_icmp .le 10, 3) := by decide +kernel
theorem dX2_takePath_33 : decode cX2_takePath 33 = .ok (.aload_n 0, 1) := by decide +kernel
theorem dX2_takePath_34 : decode cX2_takePath 34 = .ok (.iconst 2, 1) := by decide +kernel
theorem dX2_takePath_35 : decode cX2_takePath 35 = .ok (.invokevirtual 61, 3) := by decide +kernel
theorem dX2_takePath_38 : decode cX2_takePath 38 = .ok (.iload_n 2, 1) := by decide +kernel
theorem dX2_takePath_39 : decode cX2_takePath 39 = .ok (.ireturn, 1) := by decide +kernel
theorem dX2_takePath_40 : decode cX2_takePath 40 = .ok (.iload_n 2, 1) := by decide +kernel
theorem dX2_takePath_41 : decode cX2_takePath 41 = .ok (.iload 4, 2) := by decide +kernel
theorem dX2_takePath_43 : decode cX2_takePath 43 = .ok (.invokestatic 124, 3) := by decide +kernel
theorem dX2_takePath_46 : decode cX2_takePath 46 = .ok (.istore_n 2, 1) := by decide +kernel
theorem dX2_takePath_47 : decode cX2_takePath 47 = .ok (.aload_n 0, 1) := by decide +kernel
theorem dX2_takePath_48 : decode cX2_takePath 48 = .ok (.invokevirtual 41, 3) := by decide +kernel
theorem dX2_takePath_51 : decode cX2_takePath 51 = .ok (.aload_n 0, 1) := by decide +kernel
theorem dX2_takePath_52 : decode cX2_takePath 52 = .ok (.getfield 44, 3) := by decide +kernel
theorem dX2_takePath_55 : decode cX2_takePath 55 = .ok (.bipush 47, 2) := by decide +kernel
theorem dX2_takePath_57 : decode cX2_takePath 57 = .ok (.if_icmp .ne 15, 3) := by decide +kernel
theorem dX2_takePath_60 : decode cX2_takePath 60 = .ok (.iload 4, 2) := by decide +kernel
theorem dX2_takePath_62 : decode cX2_takePath 62 = .ok (.bipush 28, 2) := by decide +kernel
theorem dX2_takePath_64 : decode cX2_takePath 64 = .ok (.if_icmp .eq 8, 3) := by decide +kernel
theorem dX2_takePath_67 : decode cX2_takePath 67 = .ok (.iload_n 3, 1) := by decide +kernel
theorem dX2_takePath_68 : decode cX2_takePath 68 = .ok (.iconst 3, 1) := by decide +kernel
theorem dX2_takePath_69 : decode cX2_takePath 69 = .ok (.if_icmp .ne 5, 3) := by decide +kernel
theorem dX2_takePath_72 : decode cX2_takePath 72 = .ok (.iload_n 2, 1) := by decide +kernel
theorem dX2_takePath_73 : decode cX2_takePath 73 = .ok (.ireturn, 1) := by decide +kernel
theorem dX2_takePath_74 : decode cX2_takePath 74 = .ok (.aload_n 0, 1) := by decide +kernel
theorem dX2_takePath_75 : decode cX2_takePath 75 = .ok (.invokevirtual 41, 3) := by decide +kernel
theorem dX2_takePath_78 : decode cX2_takePath 78 = .ok (.iinc 3 1, 3) := by decide +kernel
theorem dX2_takePath_81 : decode cX2_takePath 81 = .ok (.goto (-77), 3) := by decide +kernel
theorem dX2_takePath_84 : decode cX2_takePath 84 = .ok (.iload_n 2, 1) := by decide +kernel
theorem dX2_takePath_85 : decode cX2_takePath 85 = .ok (.ireturn, 1) := by decide +kernel
theorem dX2_levelAtHand_0 : decode cX2_levelAtHand 0 = .ok (.aload_n 0, 1) := by decide +kernel
theorem dX2_levelAtHand_1 : decode cX2_levelAtHand 1 = .ok (.getfield 44, 3) := by decide +kernel
theorem dX2_levelAtHand_4 : decode cX2_levelAtHand 4 = .ok (.bipush 43, 2) := by decide +kernel
theorem dX2_levelAtHand_6 : decode cX2_levelAtHand 6 = .ok (.if_icmp .ne 6, 3) := by decide +kernel
theorem dX2_levelAtHand_9 : decode cX2_levelAtHand 9 = .ok (.bipush 27, 2) := by decide +kernel
theorem dX2_levelAtHand_11 : decode cX2_levelAtHand 11 = .ok (.ireturn, 1) := by decide +kernel
theorem dX2_levelAtHand_12 : decode cX2_levelAtHand 12 = .ok (.aload_n 0, 1) := by decide +kernel
theorem dX2_levelAtHand_13 : decode cX2_levelAtHand 13 = .ok (.getfield 44, 3) := by decide +kernel
theorem dX2_levelAtHand_16 : decode cX2_levelAtHand 16 = .ok (.bipush 35, 2) := by decide +kernel
theorem dX2_levelAtHand_18 : decode cX2_levelAtHand 18 = .ok (.if_icmp .ne 6, 3) := by decide +kernel
theorem dX2_levelAtHand_21 : decode cX2_levelAtHand 21 = .ok (.bipush 28, 2) := by decide +kernel
theorem dX2_levelAtHand_23 : decode cX2_levelAtHand 23 = .ok (.ireturn, 1) := by decide +kernel
theorem dX2_levelAtHand_24 : decode cX2_levelAtHand 24 = .ok (.aload_n 0, 1) := by decide +kernel
theorem dX2_levelAtHand_25 : decode cX2_levelAtHand 25 = .ok (.getfield 44, 3) := by decide +kernel
theorem dX2_levelAtHand_28 : decode cX2_levelAtHand 28 = .ok (.iconst 1, 1) := by decide +kernel
theorem dX2_levelAtHand_29 : decode cX2_levelAtHand 29 = .ok (.if_icmp .ne 35, 3) := by decide +kernel
theorem dX2_levelAtHand_32 : decode cX2_levelAtHand 32 = .ok (.aload_n 0, 1) := by decide +kernel
theorem dX2_levelAtHand_33 : decode cX2_levelAtHand 33 = .ok (.getfield 28, 3) := by decide +kernel
theorem dX2_levelAtHand_36 : decode cX2_levelAtHand 36 = .ok (.aload_n 0, 1) := by decide +kernel
theorem dX2_levelAtHand_37 : decode cX2_levelAtHand 37 = .ok (.getfield 127, 3) := by decide +kernel
theorem dX2_levelAtHand_40 : decode cX2_levelAtHand 40 = .ok (.isub, 1) := by decide +kernel
theorem dX2_levelAtHand_41 : decode cX2_levelAtHand 41 = .ok (.iconst 1, 1) := by decide +kernel
theorem dX2_levelAtHand_42 : decode cX2_levelAtHand 42 = .ok (.if_icmp .ne 22, 3) := by decide +kernel
theorem dX2_levelAtHand_45 : decode cX2_levelAtHand 45 = .ok (.aload_n 0, 1) := by decide +kernel
theorem dX2_levelAtHand_46 : decode cX2_levelAtHand 46 = .ok (.getfield 12, 3) := by decide +kernel
theorem dX2_levelAtHand_49 : decode cX2_levelAtHand 49 = .ok (.aload_n 0, 1) := by decide +kernel
theorem dX2_levelAtHand_50 : decode cX2_levelAtHand 50 = .ok (.getfield 127, 3) := by decide +kernel
theorem dX2_levelAtHand_53 : decode cX2_levelAtHand 53 = .ok (.invokevirtual 130, 3) := by decide +kernel
theorem dX2_levelAtHand_56 : decode cX2_levelAtHand 56 = .ok (.bipush 97, 2) := by decide +kernel
theorem dX2_levelAtHand_58 : decode cX2_levelAtHand 58 = .ok (.isub, 1) := by decide +kernel
theorem dX2_levelAtHand_59 : decode cX2_levelAtHand 59 = .ok (.iconst 1, 1) := by decide +kernel
theorem dX2_levelAtHand_60 : decode cX2_levelAtHand 60 = .ok (.iadd, 1) := by decide +kernel
theorem dX2_levelAtHand_61 : decode cX2_levelAtHand 61 = .ok (.goto 4, 3) := by decide +kernel
theorem dX2_levelAtHand_64 : decode cX2_levelAtHand 64 = .ok (.iconst 0, 1) := by decide +kernel
theorem dX2_levelAtHand_65 : decode cX2_levelAtHand 65 = .ok (.ireturn, 1) := by decide +kernel
theorem dX2_takeNumber_0 : decode cX2_takeNumber 0 = .ok (.aload_n 0, 1) := by decide +kernel
theorem dX2_takeNumber_1 : decode cX2_takeNumber 1 = .ok (.getfield 32, 3) := by decide +kernel
theorem dX2_takeNumber_4 : decode cX2_takeNumber 4 = .ok (.ifCond .eq 5, 3) := by decide +kernel
theorem dX2_takeNumber_7 : decode cX2_takeNumber 7 = .ok (.iload_n 1, 1) := by decide +kernel
theorem dX2_takeNumber_8 : decode cX2_takeNumber 8 = .ok (.ireturn, 1) := by decide +kernel
theorem dX2_takeNumber_9 : decode cX2_takeNumber 9 = .ok (.aload_n 0, 1) := by decide +kernel
theorem dX2_takeNumber_10 : decode cX2_takeNumber 10 = .ok (.getfield 44, 3) := by decide +kernel
theorem dX2_takeNumber_13 : decode cX2_takeNumber 13 = .ok (.iconst 2, 1) := by decide +kernel
theorem dX2_takeNumber_14 : decode cX2_takeNumber 14 = .ok (.if_icmp .eq 10, 3) := by decide +kernel
theorem dX2_takeNumber_17 : decode cX2_takeNumber 17 = .ok (.aload_n 0, 1) := by decide +kernel
theorem dX2_takeNumber_18 : decode cX2_takeNumber 18 = .ok (.iconst 2, 1) := by decide +kernel
theorem dX2_takeNumber_19 : decode cX2_takeNumber 19 = .ok (.invokevirtual 61, 3) := by decide +kernel
theorem dX2_takeNumber_22 : decode cX2_takeNumber 22 = .ok (.iload_n 1, 1) := by decide +kernel
theorem dX2_takeNumber_23 : decode cX2_takeNumber 23 = .ok (.ireturn, 1) := by decide +kernel
theorem dX2_takeNumber_24 : decode cX2_takeNumber 24 = .ok (.aload_n 0, 1) := by decide +kernel
theorem dX2_takeNumber_25 : decode cX2_takeNumber 25 = .ok (.getfield 133, 3) := by decide +kernel
theorem dX2_takeNumber_28 : decode cX2_takeNumber 28 = .ok (.iload_n 1, 1) := by decide +kernel
theorem dX2_takeNumber_29 : decode cX2_takeNumber 29 = .ok (.iload_n 2, 1) := by decide +kernel
theorem dX2_takeNumber_30 : decode cX2_takeNumber 30 = .ok (.invokestatic 136, 3) := by decide +kernel
theorem dX2_takeNumber_33 : decode cX2_takeNumber 33 = .ok (.ifCond .eq 10, 3) := by decide +kernel
theorem dX2_takeNumber_36 : decode cX2_takeNumber 36 = .ok (.aload_n 0, 1) := by decide +kernel
theorem dX2_takeNumber_37 : decode cX2_takeNumber 37 = .ok (.iconst 3, 1) := by decide +kernel
theorem dX2_takeNumber_38 : decode cX2_takeNumber 38 = .ok (.invokevirtual 61, 3) := by decide +kernel
theorem dX2_takeNumber_41 : decode cX2_takeNumber 41 = .ok (.iload_n 1, 1) := by decide +kernel
theorem dX2_takeNumber_42 : decode cX2_takeNumber 42 = .ok (.ireturn, 1) := by decide +kernel
theorem dX2_takeNumber_43 : decode cX2_takeNumber 43 = .ok (.aload_n 0, 1) := by decide +kernel
theorem dX2_takeNumber_44 : decode cX2_takeNumber 44 = .ok (.getfield 133, 3) := by decide +kernel
theorem dX2_takeNumber_47 : decode cX2_takeNumber 47 = .ok (.istore_n 3, 1) := by decide +kernel
theorem dX2_takeNumber_48 : decode cX2_takeNumber 48 = .ok (.aload_n 0, 1) := by decide +kernel
theorem dX2_takeNumber_49 : decode cX2_takeNumber 49 = .ok (.invokevirtual 41, 3) := by decide +kernel
theorem dX2_takeNumber_52 : decode cX2_takeNumber 52 = .ok (.iload_n 3, 1) := by decide +kernel
theorem dX2_takeNumber_53 : decode cX2_takeNumber 53 = .ok (.ireturn, 1) := by decide +kernel
theorem dX2_isAtSemicolon_0 : decode cX2_isAtSemicolon 0 = .ok (.aload_n 0, 1) := by decide +kernel
theorem dX2_isAtSemicolon_1 : decode cX2_isAtSemicolon 1 = .ok (.getfield 44, 3) := by decide +kernel
theorem dX2_isAtSemicolon_4 : decode cX2_isAtSemicolon 4 = .ok (.bipush 59, 2) := by decide +kernel
theorem dX2_isAtSemicolon_6 : decode cX2_isAtSemicolon 6 = .ok (.if_icmp .eq 8, 3) := by decide +kernel
theorem dX2_isAtSemicolon_9 : decode cX2_isAtSemicolon 9 = .ok (.aload_n 0, 1) := by decide +kernel
theorem dX2_isAtSemicolon_10 : decode cX2_isAtSemicolon 10 = .ok (.iconst 2, 1) := by decide +kernel
theorem dX2_isAtSemicolon_11 : decode cX2_isAtSemicolon 11 = .ok (.invokevirtual 61, 3) := by decide +kernel
theorem dX2_isAtSemicolon_14 : decode cX2_isAtSemicolon 14 = .ok (.aload_n 0, 1) := by decide +kernel
theorem dX2_isAtSemicolon_15 : decode cX2_isAtSemicolon 15 = .ok (.getfield 32, 3) := by decide +kernel
theorem dX2_isAtSemicolon_18 : decode cX2_isAtSemicolon 18 = .ok (.ifCond .ne 7, 3) := by decide +kernel
theorem dX2_isAtSemicolon_21 : decode cX2_isAtSemicolon 21 = .ok (.iconst 1, 1) := by decide +kernel
theorem dX2_isAtSemicolon_22 : decode cX2_isAtSemicolon 22 = .ok (.goto 4, 3) := by decide +kernel
theorem dX2_isAtSemicolon_25 : decode cX2_isAtSemicolon 25 = .ok (.iconst 0, 1) := by decide +kernel
theorem dX2_isAtSemicolon_26 : decode cX2_isAtSemicolon 26 = .ok (.ireturn, 1) := by decide +kernel
theorem dX2_takeSemicolon_0 : decode cX2_takeSemicolon 0 = .ok (.aload_n 0, 1) := by decide +kernel
theorem dX2_takeSemicolon_1 : decode cX2_takeSemicolon 1 = .ok (.dup, 1) := by decide +kernel
theorem dX2_takeSemicolon_2 : decode cX2_takeSemicolon 2 = .ok (.getfield 38, 3) := by decide +kernel
theorem dX2_takeSemicolon_5 : decode cX2_takeSemicolon 5 = .ok (.iconst 1, 1) := by decide +kernel
theorem dX2_takeSemicolon_6 : decode cX2_takeSemicolon 6 = .ok (.iadd, 1) := by decide +kernel
theorem dX2_takeSemicolon_7 : decode cX2_takeSemicolon 7 = .ok (.putfield 38, 3) := by decide +kernel
theorem dX2_takeSemicolon_10 : decode cX2_takeSemicolon 10 = .ok (.aload_n 0, 1) := by decide +kernel
theorem dX2_takeSemicolon_11 : decode cX2_takeSemicolon 11 = .ok (.invokevirtual 41, 3) := by decide +kernel
theorem dX2_takeSemicolon_14 : decode cX2_takeSemicolon 14 = .ok (.return_, 1) := by decide +kernel
theorem dX2_spells_0 : decode cX2_spells 0 = .ok (.aload_n 0, 1) := by decide +kernel
theorem dX2_spells_1 : decode cX2_spells 1 = .ok (.getfield 44, 3) := by decide +kernel
theorem dX2_spells_4 : decode cX2_spells 4 = .ok (.iconst 1, 1) := by decide +kernel
theorem dX2_spells_5 : decode cX2_spells 5 = .ok (.if_icmp .ne 19, 3) := by decide +kernel
theorem dX2_spells_8 : decode cX2_spells 8 = .ok (.aload_n 0, 1) := by decide +kernel
theorem dX2_spells_9 : decode cX2_spells 9 = .ok (.getfield 28, 3) := by decide +kernel
theorem dX2_spells_12 : decode cX2_spells 12 = .ok (.aload_n 0, 1) := by decide +kernel
theorem dX2_spells_13 : decode cX2_spells 13 = .ok (.getfield 127, 3) := by decide +kernel
theorem dX2_spells_16 : decode cX2_spells 16 = .ok (.isub, 1) := by decide +kernel
theorem dX2_spells_17 : decode cX2_spells 17 = .ok (.aload_n 1, 1) := by decide +kernel
theorem dX2_spells_18 : decode cX2_spells 18 = .ok (.invokevirtual 139, 3) := by decide +kernel
theorem dX2_spells_21 : decode cX2_spells 21 = .ok (.if_icmp .eq 5, 3) := by decide +kernel
theorem dX2_spells_24 : decode cX2_spells 24 = .ok (.iconst 0, 1) := by decide +kernel
theorem dX2_spells_25 : decode cX2_spells 25 = .ok (.ireturn, 1) := by decide +kernel
theorem dX2_spells_26 : decode cX2_spells 26 = .ok (.iconst 0, 1) := by decide +kernel
theorem dX2_spells_27 : decode cX2_spells 27 = .ok (.istore_n 2, 1) := by decide +kernel
theorem dX2_spells_28 : decode cX2_spells 28 = .ok (.iload_n 2, 1) := by decide +kernel
theorem dX2_spells_29 : decode cX2_spells 29 = .ok (.aload_n 1, 1) := by decide +kernel
theorem dX2_spells_30 : decode cX2_spells 30 = .ok (.invokevirtual 139, 3) := by decide +kernel
theorem dX2_spells_33 : decode cX2_spells 33 = .ok (.if_icmp .ge 32, 3) := by decide +kernel
theorem dX2_spells_36 : decode cX2_spells 36 = .ok (.aload_n 0, 1) := by decide +kernel
theorem dX2_spells_37 : decode cX2_spells 37 = .ok (.getfield 12, 3) := by decide +kernel
theorem dX2_spells_40 : decode cX2_spells 40 = .ok (.aload_n 0, 1) := by decide +kernel
theorem dX2_spells_41 : decode cX2_spells 41 = .ok (.getfield 127, 3) := by decide +kernel
theorem dX2_spells_44 : decode cX2_spells 44 = .ok (.iload_n 2, 1) := by decide +kernel
theorem dX2_spells_45 : decode cX2_spells 45 = .ok (.iadd, 1) := by decide +kernel
theorem dX2_spells_46 : decode cX2_spells 46 = .ok (.invokevirtual 130, 3) := by decide +kernel
theorem dX2_spells_49 : decode cX2_spells 49 = .ok (.aload_n 1, 1) := by decide +kernel
theorem dX2_spells_50 : decode cX2_spells 50 = .ok (.iload_n 2, 1) := by decide +kernel
theorem dX2_spells_51 : decode cX2_spells 51 = .ok (.invokevirtual 144, 3) := by decide +kernel
theorem dX2_spells_54 : decode cX2_spells 54 = .ok (.if_icmp .eq 5, 3) := by decide +kernel
theorem dX2_spells_57 : decode cX2_spells 57 = .ok (.iconst 0, 1) := by decide +kernel
theorem dX2_spells_58 : decode cX2_spells 58 = .ok (.ireturn, 1) := by decide +kernel
theorem dX2_spells_59 : decode cX2_spells 59 = .ok (.iinc 2 1, 3) := by decide +kernel
theorem dX2_spells_62 : decode cX2_spells 62 = .ok (.goto (-34), 3) := by decide +kernel
theorem dX2_spells_65 : decode cX2_spells 65 = .ok (.iconst 1, 1) := by decide +kernel
theorem dX2_spells_66 : decode cX2_spells 66 = .ok (.ireturn, 1) := by decide +kernel
theorem dX2_fail_0 : decode cX2_fail 0 = .ok (.aload_n 0, 1) := by decide +kernel
theorem dX2_fail_1 : decode cX2_fail 1 = .ok (.getfield 32, 3) := by decide +kernel
theorem dX2_fail_4 : decode cX2_fail 4 = .ok (.ifCond .ne 16, 3) := by decide +kernel
theorem dX2_fail_7 : decode cX2_fail 7 = .ok (.aload_n 0, 1) := by decide +kernel
theorem dX2_fail_8 : decode cX2_fail 8 = .ok (.iload_n 1, 1) := by decide +kernel
theorem dX2_fail_9 : decode cX2_fail 9 = .ok (.putfield 32, 3) := by decide +kernel
theorem dX2_fail_12 : decode cX2_fail 12 = .ok (.aload_n 0, 1) := by decide +kernel
theorem dX2_fail_13 : decode cX2_fail 13 = .ok (.aload_n 0, 1) := by decide +kernel
theorem dX2_fail_14 : decode cX2_fail 14 = .ok (.getfield 127, 3) := by decide +kernel
theorem dX2_fail_17 : decode cX2_fail 17 = .ok (.putfield 35, 3) := by decide +kernel
theorem dX2_fail_20 : decode cX2_fail 20 = .ok (.return_, 1) := by decide +kernel
theorem dX2_advance_0 : decode cX2_advance 0 = .ok (.aload_n 0, 1) := by decide +kernel
theorem dX2_advance_1 : decode cX2_advance 1 = .ok (.getfield 32, 3) := by decide +kernel
theorem dX2_advance_4 : decode cX2_advance 4 = .ok (.ifCond .eq 4, 3) := by decide +kernel
theorem dX2_advance_7 : decode cX2_advance 7 = .ok (.return_, 1) := by decide +kernel
theorem dX2_advance_8 : decode cX2_advance 8 = .ok (.aload_n 0, 1) := by decide +kernel
theorem dX2_advance_9 : decode cX2_advance 9 = .ok (.getfield 28, 3) := by decide +kernel
theorem dX2_advance_12 : decode cX2_advance 12 = .ok (.sipush 200, 3) := by decide +kernel
theorem dX2_advance_15 : decode cX2_advance 15 = .ok (.if_icmp .ge 32, 3) := by decide +kernel
theorem dX2_advance_18 : decode cX2_advance 18 = .ok (.aload_n 0, 1) := by decide +kernel
theorem dX2_advance_19 : decode cX2_advance 19 = .ok (.getfield 12, 3) := by decide +kernel
theorem dX2_advance_22 : decode cX2_advance 22 = .ok (.aload_n 0, 1) := by decide +kernel
theorem dX2_advance_23 : decode cX2_advance 23 = .ok (.getfield 28, 3) := by decide +kernel
theorem dX2_advance_26 : decode cX2_advance 26 = .ok (.invokevirtual 130, 3) := by decide +kernel
theorem dX2_advance_29 : decode cX2_advance 29 = .ok (.bipush 32, 2) := by decide +kernel
theorem dX2_advance_31 : decode cX2_advance 31 = .ok (.if_icmp .ne 16, 3) := by decide +kernel
theorem dX2_advance_34 : decode cX2_advance 34 = .ok (.aload_n 0, 1) := by decide +kernel
theorem dX2_advance_35 : decode cX2_advance 35 = .ok (.dup, 1) := by decide +kernel
theorem dX2_advance_36 : decode cX2_advance 36 = .ok (.getfield 28, 3) := by decide +kernel
theorem dX2_advance_39 : decode cX2_advance 39 = .ok (.iconst 1, 1) := by decide +kernel
theorem dX2_advance_40 : decode cX2_advance 40 = .ok (.iadd, 1) := by decide +kernel
theorem dX2_advance_41 : decode cX2_advance 41 = .ok (.putfield 28, 3) := by decide +kernel
theorem dX2_advance_44 : decode cX2_advance 44 = .ok (.goto (-36), 3) := by decide +kernel
theorem dX2_advance_47 : decode cX2_advance 47 = .ok (.aload_n 0, 1) := by decide +kernel
theorem dX2_advance_48 : decode cX2_advance 48 = .ok (.aload_n 0, 1) := by decide +kernel
theorem dX2_advance_49 : decode cX2_advance 49 = .ok (.getfield 28, 3) := by decide +kernel
theorem dX2_advance_52 : decode cX2_advance 52 = .ok (.putfield 127, 3) := by decide +kernel
theorem dX2_advance_55 : decode cX2_advance 55 = .ok (.aload_n 0, 1) := by decide +kernel
theorem dX2_advance_56 : decode cX2_advance 56 = .ok (.getfield 12, 3) := by decide +kernel
theorem dX2_advance_59 : decode cX2_advance 59 = .ok (.aload_n 0, 1) := by decide +kernel
theorem dX2_advance_60 : decode cX2_advance 60 = .ok (.getfield 127, 3) := by decide +kernel
theorem dX2_advance_63 : decode cX2_advance 63 = .ok (.invokevirtual 130, 3) := by decide +kernel
theorem dX2_advance_66 : decode cX2_advance 66 = .ok (.istore_n 1, 1) := by decide +kernel
theorem dX2_advance_67 : decode cX2_advance 67 = .ok (.iload_n 1, 1) := by decide +kernel
theorem dX2_advance_68 : decode cX2_advance 68 = .ok (.ifCond .ge 11, 3) := by decide +kernel
theorem dX2_advance_71 : decode cX2_advance 71 = .ok (.aload_n 0, 1) := by decide +kernel
theorem dX2_advance_72 : decode cX2_advance 72 = .ok (.iconst 0, 1) := by decide +kernel
theorem dX2_advance_73 : decode cX2_advance 73 = .ok (.putfield 44, 3) := by decide +kernel
theorem dX2_advance_76 : decode cX2_advance 76 = .ok (.goto 36, 3) := by decide +kernel
theorem dX2_advance_79 : decode cX2_advance 79 = .ok (.iload_n 1, 1) := by decide +kernel
theorem dX2_advance_80 : decode cX2_advance 80 = .ok (.invokestatic 148, 3) := by decide +kernel
theorem dX2_advance_83 : decode cX2_advance 83 = .ok (.ifCond .eq 10, 3) := by decide +kernel
theorem dX2_advance_86 : decode cX2_advance 86 = .ok (.aload_n 0, 1) := by decide +kernel
theorem dX2_advance_87 : decode cX2_advance 87 = .ok (.invokevirtual 151, 3) := by decide +kernel
theorem dX2_advance_90 : decode cX2_advance 90 = .ok (.goto 22, 3) := by decide +kernel
theorem dX2_advance_93 : decode cX2_advance 93 = .ok (.iload_n 1, 1) := by decide +kernel
theorem dX2_advance_94 : decode cX2_advance 94 = .ok (.invokestatic 154, 3) := by decide +kernel
theorem dX2_advance_97 : decode cX2_advance 97 = .ok (.ifCond .eq 10, 3) := by decide +kernel
theorem dX2_advance_100 : decode cX2_advance 100 = .ok (.aload_n 0, 1) := by decide +kernel
theorem dX2_advance_101 : decode cX2_advance 101 = .ok (.invokevirtual 157, 3) := by decide +kernel
theorem dX2_advance_104 : decode cX2_advance 104 = .ok (.goto 8, 3) := by decide +kernel
theorem dX2_advance_107 : decode cX2_advance 107 = .ok (.aload_n 0, 1) := by decide +kernel
theorem dX2_advance_108 : decode cX2_advance 108 = .ok (.iload_n 1, 1) := by decide +kernel
theorem dX2_advance_109 : decode cX2_advance 109 = .ok (.invokevirtual 160, 3) := by decide +kernel
theorem dX2_advance_112 : decode cX2_advance 112 = .ok (.return_, 1) := by decide +kernel
theorem dX2_scanName_0 : decode cX2_scanName 0 = .ok (.aload_n 0, 1) := by decide +kernel
theorem dX2_scanName_1 : decode cX2_scanName 1 = .ok (.iconst 1, 1) := by decide +kernel
theorem dX2_scanName_2 : decode cX2_scanName 2 = .ok (.putfield 44, 3) := by decide +kernel
theorem dX2_scanName_5 : decode cX2_scanName 5 = .ok (.aload_n 0, 1) := by decide +kernel
theorem dX2_scanName_6 : decode cX2_scanName 6 = .ok (.getfield 28, 3) := by decide +kernel
theorem dX2_scanName_9 : decode cX2_scanName 9 = .ok (.sipush 200, 3) := by decide +kernel
theorem dX2_scanName_12 : decode cX2_scanName 12 = .ok (.if_icmp .ge 33, 3) := by decide +kernel
theorem dX2_scanName_15 : decode cX2_scanName 15 = .ok (.aload_n 0, 1) := by decide +kernel
theorem dX2_scanName_16 : decode cX2_scanName 16 = .ok (.getfield 12, 3) := by decide +kernel
theorem dX2_scanName_19 : decode cX2_scanName 19 = .ok (.aload_n 0, 1) := by decide +kernel
theorem dX2_scanName_20 : decode cX2_scanName 20 = .ok (.getfield 28, 3) := by decide +kernel
theorem dX2_scanName_23 : decode cX2_scanName 23 = .ok (.invokevirtual 130, 3) := by decide +kernel
theorem dX2_scanName_26 : decode cX2_scanName 26 = .ok (.invokestatic 148, 3) := by decide +kernel
theorem dX2_scanName_29 : decode cX2_scanName 29 = .ok (.ifCond .eq 16, 3) := by decide +kernel
theorem dX2_scanName_32 : decode cX2_scanName 32 = .ok (.aload_n 0, 1) := by decide +kernel
theorem dX2_scanName_33 : decode cX2_scanName 33 = .ok (.dup, 1) := by decide +kernel
theorem dX2_scanName_34 : decode cX2_scanName 34 = .ok (.getfield 28, 3) := by decide +kernel
theorem dX2_scanName_37 : decode cX2_scanName 37 = .ok (.iconst 1, 1) := by decide +kernel
theorem dX2_scanName_38 : decode cX2_scanName 38 = .ok (.iadd, 1) := by decide +kernel
theorem dX2_scanName_39 : decode cX2_scanName 39 = .ok (.putfield 28, 3) := by decide +kernel
theorem dX2_scanName_42 : decode cX2_scanName 42 = .ok (.goto (-37), 3) := by decide +kernel
theorem dX2_scanName_45 : decode cX2_scanName 45 = .ok (.return_, 1) := by decide +kernel
theorem dX2_scanNumber_0 : decode cX2_scanNumber 0 = .ok (.aload_n 0, 1) := by decide +kernel
theorem dX2_scanNumber_1 : decode cX2_scanNumber 1 = .ok (.iconst 2, 1) := by decide +kernel
theorem dX2_scanNumber_2 : decode cX2_scanNumber 2 = .ok (.putfield 44, 3) := by decide +kernel
theorem dX2_scanNumber_5 : decode cX2_scanNumber 5 = .ok (.aload_n 0, 1) := by decide +kernel
theorem dX2_scanNumber_6 : decode cX2_scanNumber 6 = .ok (.iconst 0, 1) := by decide +kernel
theorem dX2_scanNumber_7 : decode cX2_scanNumber 7 = .ok (.putfield 133, 3) := by decide +kernel
theorem dX2_scanNumber_10 : decode cX2_scanNumber 10 = .ok (.aload_n 0, 1) := by decide +kernel
theorem dX2_scanNumber_11 : decode cX2_scanNumber 11 = .ok (.getfield 28, 3) := by decide +kernel
theorem dX2_scanNumber_14 : decode cX2_scanNumber 14 = .ok (.sipush 200, 3) := by decide +kernel
theorem dX2_scanNumber_17 : decode cX2_scanNumber 17 = .ok (.if_icmp .ge 59, 3) := by decide +kernel
theorem dX2_scanNumber_20 : decode cX2_scanNumber 20 = .ok (.aload_n 0, 1) := by decide +kernel
theorem dX2_scanNumber_21 : decode cX2_scanNumber 21 = .ok (.getfield 12, 3) := by decide +kernel
theorem dX2_scanNumber_24 : decode cX2_scanNumber 24 = .ok (.aload_n 0, 1) := by decide +kernel
theorem dX2_scanNumber_25 : decode cX2_scanNumber 25 = .ok (.getfield 28, 3) := by decide +kernel
theorem dX2_scanNumber_28 : decode cX2_scanNumber 28 = .ok (.invokevirtual 130, 3) := by decide +kernel
theorem dX2_scanNumber_31 : decode cX2_scanNumber 31 = .ok (.invokestatic 154, 3) := by decide +kernel
theorem dX2_scanNumber_34 : decode cX2_scanNumber 34 = .ok (.ifCond .eq 42, 3) := by decide +kernel
theorem dX2_scanNumber_37 : decode cX2_scanNumber 37 = .ok (.aload_n 0, 1) := by decide +kernel
theorem dX2_scanNumber_38 : decode cX2_scanNumber 38 = .ok (.aload_n 0, 1) := by decide +kernel
theorem dX2_scanNumber_39 : decode cX2_scanNumber 39 = .ok (.getfield 133, 3) := by decide +kernel
theorem dX2_scanNumber_42 : decode cX2_scanNumber 42 = .ok (.bipush 10, 2) := by decide +kernel
theorem dX2_scanNumber_44 : decode cX2_scanNumber 44 = .ok (.imul, 1) := by decide +kernel
theorem dX2_scanNumber_45 : decode cX2_scanNumber 45 = .ok (.aload_n 0, 1) := by decide +kernel
theorem dX2_scanNumber_46 : decode cX2_scanNumber 46 = .ok (.getfield 12, 3) := by decide +kernel
theorem dX2_scanNumber_49 : decode cX2_scanNumber 49 = .ok (.aload_n 0, 1) := by decide +kernel
theorem dX2_scanNumber_50 : decode cX2_scanNumber 50 = .ok (.getfield 28, 3) := by decide +kernel
theorem dX2_scanNumber_53 : decode cX2_scanNumber 53 = .ok (.invokevirtual 130, 3) := by decide +kernel
theorem dX2_scanNumber_56 : decode cX2_scanNumber 56 = .ok (.iadd, 1) := by decide +kernel
theorem dX2_scanNumber_57 : decode cX2_scanNumber 57 = .ok (.bipush 48, 2) := by decide +kernel
theorem dX2_scanNumber_59 : decode cX2_scanNumber 59 = .ok (.isub, 1) := by decide +kernel
theorem dX2_scanNumber_60 : decode cX2_scanNumber 60 = .ok (.putfield 133, 3) := by decide +kernel
theorem dX2_scanNumber_63 : decode cX2_scanNumber 63 = .ok (.aload_n 0, 1) := by decide +kernel
theorem dX2_scanNumber_64 : decode cX2_scanNumber 64 = .ok (.dup, 1) := by decide +kernel
theorem dX2_scanNumber_65 : decode cX2_scanNumber 65 = .ok (.getfield 28, 3) := by decide +kernel
theorem dX2_scanNumber_68 : decode cX2_scanNumber 68 = .ok (.iconst 1, 1) := by decide +kernel
theorem dX2_scanNumber_69 : decode cX2_scanNumber 69 = .ok (.iadd, 1) := by decide +kernel
theorem dX2_scanNumber_70 : decode cX2_scanNumber 70 = .ok (.putfield 28, 3) := by decide +kernel
theorem dX2_scanNumber_73 : decode cX2_scanNumber 73 = .ok (.goto (-63), 3) := by decide +kernel
theorem dX2_scanNumber_76 : decode cX2_scanNumber 76 = .ok (.aload_n 0, 1) := by decide +kernel
theorem dX2_scanNumber_77 : decode cX2_scanNumber 77 = .ok (.getfield 28, 3) := by decide +kernel
theorem dX2_scanNumber_80 : decode cX2_scanNumber 80 = .ok (.aload_n 0, 1) := by decide +kernel
theorem dX2_scanNumber_81 : decode cX2_scanNumber 81 = .ok (.getfield 127, 3) := by decide +kernel
theorem dX2_scanNumber_84 : decode cX2_scanNumber 84 = .ok (.isub, 1) := by decide +kernel
theorem dX2_scanNumber_85 : decode cX2_scanNumber 85 = .ok (.iconst 2, 1) := by decide +kernel
theorem dX2_scanNumber_86 : decode cX2_scanNumber 86 = .ok (.if_icmp .le 8, 3) := by decide +kernel
theorem dX2_scanNumber_89 : decode cX2_scanNumber 89 = .ok (.aload_n 0, 1) := by decide +kernel
theorem dX2_scanNumber_90 : decode cX2_scanNumber 90 = .ok (.iconst 1, 1) := by decide +kernel
theorem dX2_scanNumber_91 : decode cX2_scanNumber 91 = .ok (.invokevirtual 61, 3) := by decide +kernel
theorem dX2_scanNumber_94 : decode cX2_scanNumber 94 = .ok (.return_, 1) := by decide +kernel
theorem dX2_scanSign_0 : decode cX2_scanSign 0 = .ok (.aload_n 0, 1) := by decide +kernel
theorem dX2_scanSign_1 : decode cX2_scanSign 1 = .ok (.iload_n 1, 1) := by decide +kernel
theorem dX2_scanSign_2 : decode cX2_scanSign 2 = .ok (.putfield 44, 3) := by decide +kernel
theorem dX2_scanSign_5 : decode cX2_scanSign 5 = .ok (.aload_n 0, 1) := by decide +kernel
theorem dX2_scanSign_6 : decode cX2_scanSign 6 = .ok (.dup, 1) := by decide +kernel
theorem dX2_scanSign_7 : decode cX2_scanSign 7 = .ok (.getfield 28, 3) := by decide +kernel
theorem dX2_scanSign_10 : decode cX2_scanSign 10 = .ok (.iconst 1, 1) := by decide +kernel
theorem dX2_scanSign_11 : decode cX2_scanSign 11 = .ok (.iadd, 1) := by decide +kernel
theorem dX2_scanSign_12 : decode cX2_scanSign 12 = .ok (.putfield 28, 3) := by decide +kernel
theorem dX2_scanSign_15 : decode cX2_scanSign 15 = .ok (.iload_n 1, 1) := by decide +kernel
theorem dX2_scanSign_16 : decode cX2_scanSign 16 = .ok (.bipush 47, 2) := by decide +kernel
theorem dX2_scanSign_18 : decode cX2_scanSign 18 = .ok (.if_icmp .eq 26, 3) := by decide +kernel
theorem dX2_scanSign_21 : decode cX2_scanSign 21 = .ok (.iload_n 1, 1) := by decide +kernel
theorem dX2_scanSign_22 : decode cX2_scanSign 22 = .ok (.bipush 43, 2) := by decide +kernel
theorem dX2_scanSign_24 : decode cX2_scanSign 24 = .ok (.if_icmp .eq 20, 3) := by decide +kernel
theorem dX2_scanSign_27 : decode cX2_scanSign 27 = .ok (.iload_n 1, 1) := by decide +kernel
theorem dX2_scanSign_28 : decode cX2_scanSign 28 = .ok (.bipush 35, 2) := by decide +kernel
theorem dX2_scanSign_30 : decode cX2_scanSign 30 = .ok (.if_icmp .eq 14, 3) := by decide +kernel
theorem dX2_scanSign_33 : decode cX2_scanSign 33 = .ok (.iload_n 1, 1) := by decide +kernel
theorem dX2_scanSign_34 : decode cX2_scanSign 34 = .ok (.bipush 59, 2) := by decide +kernel
theorem dX2_scanSign_36 : decode cX2_scanSign 36 = .ok (.if_icmp .eq 8, 3) := by decide +kernel
theorem dX2_scanSign_39 : decode cX2_scanSign 39 = .ok (.aload_n 0, 1) := by decide +kernel
theorem dX2_scanSign_40 : decode cX2_scanSign 40 = .ok (.iconst 1, 1) := by decide +kernel
theorem dX2_scanSign_41 : decode cX2_scanSign 41 = .ok (.invokevirtual 61, 3) := by decide +kernel
theorem dX2_scanSign_44 : decode cX2_scanSign 44 = .ok (.return_, 1) := by decide +kernel
theorem dX2_isLetter_0 : decode cX2_isLetter 0 = .ok (.iload_n 0, 1) := by decide +kernel
theorem dX2_isLetter_1 : decode cX2_isLetter 1 = .ok (.bipush 97, 2) := by decide +kernel
theorem dX2_isLetter_3 : decode cX2_isLetter 3 = .ok (.if_icmp .lt 13, 3) := by decide +kernel
theorem dX2_isLetter_6 : decode cX2_isLetter 6 = .ok (.iload_n 0, 1) := by decide +kernel
theorem dX2_isLetter_7 : decode cX2_isLetter 7 = .ok (.bipush 122, 2) := by decide +kernel
theorem dX2_isLetter_9 : decode cX2_isLetter 9 = .ok (.if_icmp .gt 7, 3) := by decide +kernel
theorem dX2_isLetter_12 : decode cX2_isLetter 12 = .ok (.iconst 1, 1) := by decide +kernel
theorem dX2_isLetter_13 : decode cX2_isLetter 13 = .ok (.goto 4, 3) := by decide +kernel
theorem dX2_isLetter_16 : decode cX2_isLetter 16 = .ok (.iconst 0, 1) := by decide +kernel
theorem dX2_isLetter_17 : decode cX2_isLetter 17 = .ok (.ireturn, 1) := by decide +kernel
theorem dX2_isFigure_0 : decode cX2_isFigure 0 = .ok (.iload_n 0, 1) := by decide +kernel
theorem dX2_isFigure_1 : decode cX2_isFigure 1 = .ok (.bipush 48, 2) := by decide +kernel
theorem dX2_isFigure_3 : decode cX2_isFigure 3 = .ok (.if_icmp .lt 13, 3) := by decide +kernel
theorem dX2_isFigure_6 : decode cX2_isFigure 6 = .ok (.iload_n 0, 1) := by decide +kernel
theorem dX2_isFigure_7 : decode cX2_isFigure 7 = .ok (.bipush 57, 2) := by decide +kernel
theorem dX2_isFigure_9 : decode cX2_isFigure 9 = .ok (.if_icmp .gt 7, 3) := by decide +kernel
theorem dX2_isFigure_12 : decode cX2_isFigure 12 = .ok (.iconst 1, 1) := by decide +kernel
theorem dX2_isFigure_13 : decode cX2_isFigure 13 = .ok (.goto 4, 3) := by decide +kernel
theorem dX2_isFigure_16 : decode cX2_isFigure 16 = .ok (.iconst 0, 1) := by decide +kernel
theorem dX2_isFigure_17 : decode cX2_isFigure 17 = .ok (.ireturn, 1) := by decide +kernel
theorem dX3_init_0 : decode cX3_init 0 = .ok (.aload_n 0, 1) := by decide +kernel
theorem dX3_init_1 : decode cX3_init 1 = .ok (.invokespecial 1, 3) := by decide +kernel
theorem dX3_init_4 : decode cX3_init 4 = .ok (.aload_n 0, 1) := by decide +kernel
theorem dX3_init_5 : decode cX3_init 5 = .ok (.iload_n 1, 1) := by decide +kernel
theorem dX3_init_6 : decode cX3_init 6 = .ok (.iconst 0, 1) := by decide +kernel
theorem dX3_init_7 : decode cX3_init 7 = .ok (.invokestatic 7, 3) := by decide +kernel
theorem dX3_init_10 : decode cX3_init 10 = .ok (.putfield 13, 3) := by decide +kernel
theorem dX3_init_13 : decode cX3_init 13 = .ok (.aload_n 0, 1) := by decide +kernel
theorem dX3_init_14 : decode cX3_init 14 = .ok (.iload_n 2, 1) := by decide +kernel
theorem dX3_init_15 : decode cX3_init 15 = .ok (.iconst 1, 1) := by decide +kernel
theorem dX3_init_16 : decode cX3_init 16 = .ok (.invokestatic 7, 3) := by decide +kernel
theorem dX3_init_19 : decode cX3_init 19 = .ok (.putfield 19, 3) := by decide +kernel
theorem dX3_init_22 : decode cX3_init 22 = .ok (.aload_n 0, 1) := by decide +kernel
theorem dX3_init_23 : decode cX3_init 23 = .ok (.aload_n 0, 1) := by decide +kernel
theorem dX3_init_24 : decode cX3_init 24 = .ok (.getfield 13, 3) := by decide +kernel
theorem dX3_init_27 : decode cX3_init 27 = .ok (.aload_n 0, 1) := by decide +kernel
theorem dX3_init_28 : decode cX3_init 28 = .ok (.getfield 19, 3) := by decide +kernel
theorem dX3_init_31 : decode cX3_init 31 = .ok (.imul, 1) := by decide +kernel
theorem dX3_init_32 : decode cX3_init 32 = .ok (.newarray .int, 2) := by decide +kernel
theorem dX3_init_34 : decode cX3_init 34 = .ok (.putfield 22, 3) := by decide +kernel
theorem dX3_init_37 : decode cX3_init 37 = .ok (.aload_n 0, 1) := by decide +kernel
theorem dX3_init_38 : decode cX3_init 38 = .ok (.iconst 0, 1) := by decide +kernel
theorem dX3_init_39 : decode cX3_init 39 = .ok (.putfield 26, 3) := by decide +kernel
theorem dX3_init_42 : decode cX3_init 42 = .ok (.return_, 1) := by decide +kernel
theorem dX3_clear_0 : decode cX3_clear 0 = .ok (.aload_n 0, 1) := by decide +kernel
theorem dX3_clear_1 : decode cX3_clear 1 = .ok (.iconst 0, 1) := by decide +kernel
theorem dX3_clear_2 : decode cX3_clear 2 = .ok (.putfield 26, 3) := by decide +kernel
theorem dX3_clear_5 : decode cX3_clear 5 = .ok (.return_, 1) := by decide +kernel
theorem dX3_isFull_0 : decode cX3_isFull 0 = .ok (.aload_n 0, 1) := by decide +kernel
theorem dX3_isFull_1 : decode cX3_isFull 1 = .ok (.getfield 26, 3) := by decide +kernel
theorem dX3_isFull_4 : decode cX3_isFull 4 = .ok (.aload_n 0, 1) := by decide +kernel
theorem dX3_isFull_5 : decode cX3_isFull 5 = .ok (.getfield 13, 3) := by decide +kernel
theorem dX3_isFull_8 : decode cX3_isFull 8 = .ok (.if_icmp .lt 7, 3) := by decide +kernel
theorem dX3_isFull_11 : decode cX3_isFull 11 = .ok (.iconst 1, 1) := by decide +kernel
theorem dX3_isFull_12 : decode cX3_isFull 12 = .ok (.goto 4, 3) := by decide +kernel
theorem dX3_isFull_15 : decode cX3_isFull 15 = .ok (.iconst 0, 1) := by decide +kernel
theorem dX3_isFull_16 : decode cX3_isFull 16 = .ok (.ireturn, 1) := by decide +kernel
theorem dX3_open_0 : decode cX3_open 0 = .ok (.aload_n 0, 1) := by decide +kernel
theorem dX3_open_1 : decode cX3_open 1 = .ok (.getfield 26, 3) := by decide +kernel
theorem dX3_open_4 : decode cX3_open 4 = .ok (.aload_n 0, 1) := by decide +kernel
theorem dX3_open_5 : decode cX3_open 5 = .ok (.getfield 13, 3) := by decide +kernel
theorem dX3_open_8 : decode cX3_open 8 = .ok (.if_icmp .lt 5, 3) := by decide +kernel
theorem dX3_open_11 : decode cX3_open 11 = .ok (.iconst (-1), 1) := by decide +kernel
theorem dX3_open_12 : decode cX3_open 12 = .ok (.ireturn, 1) := by decide +kernel
theorem dX3_open_13 : decode cX3_open 13 = .ok (.aload_n 0, 1) := by decide +kernel
theorem dX3_open_14 : decode cX3_open 14 = .ok (.getfield 26, 3) := by decide +kernel
theorem dX3_open_17 : decode cX3_open 17 = .ok (.istore_n 1, 1) := by decide +kernel
theorem dX3_open_18 : decode cX3_open 18 = .ok (.aload_n 0, 1) := by decide +kernel
theorem dX3_open_19 : decode cX3_open 19 = .ok (.dup, 1) := by decide +kernel
theorem dX3_open_20 : decode cX3_open 20 = .ok (.getfield 26, 3) := by decide +kernel
theorem dX3_open_23 : decode cX3_open 23 = .ok (.iconst 1, 1) := by decide +kernel
theorem dX3_open_24 : decode cX3_open 24 = .ok (.iadd, 1) := by decide +kernel
theorem dX3_open_25 : decode cX3_open 25 = .ok (.putfield 26, 3) := by decide +kernel
theorem dX3_open_28 : decode cX3_open 28 = .ok (.iconst 0, 1) := by decide +kernel
theorem dX3_open_29 : decode cX3_open 29 = .ok (.istore_n 2, 1) := by decide +kernel
theorem dX3_open_30 : decode cX3_open 30 = .ok (.iload_n 2, 1) := by decide +kernel
theorem dX3_open_31 : decode cX3_open 31 = .ok (.aload_n 0, 1) := by decide +kernel
theorem dX3_open_32 : decode cX3_open 32 = .ok (.getfield 19, 3) := by decide +kernel
theorem dX3_open_35 : decode cX3_open 35 = .ok (.if_icmp .ge 23, 3) := by decide +kernel
theorem dX3_open_38 : decode cX3_open 38 = .ok (.aload_n 0, 1) := by decide +kernel
theorem dX3_open_39 : decode cX3_open 39 = .ok (.getfield 22, 3) := by decide +kernel
theorem dX3_open_42 : decode cX3_open 42 = .ok (.iload_n 1, 1) := by decide +kernel
theorem dX3_open_43 : decode cX3_open 43 = .ok (.aload_n 0, 1) := by decide +kernel
theorem dX3_open_44 : decode cX3_open 44 = .ok (.getfield 19, 3) := by decide +kernel
theorem dX3_open_47 : decode cX3_open 47 = .ok (.imul, 1) := by decide +kernel
theorem dX3_open_48 : decode cX3_open 48 = .ok (.iload_n 2, 1) := by decide +kernel
theorem dX3_open_49 : decode cX3_open 49 = .ok (.iadd, 1) := by decide +kernel
theorem dX3_open_50 : decode cX3_open 50 = .ok (.iconst 0, 1) := by decide +kernel
theorem dX3_open_51 : decode cX3_open 51 = .ok (.iastore, 1) := by decide +kernel
theorem dX3_open_52 : decode cX3_open 52 = .ok (.iinc 2 1, 3) := by decide +kernel
theorem dX3_open_55 : decode cX3_open 55 = .ok (.goto (-25), 3) := by decide +kernel
theorem dX3_open_58 : decode cX3_open 58 = .ok (.iload_n 1, 1) := by decide +kernel
theorem dX3_open_59 : decode cX3_open 59 = .ok (.ireturn, 1) := by decide +kernel
theorem dX3_put_0 : decode cX3_put 0 = .ok (.iload_n 1, 1) := by decide +kernel
theorem dX3_put_1 : decode cX3_put 1 = .ok (.ifCond .lt 37, 3) := by decide +kernel
theorem dX3_put_4 : decode cX3_put 4 = .ok (.iload_n 1, 1) := by decide +kernel
theorem dX3_put_5 : decode cX3_put 5 = .ok (.aload_n 0, 1) := by decide +kernel
theorem dX3_put_6 : decode cX3_put 6 = .ok (.getfield 26, 3) := by decide +kernel
theorem dX3_put_9 : decode cX3_put 9 = .ok (.if_icmp .ge 29, 3) := by decide +kernel
theorem dX3_put_12 : decode cX3_put 12 = .ok (.iload_n 2, 1) := by decide +kernel
theorem dX3_put_13 : decode cX3_put 13 = .ok (.ifCond .lt 25, 3) := by decide +kernel
theorem dX3_put_16 : decode cX3_put 16 = .ok (.iload_n 2, 1) := by decide +kernel
theorem dX3_put_17 : decode cX3_put 17 = .ok (.aload_n 0, 1) := by decide +kernel
theorem dX3_put_18 : decode cX3_put 18 = .ok (.getfield 19, 3) := by decide +kernel
theorem dX3_put_21 : decode cX3_put 21 = .ok (.if_icmp .ge 17, 3) := by decide +kernel
theorem dX3_put_24 : decode cX3_put 24 = .ok (.aload_n 0, 1) := by decide +kernel
theorem dX3_put_25 : decode cX3_put 25 = .ok (.getfield 22, 3) := by decide +kernel
theorem dX3_put_28 : decode cX3_put 28 = .ok (.iload_n 1, 1) := by decide +kernel
theorem dX3_put_29 : decode cX3_put 29 = .ok (.aload_n 0, 1) := by decide +kernel
theorem dX3_put_30 : decode cX3_put 30 = .ok (.getfield 19, 3) := by decide +kernel
theorem dX3_put_33 : decode cX3_put 33 = .ok (.imul, 1) := by decide +kernel
theorem dX3_put_34 : decode cX3_put 34 = .ok (.iload_n 2, 1) := by decide +kernel
theorem dX3_put_35 : decode cX3_put 35 = .ok (.iadd, 1) := by decide +kernel
theorem dX3_put_36 : decode cX3_put 36 = .ok (.iload_n 3, 1) := by decide +kernel
theorem dX3_put_37 : decode cX3_put 37 = .ok (.iastore, 1) := by decide +kernel
theorem dX3_put_38 : decode cX3_put 38 = .ok (.return_, 1) := by decide +kernel
theorem dX3_cell_0 : decode cX3_cell 0 = .ok (.iload_n 1, 1) := by decide +kernel
theorem dX3_cell_1 : decode cX3_cell 1 = .ok (.ifCond .lt 23, 3) := by decide +kernel
theorem dX3_cell_4 : decode cX3_cell 4 = .ok (.iload_n 1, 1) := by decide +kernel
theorem dX3_cell_5 : decode cX3_cell 5 = .ok (.aload_n 0, 1) := by decide +kernel
theorem dX3_cell_6 : decode cX3_cell 6 = .ok (.getfield 26, 3) := by decide +kernel
theorem dX3_cell_9 : decode cX3_cell 9 = .ok (.if_icmp .ge 15, 3) := by decide +kernel
theorem dX3_cell_12 : decode cX3_cell 12 = .ok (.iload_n 2, 1) := by decide +kernel
theorem dX3_cell_13 : decode cX3_cell 13 = .ok (.ifCond .lt 11, 3) := by decide +kernel
theorem dX3_cell_16 : decode cX3_cell 16 = .ok (.iload_n 2, 1) := by decide +kernel
theorem dX3_cell_17 : decode cX3_cell 17 = .ok (.aload_n 0, 1) := by decide +kernel
theorem dX3_cell_18 : decode cX3_cell 18 = .ok (.getfield 19, 3) := by decide +kernel
theorem dX3_cell_21 : decode cX3_cell 21 = .ok (.if_icmp .lt 5, 3) := by decide +kernel
theorem dX3_cell_24 : decode cX3_cell 24 = .ok (.iconst 0, 1) := by decide +kernel
theorem dX3_cell_25 : decode cX3_cell 25 = .ok (.ireturn, 1) := by decide +kernel
theorem dX3_cell_26 : decode cX3_cell 26 = .ok (.aload_n 0, 1) := by decide +kernel
theorem dX3_cell_27 : decode cX3_cell 27 = .ok (.getfield 22, 3) := by decide +kernel
theorem dX3_cell_30 : decode cX3_cell 30 = .ok (.iload_n 1, 1) := by decide +kernel
theorem dX3_cell_31 : decode cX3_cell 31 = .ok (.aload_n 0, 1) := by decide +kernel
theorem dX3_cell_32 : decode cX3_cell 32 = .ok (.getfield 19, 3) := by decide +kernel
theorem dX3_cell_35 : decode cX3_cell 35 = .ok (.imul, 1) := by decide +kernel
theorem dX3_cell_36 : decode cX3_cell 36 = .ok (.iload_n 2, 1) := by decide +kernel
theorem dX3_cell_37 : decode cX3_cell 37 = .ok (.iadd, 1) := by decide +kernel
theorem dX3_cell_38 : decode cX3_cell 38 = .ok (.iaload, 1) := by decide +kernel
theorem dX3_cell_39 : decode cX3_cell 39 = .ok (.ireturn, 1) := by decide +kernel
theorem dX3_find_0 : decode cX3_find 0 = .ok (.iload_n 1, 1) := by decide +kernel
theorem dX3_find_1 : decode cX3_find 1 = .ok (.ifCond .lt 11, 3) := by decide +kernel
theorem dX3_find_4 : decode cX3_find 4 = .ok (.iload_n 1, 1) := by decide +kernel
theorem dX3_find_5 : decode cX3_find 5 = .ok (.aload_n 0, 1) := by decide +kernel
theorem dX3_find_6 : decode cX3_find 6 = .ok (.getfield 19, 3) := by decide +kernel
theorem dX3_find_9 : decode cX3_find 9 = .ok (.if_icmp .lt 5, 3) := by decide +kernel
theorem dX3_find_12 : decode cX3_find 12 = .ok (.iconst (-1), 1) := by decide +kernel
theorem dX3_find_13 : decode cX3_find 13 = .ok (.ireturn, 1) := by decide +kernel
theorem dX3_find_14 : decode cX3_find 14 = .ok (.iconst 0, 1) := by decide +kernel
theorem dX3_find_15 : decode cX3_find 15 = .ok (.istore_n 3, 1) := by decide +kernel
theorem dX3_find_16 : decode cX3_find 16 = .ok (.iload_n 3, 1) := by decide +kernel
theorem dX3_find_17 : decode cX3_find 17 = .ok (.aload_n 0, 1) := by decide +kernel
theorem dX3_find_18 : decode cX3_find 18 = .ok (.getfield 26, 3) := by decide +kernel
theorem dX3_find_21 : decode cX3_find 21 = .ok (.if_icmp .ge 28, 3) := by decide +kernel
theorem dX3_find_24 : decode cX3_find 24 = .ok (.aload_n 0, 1) := by decide +kernel
theorem dX3_find_25 : decode cX3_find 25 = .ok (.getfield 22, 3) := by decide +kernel
theorem dX3_find_28 : decode cX3_find 28 = .ok (.iload_n 3, 1) := by decide +kernel
theorem dX3_find_29 : decode cX3_find 29 = .ok (.aload_n 0, 1) := by decide +kernel
theorem dX3_find_30 : decode cX3_find 30 = .ok (.getfield 19, 3) := by decide +kernel
theorem dX3_find_33 : decode cX3_find 33 = .ok (.imul, 1) := by decide +kernel
theorem dX3_find_34 : decode cX3_find 34 = .ok (.iload_n 1, 1) := by decide +kernel
theorem dX3_find_35 : decode cX3_find 35 = .ok (.iadd, 1) := by decide +kernel
theorem dX3_find_36 : decode cX3_find 36 = .ok (.iaload, 1) := by decide +kernel
theorem dX3_find_37 : decode cX3_find 37 = .ok (.iload_n 2, 1) := by decide +kernel
theorem dX3_find_38 : decode cX3_find 38 = .ok (.if_icmp .ne 5, 3) := by decide +kernel
theorem dX3_find_41 : decode cX3_find 41 = .ok (.iload_n 3, 1) := by decide +kernel
theorem dX3_find_42 : decode cX3_find 42 = .ok (.ireturn, 1) := by decide +kernel
theorem dX3_find_43 : decode cX3_find 43 = .ok (.iinc 3 1, 3) := by decide +kernel
theorem dX3_find_46 : decode cX3_find 46 = .ok (.goto (-30), 3) := by decide +kernel
theorem dX3_find_49 : decode cX3_find 49 = .ok (.iconst (-1), 1) := by decide +kernel
theorem dX3_find_50 : decode cX3_find 50 = .ok (.ireturn, 1) := by decide +kernel
theorem dX3_remove_0 : decode cX3_remove 0 = .ok (.iload_n 1, 1) := by decide +kernel
theorem dX3_remove_1 : decode cX3_remove 1 = .ok (.ifCond .lt 11, 3) := by decide +kernel
theorem dX3_remove_4 : decode cX3_remove 4 = .ok (.iload_n 1, 1) := by decide +kernel
theorem dX3_remove_5 : decode cX3_remove 5 = .ok (.aload_n 0, 1) := by decide +kernel
theorem dX3_remove_6 : decode cX3_remove 6 = .ok (.getfield 26, 3) := by decide +kernel
theorem dX3_remove_9 : decode cX3_remove 9 = .ok (.if_icmp .lt 4, 3) := by decide +kernel
theorem dX3_remove_12 : decode cX3_remove 12 = .ok (.return_, 1) := by decide +kernel
theorem dX3_remove_13 : decode cX3_remove 13 = .ok (.aload_n 0, 1) := by decide +kernel
theorem dX3_remove_14 : decode cX3_remove 14 = .ok (.getfield 22, 3) := by decide +kernel
theorem dX3_remove_17 : decode cX3_remove 17 = .ok (.iload_n 1, 1) := by decide +kernel
theorem dX3_remove_18 : decode cX3_remove 18 = .ok (.iconst 1, 1) := by decide +kernel
theorem dX3_remove_19 : decode cX3_remove 19 = .ok (.iadd, 1) := by decide +kernel
theorem dX3_remove_20 : decode cX3_remove 20 = .ok (.aload_n 0, 1) := by decide +kernel
theorem dX3_remove_21 : decode cX3_remove 21 = .ok (.getfield 19, 3) := by decide +kernel
theorem dX3_remove_24 : decode cX3_remove 24 = .ok (.imul, 1) := by decide +kernel
theorem dX3_remove_25 : decode cX3_remove 25 = .ok (.aload_n 0, 1) := by decide +kernel
theorem dX3_remove_26 : decode cX3_remove 26 = .ok (.getfield 22, 3) := by decide +kernel
theorem dX3_remove_29 : decode cX3_remove 29 = .ok (.iload_n 1, 1) := by decide +kernel
theorem dX3_remove_30 : decode cX3_remove 30 = .ok (.aload_n 0, 1) := by decide +kernel
theorem dX3_remove_31 : decode cX3_remove 31 = .ok (.getfield 19, 3) := by decide +kernel
theorem dX3_remove_34 : decode cX3_remove 34 = .ok (.imul, 1) := by decide +kernel
theorem dX3_remove_35 : decode cX3_remove 35 = .ok (.aload_n 0, 1) := by decide +kernel
theorem dX3_remove_36 : decode cX3_remove 36 = .ok (.getfield 26, 3) := by decide +kernel
theorem dX3_remove_39 : decode cX3_remove 39 = .ok (.iconst 1, 1) := by decide +kernel
theorem dX3_remove_40 : decode cX3_remove 40 = .ok (.isub, 1) := by decide +kernel
theorem dX3_remove_41 : decode cX3_remove 41 = .ok (.iload_n 1, 1) := by decide +kernel
theorem dX3_remove_42 : decode cX3_remove 42 = .ok (.isub, 1) := by decide +kernel
theorem dX3_remove_43 : decode cX3_remove 43 = .ok (.aload_n 0, 1) := by decide +kernel
theorem dX3_remove_44 : decode cX3_remove 44 = .ok (.getfield 19, 3) := by decide +kernel
theorem dX3_remove_47 : decode cX3_remove 47 = .ok (.imul, 1) := by decide +kernel
theorem dX3_remove_48 : decode cX3_remove 48 = .ok (.invokestatic 29, 3) := by decide +kernel
theorem dX3_remove_51 : decode cX3_remove 51 = .ok (.aload_n 0, 1) := by decide +kernel
theorem dX3_remove_52 : decode cX3_remove 52 = .ok (.dup, 1) := by decide +kernel
theorem dX3_remove_53 : decode cX3_remove 53 = .ok (.getfield 26, 3) := by decide +kernel
theorem dX3_remove_56 : decode cX3_remove 56 = .ok (.iconst 1, 1) := by decide +kernel
theorem dX3_remove_57 : decode cX3_remove 57 = .ok (.isub, 1) := by decide +kernel
theorem dX3_remove_58 : decode cX3_remove 58 = .ok (.putfield 26, 3) := by decide +kernel
theorem dX3_remove_61 : decode cX3_remove 61 = .ok (.return_, 1) := by decide +kernel
theorem dX3_copyFrom_0 : decode cX3_copyFrom 0 = .ok (.aload_n 1, 1) := by decide +kernel
theorem dX3_copyFrom_1 : decode cX3_copyFrom 1 = .ok (.getfield 19, 3) := by decide +kernel
theorem dX3_copyFrom_4 : decode cX3_copyFrom 4 = .ok (.aload_n 0, 1) := by decide +kernel
theorem dX3_copyFrom_5 : decode cX3_copyFrom 5 = .ok (.getfield 19, 3) := by decide +kernel
theorem dX3_copyFrom_8 : decode cX3_copyFrom 8 = .ok (.if_icmp .ne 14, 3) := by decide +kernel
theorem dX3_copyFrom_11 : decode cX3_copyFrom 11 = .ok (.aload_n 1, 1) := by decide +kernel
theorem dX3_copyFrom_12 : decode cX3_copyFrom 12 = .ok (.getfield 26, 3) := by decide +kernel
theorem dX3_copyFrom_15 : decode cX3_copyFrom 15 = .ok (.aload_n 0, 1) := by decide +kernel
theorem dX3_copyFrom_16 : decode cX3_copyFrom 16 = .ok (.getfield 13, 3) := by decide +kernel
theorem dX3_copyFrom_19 : decode cX3_copyFrom 19 = .ok (.if_icmp .le 4, 3) := by decide +kernel
theorem dX3_copyFrom_22 : decode cX3_copyFrom 22 = .ok (.return_, 1) := by decide +kernel
theorem dX3_copyFrom_23 : decode cX3_copyFrom 23 = .ok (.aload_n 1, 1) := by decide +kernel
theorem dX3_copyFrom_24 : decode cX3_copyFrom 24 = .ok (.getfield 22, 3) := by decide +kernel
theorem dX3_copyFrom_27 : decode cX3_copyFrom 27 = .ok (.iconst 0, 1) := by decide +kernel
theorem dX3_copyFrom_28 : decode cX3_copyFrom 28 = .ok (.aload_n 0, 1) := by decide +kernel
theorem dX3_copyFrom_29 : decode cX3_copyFrom 29 = .ok (.getfield 22, 3) := by decide +kernel
theorem dX3_copyFrom_32 : decode cX3_copyFrom 32 = .ok (.iconst 0, 1) := by decide +kernel
theorem dX3_copyFrom_33 : decode cX3_copyFrom 33 = .ok (.aload_n 1, 1) := by decide +kernel
theorem dX3_copyFrom_34 : decode cX3_copyFrom 34 = .ok (.getfield 26, 3) := by decide +kernel
theorem dX3_copyFrom_37 : decode cX3_copyFrom 37 = .ok (.aload_n 0, 1) := by decide +kernel
theorem dX3_copyFrom_38 : decode cX3_copyFrom 38 = .ok (.getfield 19, 3) := by decide +kernel
theorem dX3_copyFrom_41 : decode cX3_copyFrom 41 = .ok (.imul, 1) := by decide +kernel
theorem dX3_copyFrom_42 : decode cX3_copyFrom 42 = .ok (.invokestatic 29, 3) := by decide +kernel
theorem dX3_copyFrom_45 : decode cX3_copyFrom 45 = .ok (.aload_n 0, 1) := by decide +kernel
theorem dX3_copyFrom_46 : decode cX3_copyFrom 46 = .ok (.aload_n 1, 1) := by decide +kernel
theorem dX3_copyFrom_47 : decode cX3_copyFrom 47 = .ok (.getfield 26, 3) := by decide +kernel
theorem dX3_copyFrom_50 : decode cX3_copyFrom 50 = .ok (.putfield 26, 3) := by decide +kernel
theorem dX3_copyFrom_53 : decode cX3_copyFrom 53 = .ok (.return_, 1) := by decide +kernel
theorem dX4_init_0 : decode cX4_init 0 = .ok (.aload_n 0, 1) := by decide +kernel
theorem dX4_init_1 : decode cX4_init 1 = .ok (.invokespecial 3, 3) := by decide +kernel
theorem dX4_init_4 : decode cX4_init 4 = .ok (.aload_n 0, 1) := by decide +kernel
theorem dX4_init_5 : decode cX4_init 5 = .ok (.sipush 200, 3) := by decide +kernel
theorem dX4_init_8 : decode cX4_init 8 = .ok (.newarray .int, 2) := by decide +kernel
theorem dX4_init_10 : decode cX4_init 10 = .ok (.putfield 9, 3) := by decide +kernel
theorem dX4_init_13 : decode cX4_init 13 = .ok (.return_, 1) := by decide +kernel
theorem dX4_push_0 : decode cX4_push 0 = .ok (.aload_n 0, 1) := by decide +kernel
theorem dX4_push_1 : decode cX4_push 1 = .ok (.getfield 15, 3) := by decide +kernel
theorem dX4_push_4 : decode cX4_push 4 = .ok (.ifCond .lt 13, 3) := by decide +kernel
theorem dX4_push_7 : decode cX4_push 7 = .ok (.aload_n 0, 1) := by decide +kernel
theorem dX4_push_8 : decode cX4_push 8 = .ok (.getfield 15, 3) := by decide +kernel
theorem dX4_push_11 : decode cX4_push 11 = .ok (.sipush 200, 3) := by decide +kernel
theorem dX4_push_14 : decode cX4_push 14 = .ok (.if_icmp .lt 5, 3) := by decide +kernel
theorem dX4_push_17 : decode cX4_push 17 = .ok (.iconst 0, 1) := by decide +kernel
theorem dX4_push_18 : decode cX4_push 18 = .ok (.ireturn, 1) := by decide +kernel
theorem dX4_push_19 : decode cX4_push 19 = .ok (.aload_n 0, 1) := by decide +kernel
theorem dX4_push_20 : decode cX4_push 20 = .ok (.getfield 9, 3) := by decide +kernel
theorem dX4_push_23 : decode cX4_push 23 = .ok (.aload_n 0, 1) := by decide +kernel
theorem dX4_push_24 : decode cX4_push 24 = .ok (.getfield 15, 3) := by decide +kernel
theorem dX4_push_27 : decode cX4_push 27 = .ok (.iload_n 1, 1) := by decide +kernel
theorem dX4_push_28 : decode cX4_push 28 = .ok (.iastore, 1) := by decide +kernel
theorem dX4_push_29 : decode cX4_push 29 = .ok (.aload_n 0, 1) := by decide +kernel
theorem dX4_push_30 : decode cX4_push 30 = .ok (.dup, 1) := by decide +kernel
theorem dX4_push_31 : decode cX4_push 31 = .ok (.getfield 15, 3) := by decide +kernel
theorem dX4_push_34 : decode cX4_push 34 = .ok (.iconst 1, 1) := by decide +kernel
theorem dX4_push_35 : decode cX4_push 35 = .ok (.iadd, 1) := by decide +kernel
theorem dX4_push_36 : decode cX4_push 36 = .ok (.putfield 15, 3) := by decide +kernel
theorem dX4_push_39 : decode cX4_push 39 = .ok (.iconst 1, 1) := by decide +kernel
theorem dX4_push_40 : decode cX4_push 40 = .ok (.ireturn, 1) := by decide +kernel
theorem dX4_at_0 : decode cX4_at 0 = .ok (.iload_n 1, 1) := by decide +kernel
theorem dX4_at_1 : decode cX4_at 1 = .ok (.ifCond .lt 27, 3) := by decide +kernel
theorem dX4_at_4 : decode cX4_at 4 = .ok (.iload_n 1, 1) := by decide +kernel
theorem dX4_at_5 : decode cX4_at 5 = .ok (.aload_n 0, 1) := by decide +kernel
theorem dX4_at_6 : decode cX4_at 6 = .ok (.getfield 15, 3) := by decide +kernel
theorem dX4_at_9 : decode cX4_at 9 = .ok (.if_icmp .ge 19, 3) := by decide +kernel
theorem dX4_at_12 : decode cX4_at 12 = .ok (.iload_n 1, 1) := by decide +kernel
theorem dX4_at_13 : decode cX4_at 13 = .ok (.sipush 200, 3) := by decide +kernel
theorem dX4_at_16 : decode cX4_at 16 = .ok (.if_icmp .ge 12, 3) := by decide +kernel
theorem dX4_at_19 : decode cX4_at 19 = .ok (.aload_n 0, 1) := by decide +kernel
theorem dX4_at_20 : decode cX4_at 20 = .ok (.getfield 9, 3) := by decide +kernel
theorem dX4_at_23 : decode cX4_at 23 = .ok (.iload_n 1, 1) := by decide +kernel
theorem dX4_at_24 : decode cX4_at 24 = .ok (.iaload, 1) := by decide +kernel
theorem dX4_at_25 : decode cX4_at 25 = .ok (.goto 4, 3) := by decide +kernel
theorem dX4_at_28 : decode cX4_at 28 = .ok (.iconst (-1), 1) := by decide +kernel
theorem dX4_at_29 : decode cX4_at 29 = .ok (.ireturn, 1) := by decide +kernel
theorem dX5_init_0 : decode cX5_init 0 = .ok (.aload_n 0, 1) := by decide +kernel
theorem dX5_init_1 : decode cX5_init 1 = .ok (.invokespecial 3, 3) := by decide +kernel
theorem dX5_init_4 : decode cX5_init 4 = .ok (.return_, 1) := by decide +kernel
theorem dX5_write_0 : decode cX5_write 0 = .ok (.aload_n 0, 1) := by decide +kernel
theorem dX5_write_1 : decode cX5_write 1 = .ok (.iconst 1, 1) := by decide +kernel
theorem dX5_write_2 : decode cX5_write 2 = .ok (.putfield 11, 3) := by decide +kernel
theorem dX5_write_5 : decode cX5_write 5 = .ok (.aload_n 0, 1) := by decide +kernel
theorem dX5_write_6 : decode cX5_write 6 = .ok (.iload_n 1, 1) := by decide +kernel
theorem dX5_write_7 : decode cX5_write 7 = .ok (.putfield 15, 3) := by decide +kernel
theorem dX5_write_10 : decode cX5_write 10 = .ok (.aload_n 0, 1) := by decide +kernel
theorem dX5_write_11 : decode cX5_write 11 = .ok (.iload_n 2, 1) := by decide +kernel
theorem dX5_write_12 : decode cX5_write 12 = .ok (.putfield 18, 3) := by decide +kernel
theorem dX5_write_15 : decode cX5_write 15 = .ok (.aload_n 0, 1) := by decide +kernel
theorem dX5_write_16 : decode cX5_write 16 = .ok (.iload_n 3, 1) := by decide +kernel
theorem dX5_write_17 : decode cX5_write 17 = .ok (.putfield 21, 3) := by decide +kernel
theorem dX5_write_20 : decode cX5_write 20 = .ok (.aload_n 0, 1) := by decide +kernel
theorem dX5_write_21 : decode cX5_write 21 = .ok (.iload 4, 2) := by decide +kernel
theorem dX5_write_23 : decode cX5_write 23 = .ok (.putfield 24, 3) := by decide +kernel
theorem dX5_write_26 : decode cX5_write 26 = .ok (.aload_n 0, 1) := by decide +kernel
theorem dX5_write_27 : decode cX5_write 27 = .ok (.iload 5, 2) := by decide +kernel
theorem dX5_write_29 : decode cX5_write 29 = .ok (.putfield 28, 3) := by decide +kernel
theorem dX5_write_32 : decode cX5_write 32 = .ok (.return_, 1) := by decide +kernel
theorem dX5_isHeld_0 : decode cX5_isHeld 0 = .ok (.aload_n 0, 1) := by decide +kernel
theorem dX5_isHeld_1 : decode cX5_isHeld 1 = .ok (.getfield 11, 3) := by decide +kernel
theorem dX5_isHeld_4 : decode cX5_isHeld 4 = .ok (.iconst 1, 1) := by decide +kernel
theorem dX5_isHeld_5 : decode cX5_isHeld 5 = .ok (.if_icmp .ne 7, 3) := by decide +kernel
theorem dX5_isHeld_8 : decode cX5_isHeld 8 = .ok (.iconst 1, 1) := by decide +kernel
theorem dX5_isHeld_9 : decode cX5_isHeld 9 = .ok (.goto 4, 3) := by decide +kernel
theorem dX5_isHeld_12 : decode cX5_isHeld 12 = .ok (.iconst 0, 1) := by decide +kernel
theorem dX5_isHeld_13 : decode cX5_isHeld 13 = .ok (.ireturn, 1) := by decide +kernel
theorem dX5_dueClock_0 : decode cX5_dueClock 0 = .ok (.aload_n 0, 1) := by decide +kernel
theorem dX5_dueClock_1 : decode cX5_dueClock 1 = .ok (.getfield 11, 3) := by decide +kernel
theorem dX5_dueClock_4 : decode cX5_dueClock 4 = .ok (.iconst 2, 1) := by decide +kernel
theorem dX5_dueClock_5 : decode cX5_dueClock 5 = .ok (.if_icmp .ne 10, 3) := by decide +kernel
theorem dX5_dueClock_8 : decode cX5_dueClock 8 = .ok (.aload_n 0, 1) := by decide +kernel
theorem dX5_dueClock_9 : decode cX5_dueClock 9 = .ok (.getfield 31, 3) := by decide +kernel
theorem dX5_dueClock_12 : decode cX5_dueClock 12 = .ok (.goto 5, 3) := by decide +kernel
theorem dX5_dueClock_15 : decode cX5_dueClock 15 = .ok (.bipush (-4), 2) := by decide +kernel
theorem dX5_dueClock_17 : decode cX5_dueClock 17 = .ok (.ireturn, 1) := by decide +kernel
theorem dX5_drop_0 : decode cX5_drop 0 = .ok (.aload_n 0, 1) := by decide +kernel
theorem dX5_drop_1 : decode cX5_drop 1 = .ok (.iconst 0, 1) := by decide +kernel
theorem dX5_drop_2 : decode cX5_drop 2 = .ok (.putfield 11, 3) := by decide +kernel
theorem dX5_drop_5 : decode cX5_drop 5 = .ok (.return_, 1) := by decide +kernel
theorem dX5_becomeDue_0 : decode cX5_becomeDue 0 = .ok (.aload_n 0, 1) := by decide +kernel
theorem dX5_becomeDue_1 : decode cX5_becomeDue 1 = .ok (.getfield 11, 3) := by decide +kernel
theorem dX5_becomeDue_4 : decode cX5_becomeDue 4 = .ok (.iconst 1, 1) := by decide +kernel
theorem dX5_becomeDue_5 : decode cX5_becomeDue 5 = .ok (.if_icmp .ne 22, 3) := by decide +kernel
theorem dX5_becomeDue_8 : decode cX5_becomeDue 8 = .ok (.aload_n 0, 1) := by decide +kernel
theorem dX5_becomeDue_9 : decode cX5_becomeDue 9 = .ok (.iconst 2, 1) := by decide +kernel
theorem dX5_becomeDue_10 : decode cX5_becomeDue 10 = .ok (.putfield 11, 3) := by decide +kernel
theorem dX5_becomeDue_13 : decode cX5_becomeDue 13 = .ok (.aload_n 0, 1) := by decide +kernel
theorem dX5_becomeDue_14 : decode cX5_becomeDue 14 = .ok (.iload_n 1, 1) := by decide +kernel
theorem dX5_becomeDue_15 : decode cX5_becomeDue 15 = .ok (.aload_n 0, 1) := by decide +kernel
theorem dX5_becomeDue_16 : decode cX5_becomeDue 16 = .ok (.getfield 28, 3) := by decide +kernel
theorem dX5_becomeDue_19 : decode cX5_becomeDue 19 = .ok (.iload_n 2, 1) := by decide +kernel
theorem dX5_becomeDue_20 : decode cX5_becomeDue 20 = .ok (.invokestatic 34, 3) := by decide +kernel
theorem dX5_becomeDue_23 : decode cX5_becomeDue 23 = .ok (.iadd, 1) := by decide +kernel
theorem dX5_becomeDue_24 : decode cX5_becomeDue 24 = .ok (.putfield 31, 3) := by decide +kernel
theorem dX5_becomeDue_27 : decode cX5_becomeDue 27 = .ok (.return_, 1) := by decide +kernel
theorem dX5_comesDue_0 : decode cX5_comesDue 0 = .ok (.aload_n 0, 1) := by decide +kernel
theorem dX5_comesDue_1 : decode cX5_comesDue 1 = .ok (.getfield 11, 3) := by decide +kernel
theorem dX5_comesDue_4 : decode cX5_comesDue 4 = .ok (.iconst 2, 1) := by decide +kernel
theorem dX5_comesDue_5 : decode cX5_comesDue 5 = .ok (.if_icmp .ne 11, 3) := by decide +kernel
theorem dX5_comesDue_8 : decode cX5_comesDue 8 = .ok (.aload_n 0, 1) := by decide +kernel
theorem dX5_comesDue_9 : decode cX5_comesDue 9 = .ok (.getfield 31, 3) := by decide +kernel
theorem dX5_comesDue_12 : decode cX5_comesDue 12 = .ok (.iload_n 1, 1) := by decide +kernel
theorem dX5_comesDue_13 : decode cX5_comesDue 13 = .ok (.if_icmp .eq 5, 3) := by decide +kernel
theorem dX5_comesDue_16 : decode cX5_comesDue 16 = .ok (.iconst 0, 1) := by decide +kernel
theorem dX5_comesDue_17 : decode cX5_comesDue 17 = .ok (.ireturn, 1) := by decide +kernel
theorem dX5_comesDue_18 : decode cX5_comesDue 18 = .ok (.aload_n 0, 1) := by decide +kernel
theorem dX5_comesDue_19 : decode cX5_comesDue 19 = .ok (.iconst 0, 1) := by decide +kernel
theorem dX5_comesDue_20 : decode cX5_comesDue 20 = .ok (.putfield 11, 3) := by decide +kernel
theorem dX5_comesDue_23 : decode cX5_comesDue 23 = .ok (.iconst 1, 1) := by decide +kernel
theorem dX5_comesDue_24 : decode cX5_comesDue 24 = .ok (.ireturn, 1) := by decide +kernel
theorem dX5_copyFrom_0 : decode cX5_copyFrom 0 = .ok (.aload_n 0, 1) := by decide +kernel
theorem dX5_copyFrom_1 : decode cX5_copyFrom 1 = .ok (.aload_n 1, 1) := by decide +kernel
theorem dX5_copyFrom_2 : decode cX5_copyFrom 2 = .ok (.getfield 11, 3) := by decide +kernel
theorem dX5_copyFrom_5 : decode cX5_copyFrom 5 = .ok (.putfield 11, 3) := by decide +kernel
theorem dX5_copyFrom_8 : decode cX5_copyFrom 8 = .ok (.aload_n 0, 1) := by decide +kernel
theorem dX5_copyFrom_9 : decode cX5_copyFrom 9 = .ok (.aload_n 1, 1) := by decide +kernel
theorem dX5_copyFrom_10 : decode cX5_copyFrom 10 = .ok (.getfield 15, 3) := by decide +kernel
theorem dX5_copyFrom_13 : decode cX5_copyFrom 13 = .ok (.putfield 15, 3) := by decide +kernel
theorem dX5_copyFrom_16 : decode cX5_copyFrom 16 = .ok (.aload_n 0, 1) := by decide +kernel
theorem dX5_copyFrom_17 : decode cX5_copyFrom 17 = .ok (.aload_n 1, 1) := by decide +kernel
theorem dX5_copyFrom_18 : decode cX5_copyFrom 18 = .ok (.getfield 18, 3) := by decide +kernel
theorem dX5_copyFrom_21 : decode cX5_copyFrom 21 = .ok (.putfield 18, 3) := by decide +kernel
theorem dX5_copyFrom_24 : decode cX5_copyFrom 24 = .ok (.aload_n 0, 1) := by decide +kernel
theorem dX5_copyFrom_25 : decode cX5_copyFrom 25 = .ok (.aload_n 1, 1) := by decide +kernel
theorem dX5_copyFrom_26 : decode cX5_copyFrom 26 = .ok (.getfield 21, 3) := by decide +kernel
theorem dX5_copyFrom_29 : decode cX5_copyFrom 29 = .ok (.putfield 21, 3) := by decide +kernel
theorem dX5_copyFrom_32 : decode cX5_copyFrom 32 = .ok (.aload_n 0, 1) := by decide +kernel
theorem dX5_copyFrom_33 : decode cX5_copyFrom 33 = .ok (.aload_n 1, 1) := by decide +kernel
theorem dX5_copyFrom_34 : decode cX5_copyFrom 34 = .ok (.getfield 24, 3) := by decide +kernel
theorem dX5_copyFrom_37 : decode cX5_copyFrom 37 = .ok (.putfield 24, 3) := by decide +kernel
theorem dX5_copyFrom_40 : decode cX5_copyFrom 40 = .ok (.aload_n 0, 1) := by decide +kernel
theorem dX5_copyFrom_41 : decode cX5_copyFrom 41 = .ok (.aload_n 1, 1) := by decide +kernel
theorem dX5_copyFrom_42 : decode cX5_copyFrom 42 = .ok (.getfield 28, 3) := by decide +kernel
theorem dX5_copyFrom_45 : decode cX5_copyFrom 45 = .ok (.putfield 28, 3) := by decide +kernel
theorem dX5_copyFrom_48 : decode cX5_copyFrom 48 = .ok (.aload_n 0, 1) := by decide +kernel
theorem dX5_copyFrom_49 : decode cX5_copyFrom 49 = .ok (.aload_n 1, 1) := by decide +kernel
theorem dX5_copyFrom_50 : decode cX5_copyFrom 50 = .ok (.getfield 31, 3) := by decide +kernel
theorem dX5_copyFrom_53 : decode cX5_copyFrom 53 = .ok (.putfield 31, 3) := by decide +kernel
theorem dX5_copyFrom_56 : decode cX5_copyFrom 56 = .ok (.return_, 1) := by decide +kernel
theorem dX6_init_0 : decode cX6_init 0 = .ok (.aload_n 0, 1) := by decide +kernel
theorem dX6_init_1 : decode cX6_init 1 = .ok (.invokespecial 3, 3) := by decide +kernel
theorem dX6_init_4 : decode cX6_init 4 = .ok (.aload_n 0, 1) := by decide +kernel
theorem dX6_init_5 : decode cX6_init 5 = .ok (.bipush 6, 2) := by decide +kernel
theorem dX6_init_7 : decode cX6_init 7 = .ok (.anewarray 9, 3) := by decide +kernel
theorem dX6_init_10 : decode cX6_init 10 = .ok (.putfield 11, 3) := by decide +kernel
theorem dX6_init_13 : decode cX6_init 13 = .ok (.aload_n 0, 1) := by decide +kernel
theorem dX6_init_14 : decode cX6_init 14 = .ok (.new 17, 3) := by decide +kernel
theorem dX6_init_17 : decode cX6_init 17 = .ok (.dup, 1) := by decide +kernel
theorem dX6_init_18 : decode cX6_init 18 = .ok (.bipush 12, 2) := by decide +kernel
theorem dX6_init_20 : decode cX6_init 20 = .ok (.iconst 4, 1) := by decide +kernel
theorem dX6_init_21 : decode cX6_init 21 = .ok (.invokespecial 19, 3) := by decide +kernel
theorem dX6_init_24 : decode cX6_init 24 = .ok (.putfield 22, 3) := by decide +kernel
theorem dX6_init_27 : decode cX6_init 27 = .ok (.aload_n 0, 1) := by decide +kernel
theorem dX6_init_28 : decode cX6_init 28 = .ok (.new 17, 3) := by decide +kernel
theorem dX6_init_31 : decode cX6_init 31 = .ok (.dup, 1) := by decide +kernel
theorem dX6_init_32 : decode cX6_init 32 = .ok (.bipush 36, 2) := by decide +kernel
theorem dX6_init_34 : decode cX6_init 34 = .ok (.iconst 2, 1) := by decide +kernel
theorem dX6_init_35 : decode cX6_init 35 = .ok (.invokespecial 19, 3) := by decide +kernel
theorem dX6_init_38 : decode cX6_init 38 = .ok (.putfield 26, 3) := by decide +kernel
theorem dX6_init_41 : decode cX6_init 41 = .ok (.iconst 0, 1) := by decide +kernel
theorem dX6_init_42 : decode cX6_init 42 = .ok (.istore_n 1, 1) := by decide +kernel
theorem dX6_init_43 : decode cX6_init 43 = .ok (.iload_n 1, 1) := by decide +kernel
theorem dX6_init_44 : decode cX6_init 44 = .ok (.bipush 6, 2) := by decide +kernel
theorem dX6_init_46 : decode cX6_init 46 = .ok (.if_icmp .ge 22, 3) := by decide +kernel
theorem dX6_init_49 : decode cX6_init 49 = .ok (.aload_n 0, 1) := by decide +kernel
theorem dX6_init_50 : decode cX6_init 50 = .ok (.getfield 11, 3) := by decide +kernel
theorem dX6_init_53 : decode cX6_init 53 = .ok (.iload_n 1, 1) := by decide +kernel
theorem dX6_init_54 : decode cX6_init 54 = .ok (.new 9, 3) := by decide +kernel
theorem dX6_init_57 : decode cX6_init 57 = .ok (.dup, 1) := by decide +kernel
theorem dX6_init_58 : decode cX6_init 58 = .ok (.invokespecial 29, 3) := by decide +kernel
theorem dX6_init_61 : decode cX6_init 61 = .ok (.aastore, 1) := by decide +kernel
theorem dX6_init_62 : decode cX6_init 62 = .ok (.iinc 1 1, 3) := by decide +kernel
theorem dX6_init_65 : decode cX6_init 65 = .ok (.goto (-22), 3) := by decide +kernel
theorem dX6_init_68 : decode cX6_init 68 = .ok (.return_, 1) := by decide +kernel
theorem dX6_clear_0 : decode cX6_clear 0 = .ok (.iconst 0, 1) := by decide +kernel
theorem dX6_clear_1 : decode cX6_clear 1 = .ok (.istore_n 1, 1) := by decide +kernel
theorem dX6_clear_2 : decode cX6_clear 2 = .ok (.iload_n 1, 1) := by decide +kernel
theorem dX6_clear_3 : decode cX6_clear 3 = .ok (.bipush 6, 2) := by decide +kernel
theorem dX6_clear_5 : decode cX6_clear 5 = .ok (.if_icmp .ge 18, 3) := by decide +kernel
theorem dX6_clear_8 : decode cX6_clear 8 = .ok (.aload_n 0, 1) := by decide +kernel
theorem dX6_clear_9 : decode cX6_clear 9 = .ok (.getfield 11, 3) := by decide +kernel
theorem dX6_clear_12 : decode cX6_clear 12 = .ok (.iload_n 1, 1) := by decide +kernel
theorem dX6_clear_13 : decode cX6_clear 13 = .ok (.aaload, 1) := by decide +kernel
theorem dX6_clear_14 : decode cX6_clear 14 = .ok (.invokevirtual 30, 3) := by decide +kernel
theorem dX6_clear_17 : decode cX6_clear 17 = .ok (.iinc 1 1, 3) := by decide +kernel
theorem dX6_clear_20 : decode cX6_clear 20 = .ok (.goto (-18), 3) := by decide +kernel
theorem dX6_clear_23 : decode cX6_clear 23 = .ok (.aload_n 0, 1) := by decide +kernel
theorem dX6_clear_24 : decode cX6_clear 24 = .ok (.getfield 22, 3) := by decide +kernel
theorem dX6_clear_27 : decode cX6_clear 27 = .ok (.invokevirtual 33, 3) := by decide +kernel
theorem dX6_clear_30 : decode cX6_clear 30 = .ok (.aload_n 0, 1) := by decide +kernel
theorem dX6_clear_31 : decode cX6_clear 31 = .ok (.getfield 26, 3) := by decide +kernel
theorem dX6_clear_34 : decode cX6_clear 34 = .ok (.invokevirtual 33, 3) := by decide +kernel
theorem dX6_clear_37 : decode cX6_clear 37 = .ok (.aload_n 0, 1) := by decide +kernel
theorem dX6_clear_38 : decode cX6_clear 38 = .ok (.iconst 0, 1) := by decide +kernel
theorem dX6_clear_39 : decode cX6_clear 39 = .ok (.putfield 34, 3) := by decide +kernel
theorem dX6_clear_42 : decode cX6_clear 42 = .ok (.aload_n 0, 1) := by decide +kernel
theorem dX6_clear_43 : decode cX6_clear 43 = .ok (.iconst 0, 1) := by decide +kernel
theorem dX6_clear_44 : decode cX6_clear 44 = .ok (.putfield 38, 3) := by decide +kernel
theorem dX6_clear_47 : decode cX6_clear 47 = .ok (.return_, 1) := by decide +kernel
theorem dX6_copyFrom_0 : decode cX6_copyFrom 0 = .ok (.iconst 0, 1) := by decide +kernel
theorem dX6_copyFrom_1 : decode cX6_copyFrom 1 = .ok (.istore_n 2, 1) := by decide +kernel
theorem dX6_copyFrom_2 : decode cX6_copyFrom 2 = .ok (.iload_n 2, 1) := by decide +kernel
theorem dX6_copyFrom_3 : decode cX6_copyFrom 3 = .ok (.bipush 6, 2) := by decide +kernel
theorem dX6_copyFrom_5 : decode cX6_copyFrom 5 = .ok (.if_icmp .ge 24, 3) := by decide +kernel
theorem dX6_copyFrom_8 : decode cX6_copyFrom 8 = .ok (.aload_n 0, 1) := by decide +kernel
theorem dX6_copyFrom_9 : decode cX6_copyFrom 9 = .ok (.getfield 11, 3) := by decide +kernel
theorem dX6_copyFrom_12 : decode cX6_copyFrom 12 = .ok (.iload_n 2, 1) := by decide +kernel
theorem dX6_copyFrom_13 : decode cX6_copyFrom 13 = .ok (.aaload, 1) := by decide +kernel
theorem dX6_copyFrom_14 : decode cX6_copyFrom 14 = .ok (.aload_n 1, 1) := by decide +kernel
theorem dX6_copyFrom_15 : decode cX6_copyFrom 15 = .ok (.getfield 11, 3) := by decide +kernel
theorem dX6_copyFrom_18 : decode cX6_copyFrom 18 = .ok (.iload_n 2, 1) := by decide +kernel
theorem dX6_copyFrom_19 : decode cX6_copyFrom 19 = .ok (.aaload, 1) := by decide +kernel
theorem dX6_copyFrom_20 : decode cX6_copyFrom 20 = .ok (.invokevirtual 41, 3) := by decide +kernel
theorem dX6_copyFrom_23 : decode cX6_copyFrom 23 = .ok (.iinc 2 1, 3) := by decide +kernel
theorem dX6_copyFrom_26 : decode cX6_copyFrom 26 = .ok (.goto (-24), 3) := by decide +kernel
theorem dX6_copyFrom_29 : decode cX6_copyFrom 29 = .ok (.aload_n 0, 1) := by decide +kernel
theorem dX6_copyFrom_30 : decode cX6_copyFrom 30 = .ok (.getfield 22, 3) := by decide +kernel
theorem dX6_copyFrom_33 : decode cX6_copyFrom 33 = .ok (.aload_n 1, 1) := by decide +kernel
theorem dX6_copyFrom_34 : decode cX6_copyFrom 34 = .ok (.getfield 22, 3) := by decide +kernel
theorem dX6_copyFrom_37 : decode cX6_copyFrom 37 = .ok (.invokevirtual 45, 3) := by decide +kernel
theorem dX6_copyFrom_40 : decode cX6_copyFrom 40 = .ok (.aload_n 0, 1) := by decide +kernel
theorem dX6_copyFrom_41 : decode cX6_copyFrom 41 = .ok (.getfield 26, 3) := by decide +kernel
theorem dX6_copyFrom_44 : decode cX6_copyFrom 44 = .ok (.aload_n 1, 1) := by decide +kernel
theorem dX6_copyFrom_45 : decode cX6_copyFrom 45 = .ok (.getfield 26, 3) := by decide +kernel
theorem dX6_copyFrom_48 : decode cX6_copyFrom 48 = .ok (.invokevirtual 45, 3) := by decide +kernel
theorem dX6_copyFrom_51 : decode cX6_copyFrom 51 = .ok (.aload_n 0, 1) := by decide +kernel
theorem dX6_copyFrom_52 : decode cX6_copyFrom 52 = .ok (.aload_n 1, 1) := by decide +kernel
theorem dX6_copyFrom_53 : decode cX6_copyFrom 53 = .ok (.getfield 34, 3) := by decide +kernel
theorem dX6_copyFrom_56 : decode cX6_copyFrom 56 = .ok (.putfield 34, 3) := by decide +kernel
theorem dX6_copyFrom_59 : decode cX6_copyFrom 59 = .ok (.aload_n 0, 1) := by decide +kernel
theorem dX6_copyFrom_60 : decode cX6_copyFrom 60 = .ok (.aload_n 1, 1) := by decide +kernel
theorem dX6_copyFrom_61 : decode cX6_copyFrom 61 = .ok (.getfield 38, 3) := by decide +kernel
theorem dX6_copyFrom_64 : decode cX6_copyFrom 64 = .ok (.putfield 38, 3) := by decide +kernel
theorem dX6_copyFrom_67 : decode cX6_copyFrom 67 = .ok (.return_, 1) := by decide +kernel
theorem dX6_rouse_0 : decode cX6_rouse 0 = .ok (.aload_n 1, 1) := by decide +kernel
theorem dX6_rouse_1 : decode cX6_rouse 1 = .ok (.getfield 48, 3) := by decide +kernel
theorem dX6_rouse_4 : decode cX6_rouse 4 = .ok (.ifCond .eq 11, 3) := by decide +kernel
theorem dX6_rouse_7 : decode cX6_rouse 7 = .ok (.iload_n 2, 1) := by decide +kernel
theorem dX6_rouse_8 : decode cX6_rouse 8 = .ok (.ifCond .ne 7, 3) := by decide +kernel
theorem dX6_rouse_11 : decode cX6_rouse 11 = .ok (.iconst 1, 1) := by decide +kernel
theorem dX6_rouse_12 : decode cX6_rouse 12 = .ok (.goto 4, 3) := by decide +kernel
theorem dX6_rouse_15 : decode cX6_rouse 15 = .ok (.iconst 0, 1) := by decide +kernel
theorem dX6_rouse_16 : decode cX6_rouse 16 = .ok (.istore 4, 2) := by decide +kernel
theorem dX6_rouse_18 : decode cX6_rouse 18 = .ok (.iload 4, 2) := by decide +kernel
theorem dX6_rouse_20 : decode cX6_rouse 20 = .ok (.ifCond .ne 8, 3) := by decide +kernel
theorem dX6_rouse_23 : decode cX6_rouse 23 = .ok (.aload_n 0, 1) := by decide +kernel
theorem dX6_rouse_24 : decode cX6_rouse 24 = .ok (.aload_n 1, 1) := by decide +kernel
theorem dX6_rouse_25 : decode cX6_rouse 25 = .ok (.invokevirtual 51, 3) := by decide +kernel
theorem dX6_rouse_28 : decode cX6_rouse 28 = .ok (.aload_n 1, 1) := by decide +kernel
theorem dX6_rouse_29 : decode cX6_rouse 29 = .ok (.iload_n 3, 1) := by decide +kernel
theorem dX6_rouse_30 : decode cX6_rouse 30 = .ok (.invokevirtual 54, 3) := by decide +kernel
theorem dX6_rouse_33 : decode cX6_rouse 33 = .ok (.iload 4, 2) := by decide +kernel
theorem dX6_rouse_35 : decode cX6_rouse 35 = .ok (.ireturn, 1) := by decide +kernel
theorem dX6_lull_0 : decode cX6_lull 0 = .ok (.aload_n 1, 1) := by decide +kernel
theorem dX6_lull_1 : decode cX6_lull 1 = .ok (.aload_n 0, 1) := by decide +kernel
theorem dX6_lull_2 : decode cX6_lull 2 = .ok (.getfield 34, 3) := by decide +kernel
theorem dX6_lull_5 : decode cX6_lull 5 = .ok (.invokevirtual 58, 3) := by decide +kernel
theorem dX6_lull_8 : decode cX6_lull 8 = .ok (.iconst 0, 1) := by decide +kernel
theorem dX6_lull_9 : decode cX6_lull 9 = .ok (.istore_n 3, 1) := by decide +kernel
theorem dX6_lull_10 : decode cX6_lull 10 = .ok (.iload_n 2, 1) := by decide +kernel
theorem dX6_lull_11 : decode cX6_lull 11 = .ok (.ifCond .ne 10, 3) := by decide +kernel
theorem dX6_lull_14 : decode cX6_lull 14 = .ok (.aload_n 1, 1) := by decide +kernel
theorem dX6_lull_15 : decode cX6_lull 15 = .ok (.getfield 61, 3) := by decide +kernel
theorem dX6_lull_18 : decode cX6_lull 18 = .ok (.invokevirtual 65, 3) := by decide +kernel
theorem dX6_lull_21 : decode cX6_lull 21 = .ok (.aload_n 1, 1) := by decide +kernel
theorem dX6_lull_22 : decode cX6_lull 22 = .ok (.getfield 61, 3) := by decide +kernel
theorem dX6_lull_25 : decode cX6_lull 25 = .ok (.aload_n 0, 1) := by decide +kernel
theorem dX6_lull_26 : decode cX6_lull 26 = .ok (.getfield 34, 3) := by decide +kernel
theorem dX6_lull_29 : decode cX6_lull 29 = .ok (.aload_n 1, 1) := by decide +kernel
theorem dX6_lull_30 : decode cX6_lull 30 = .ok (.getfield 70, 3) := by decide +kernel
theorem dX6_lull_33 : decode cX6_lull 33 = .ok (.invokevirtual 73, 3) := by decide +kernel
theorem dX6_lull_36 : decode cX6_lull 36 = .ok (.aload_n 1, 1) := by decide +kernel
theorem dX6_lull_37 : decode cX6_lull 37 = .ok (.getfield 61, 3) := by decide +kernel
theorem dX6_lull_40 : decode cX6_lull 40 = .ok (.aload_n 0, 1) := by decide +kernel
theorem dX6_lull_41 : decode cX6_lull 41 = .ok (.getfield 34, 3) := by decide +kernel
theorem dX6_lull_44 : decode cX6_lull 44 = .ok (.invokevirtual 76, 3) := by decide +kernel
theorem dX6_lull_47 : decode cX6_lull 47 = .ok (.ifCond .eq 36, 3) := by decide +kernel
theorem dX6_lull_50 : decode cX6_lull 50 = .ok (.aload_n 0, 1) := by decide +kernel
theorem dX6_lull_51 : decode cX6_lull 51 = .ok (.aload_n 1, 1) := by decide +kernel
theorem dX6_lull_52 : decode cX6_lull 52 = .ok (.getfield 61, 3) := by decide +kernel
theorem dX6_lull_55 : decode cX6_lull 55 = .ok (.getfield 80, 3) := by decide +kernel
theorem dX6_lull_58 : decode cX6_lull 58 = .ok (.aload_n 1, 1) := by decide +kernel
theorem dX6_lull_59 : decode cX6_lull 59 = .ok (.getfield 61, 3) := by decide +kernel
theorem dX6_lull_62 : decode cX6_lull 62 = .ok (.getfield 83, 3) := by decide +kernel
theorem dX6_lull_65 : decode cX6_lull 65 = .ok (.aload_n 1, 1) := by decide +kernel
theorem dX6_lull_66 : decode cX6_lull 66 = .ok (.getfield 61, 3) := by decide +kernel
theorem dX6_lull_69 : decode cX6_lull 69 = .ok (.getfield 86, 3) := by decide +kernel
theorem dX6_lull_72 : decode cX6_lull 72 = .ok (.aload_n 1, 1) := by decide +kernel
theorem dX6_lull_73 : decode cX6_lull 73 = .ok (.getfield 61, 3) := by decide +kernel
theorem dX6_lull_76 : decode cX6_lull 76 = .ok (.getfield 89, 3) := by decide +kernel
theorem dX6_lull_79 : decode cX6_lull 79 = .ok (.invokevirtual 93, 3) := by decide +kernel
theorem dX6_lull_82 : decode cX6_lull 82 = .ok (.istore_n 3, 1) := by decide +kernel
theorem dX6_lull_83 : decode cX6_lull 83 = .ok (.aload_n 1, 1) := by decide +kernel
theorem dX6_lull_84 : decode cX6_lull 84 = .ok (.getfield 70, 3) := by decide +kernel
theorem dX6_lull_87 : decode cX6_lull 87 = .ok (.ifCond .ne 8, 3) := by decide +kernel
theorem dX6_lull_90 : decode cX6_lull 90 = .ok (.aload_n 0, 1) := by decide +kernel
theorem dX6_lull_91 : decode cX6_lull 91 = .ok (.aload_n 1, 1) := by decide +kernel
theorem dX6_lull_92 : decode cX6_lull 92 = .ok (.invokevirtual 51, 3) := by decide +kernel
theorem dX6_lull_95 : decode cX6_lull 95 = .ok (.iload_n 3, 1) := by decide +kernel
theorem dX6_lull_96 : decode cX6_lull 96 = .ok (.ireturn, 1) := by decide +kernel
theorem dX6_endSession_0 : decode cX6_endSession 0 = .ok (.aload_n 1, 1) := by decide +kernel
theorem dX6_endSession_1 : decode cX6_endSession 1 = .ok (.invokevirtual 97, 3) := by decide +kernel
theorem dX6_endSession_4 : decode cX6_endSession 4 = .ok (.aload_n 0, 1) := by decide +kernel
theorem dX6_endSession_5 : decode cX6_endSession 5 = .ok (.invokevirtual 100, 3) := by decide +kernel
theorem dX6_endSession_8 : decode cX6_endSession 8 = .ok (.return_, 1) := by decide +kernel
theorem dX6_passTick_0 : decode cX6_passTick 0 = .ok (.aload_n 0, 1) := by decide +kernel
theorem dX6_passTick_1 : decode cX6_passTick 1 = .ok (.dup, 1) := by decide +kernel
theorem dX6_passTick_2 : decode cX6_passTick 2 = .ok (.getfield 34, 3) := by decide +kernel
theorem dX6_passTick_5 : decode cX6_passTick 5 = .ok (.iconst 1, 1) := by decide +kernel
theorem dX6_passTick_6 : decode cX6_passTick 6 = .ok (.iadd, 1) := by decide +kernel
theorem dX6_passTick_7 : decode cX6_passTick 7 = .ok (.putfield 34, 3) := by decide +kernel
theorem dX6_passTick_10 : decode cX6_passTick 10 = .ok (.iconst 0, 1) := by decide +kernel
theorem dX6_passTick_11 : decode cX6_passTick 11 = .ok (.istore_n 1, 1) := by decide +kernel
theorem dX6_passTick_12 : decode cX6_passTick 12 = .ok (.iconst 0, 1) := by decide +kernel
theorem dX6_passTick_13 : decode cX6_passTick 13 = .ok (.istore_n 2, 1) := by decide +kernel
theorem dX6_passTick_14 : decode cX6_passTick 14 = .ok (.iload_n 2, 1) := by decide +kernel
theorem dX6_passTick_15 : decode cX6_passTick 15 = .ok (.bipush 6, 2) := by decide +kernel
theorem dX6_passTick_17 : decode cX6_passTick 17 = .ok (.if_icmp .ge 90, 3) := by decide +kernel
theorem dX6_passTick_20 : decode cX6_passTick 20 = .ok (.aload_n 0, 1) := by decide +kernel
theorem dX6_passTick_21 : decode cX6_passTick 21 = .ok (.getfield 11, 3) := by decide +kernel
theorem dX6_passTick_24 : decode cX6_passTick 24 = .ok (.iload_n 2, 1) := by decide +kernel
theorem dX6_passTick_25 : decode cX6_passTick 25 = .ok (.aaload, 1) := by decide +kernel
theorem dX6_passTick_26 : decode cX6_passTick 26 = .ok (.astore_n 3, 1) := by decide +kernel
theorem dX6_passTick_27 : decode cX6_passTick 27 = .ok (.aload_n 3, 1) := by decide +kernel
theorem dX6_passTick_28 : decode cX6_passTick 28 = .ok (.getfield 61, 3) := by decide +kernel
theorem dX6_passTick_31 : decode cX6_passTick 31 = .ok (.aload_n 0, 1) := by decide +kernel
theorem dX6_passTick_32 : decode cX6_passTick 32 = .ok (.getfield 34, 3) := by decide +kernel
theorem dX6_passTick_35 : decode cX6_passTick 35 = .ok (.invokevirtual 76, 3) := by decide +kernel
theorem dX6_passTick_38 : decode cX6_passTick 38 = .ok (.ifCond .eq 39, 3) := by decide +kernel
theorem dX6_passTick_41 : decode cX6_passTick 41 = .ok (.aload_n 0, 1) := by decide +kernel
theorem dX6_passTick_42 : decode cX6_passTick 42 = .ok (.aload_n 3, 1) := by decide +kernel
theorem dX6_passTick_43 : decode cX6_passTick 43 = .ok (.getfield 61, 3) := by decide +kernel
theorem dX6_passTick_46 : decode cX6_passTick 46 = .ok (.getfield 80, 3) := by decide +kernel
theorem dX6_passTick_49 : decode cX6_passTick 49 = .ok (.aload_n 3, 1) := by decide +kernel
theorem dX6_passTick_50 : decode cX6_passTick 50 = .ok (.getfield 61, 3) := by decide +kernel
theorem dX6_passTick_53 : decode cX6_passTick 53 = .ok (.getfield 83, 3) := by decide +kernel
theorem dX6_passTick_56 : decode cX6_passTick 56 = .ok (.aload_n 3, 1) := by decide +kernel
theorem dX6_passTick_57 : decode cX6_passTick 57 = .ok (.getfield 61, 3) := by decide +kernel
theorem dX6_passTick_60 : decode cX6_passTick 60 = .ok (.getfield 86, 3) := by decide +kernel
theorem dX6_passTick_63 : decode cX6_passTick 63 = .ok (.aload_n 3, 1) := by decide +kernel
theorem dX6_passTick_64 : decode cX6_passTick 64 = .ok (.getfield 61, 3) := by decide +kernel
theorem dX6_passTick_67 : decode cX6_passTick 67 = .ok (.getfield 89, 3) := by decide +kernel
theorem dX6_passTick_70 : decode cX6_passTick 70 = .ok (.invokevirtual 93, 3) := by decide +kernel
theorem dX6_passTick_73 : decode cX6_passTick 73 = .ok (.pop, 1) := by decide +kernel
theorem dX6_passTick_74 : decode cX6_passTick 74 = .ok (.iinc 1 1, 3) := by decide +kernel
theorem dX6_passTick_77 : decode cX6_passTick 77 = .ok (.aload_n 3, 1) := by decide +kernel
theorem dX6_passTick_78 : decode cX6_passTick 78 = .ok (.getfield 48, 3) := by decide +kernel
theorem dX6_passTick_81 : decode cX6_passTick 81 = .ok (.iconst 2, 1) := by decide +kernel
theorem dX6_passTick_82 : decode cX6_passTick 82 = .ok (.if_icmp .ne 19, 3) := by decide +kernel
theorem dX6_passTick_85 : decode cX6_passTick 85 = .ok (.aload_n 3, 1) := by decide +kernel
theorem dX6_passTick_86 : decode cX6_passTick 86 = .ok (.getfield 103, 3) := by decide +kernel
theorem dX6_passTick_89 : decode cX6_passTick 89 = .ok (.aload_n 0, 1) := by decide +kernel
theorem dX6_passTick_90 : decode cX6_passTick 90 = .ok (.getfield 34, 3) := by decide +kernel
theorem dX6_passTick_93 : decode cX6_passTick 93 = .ok (.if_icmp .ne 8, 3) := by decide +kernel
theorem dX6_passTick_96 : decode cX6_passTick 96 = .ok (.aload_n 0, 1) := by decide +kernel
theorem dX6_passTick_97 : decode cX6_passTick 97 = .ok (.aload_n 3, 1) := by decide +kernel
theorem dX6_passTick_98 : decode cX6_passTick 98 = .ok (.invokevirtual 51, 3) := by decide +kernel
theorem dX6_passTick_101 : decode cX6_passTick 101 = .ok (.iinc 2 1, 3) := by decide +kernel
theorem dX6_passTick_104 : decode cX6_passTick 104 = .ok (.goto (-90), 3) := by decide +kernel
theorem dX6_passTick_107 : decode cX6_passTick 107 = .ok (.iload_n 1, 1) := by decide +kernel
theorem dX6_passTick_108 : decode cX6_passTick 108 = .ok (.ireturn, 1) := by decide +kernel
theorem dX6_utter_0 : decode cX6_utter 0 = .ok (.aload_n 0, 1) := by decide +kernel
theorem dX6_utter_1 : decode cX6_utter 1 = .ok (.getfield 38, 3) := by decide +kernel
theorem dX6_utter_4 : decode cX6_utter 4 = .ok (.istore 5, 2) := by decide +kernel
theorem dX6_utter_6 : decode cX6_utter 6 = .ok (.aload_n 0, 1) := by decide +kernel
theorem dX6_utter_7 : decode cX6_utter 7 = .ok (.dup, 1) := by decide +kernel
theorem dX6_utter_8 : decode cX6_utter 8 = .ok (.getfield 38, 3) := by decide +kernel
theorem dX6_utter_11 : decode cX6_utter 11 = .ok (.iconst 1, 1) := by decide +kernel
theorem dX6_utter_12 : decode cX6_utter 12 = .ok (.iadd, 1) := by decide +kernel
theorem dX6_utter_13 : decode cX6_utter 13 = .ok (.putfield 38, 3) := by decide +kernel
theorem dX6_utter_16 : decode cX6_utter 16 = .ok (.iload 4, 2) := by decide +kernel
theorem dX6_utter_18 : decode cX6_utter 18 = .ok (.ifCond .eq 19, 3) := by decide +kernel
theorem dX6_utter_21 : decode cX6_utter 21 = .ok (.aload_n 0, 1) := by decide +kernel
theorem dX6_utter_22 : decode cX6_utter 22 = .ok (.getfield 22, 3) := by decide +kernel
theorem dX6_utter_25 : decode cX6_utter 25 = .ok (.aload_n 0, 1) := by decide +kernel
theorem dX6_utter_26 : decode cX6_utter 26 = .ok (.getfield 22, 3) := by decide +kernel
theorem dX6_utter_29 : decode cX6_utter 29 = .ok (.iconst 0, 1) := by decide +kernel
theorem dX6_utter_30 : decode cX6_utter 30 = .ok (.iload_n 1, 1) := by decide +kernel
theorem dX6_utter_31 : decode cX6_utter 31 = .ok (.invokevirtual 106, 3) := by decide +kernel
theorem dX6_utter_34 : decode cX6_utter 34 = .ok (.invokevirtual 110, 3) := by decide +kernel
theorem dX6_utter_37 : decode cX6_utter 37 = .ok (.iload 4, 2) := by decide +kernel
theorem dX6_utter_39 : decode cX6_utter 39 = .ok (.ifCond .eq 16, 3) := by decide +kernel
theorem dX6_utter_42 : decode cX6_utter 42 = .ok (.iload_n 2, 1) := by decide +kernel
theorem dX6_utter_43 : decode cX6_utter 43 = .ok (.ifCond .le 12, 3) := by decide +kernel
theorem dX6_utter_46 : decode cX6_utter 46 = .ok (.aload_n 0, 1) := by decide +kernel
theorem dX6_utter_47 : decode cX6_utter 47 = .ok (.iload_n 1, 1) := by decide +kernel
theorem dX6_utter_48 : decode cX6_utter 48 = .ok (.iload_n 2, 1) := by decide +kernel
theorem dX6_utter_49 : decode cX6_utter 49 = .ok (.iload_n 3, 1) := by decide +kernel
theorem dX6_utter_50 : decode cX6_utter 50 = .ok (.iload 5, 2) := by decide +kernel
theorem dX6_utter_52 : decode cX6_utter 52 = .ok (.invokevirtual 113, 3) := by decide +kernel
theorem dX6_utter_55 : decode cX6_utter 55 = .ok (.aload_n 0, 1) := by decide +kernel
theorem dX6_utter_56 : decode cX6_utter 56 = .ok (.iload_n 1, 1) := by decide +kernel
theorem dX6_utter_57 : decode cX6_utter 57 = .ok (.iload_n 2, 1) := by decide +kernel
theorem dX6_utter_58 : decode cX6_utter 58 = .ok (.iload_n 3, 1) := by decide +kernel
theorem dX6_utter_59 : decode cX6_utter 59 = .ok (.iload 5, 2) := by decide +kernel
theorem dX6_utter_61 : decode cX6_utter 61 = .ok (.invokevirtual 117, 3) := by decide +kernel
theorem dX6_utter_64 : decode cX6_utter 64 = .ok (.aload_n 0, 1) := by decide +kernel
theorem dX6_utter_65 : decode cX6_utter 65 = .ok (.iload_n 1, 1) := by decide +kernel
theorem dX6_utter_66 : decode cX6_utter 66 = .ok (.iload_n 2, 1) := by decide +kernel
theorem dX6_utter_67 : decode cX6_utter 67 = .ok (.iload_n 3, 1) := by decide +kernel
theorem dX6_utter_68 : decode cX6_utter 68 = .ok (.iload 5, 2) := by decide +kernel
theorem dX6_utter_70 : decode cX6_utter 70 = .ok (.invokevirtual 121, 3) := by decide +kernel
theorem dX6_utter_73 : decode cX6_utter 73 = .ok (.iadd, 1) := by decide +kernel
theorem dX6_utter_74 : decode cX6_utter 74 = .ok (.ireturn, 1) := by decide +kernel
theorem dX6_addKept_0 : decode cX6_addKept 0 = .ok (.aload_n 0, 1) := by decide +kernel
theorem dX6_addKept_1 : decode cX6_addKept 1 = .ok (.getfield 22, 3) := by decide +kernel
theorem dX6_addKept_4 : decode cX6_addKept 4 = .ok (.invokevirtual 124, 3) := by decide +kernel
theorem dX6_addKept_7 : decode cX6_addKept 7 = .ok (.ifCond .eq 11, 3) := by decide +kernel
theorem dX6_addKept_10 : decode cX6_addKept 10 = .ok (.aload_n 0, 1) := by decide +kernel
theorem dX6_addKept_11 : decode cX6_addKept 11 = .ok (.getfield 22, 3) := by decide +kernel
theorem dX6_addKept_14 : decode cX6_addKept 14 = .ok (.iconst 0, 1) := by decide +kernel
theorem dX6_addKept_15 : decode cX6_addKept 15 = .ok (.invokevirtual 110, 3) := by decide +kernel
theorem dX6_addKept_18 : decode cX6_addKept 18 = .ok (.aload_n 0, 1) := by decide +kernel
theorem dX6_addKept_19 : decode cX6_addKept 19 = .ok (.getfield 22, 3) := by decide +kernel
theorem dX6_addKept_22 : decode cX6_addKept 22 = .ok (.invokevirtual 128, 3) := by decide +kernel
theorem dX6_addKept_25 : decode cX6_addKept 25 = .ok (.istore 5, 2) := by decide +kernel
theorem dX6_addKept_27 : decode cX6_addKept 27 = .ok (.aload_n 0, 1) := by decide +kernel
theorem dX6_addKept_28 : decode cX6_addKept 28 = .ok (.getfield 22, 3) := by decide +kernel
theorem dX6_addKept_31 : decode cX6_addKept 31 = .ok (.iload 5, 2) := by decide +kernel
theorem dX6_addKept_33 : decode cX6_addKept 33 = .ok (.iconst 0, 1) := by decide +kernel
theorem dX6_addKept_34 : decode cX6_addKept 34 = .ok (.iload_n 1, 1) := by decide +kernel
theorem dX6_addKept_35 : decode cX6_addKept 35 = .ok (.invokevirtual 132, 3) := by decide +kernel
theorem dX6_addKept_38 : decode cX6_addKept 38 = .ok (.aload_n 0, 1) := by decide +kernel
theorem dX6_addKept_39 : decode cX6_addKept 39 = .ok (.getfield 22, 3) := by decide +kernel
theorem dX6_addKept_42 : decode cX6_addKept 42 = .ok (.iload 5, 2) := by decide +kernel
theorem dX6_addKept_44 : decode cX6_addKept 44 = .ok (.iconst 1, 1) := by decide +kernel
theorem dX6_addKept_45 : decode cX6_addKept 45 = .ok (.iload_n 2, 1) := by decide +kernel
theorem dX6_addKept_46 : decode cX6_addKept 46 = .ok (.invokevirtual 132, 3) := by decide +kernel
theorem dX6_addKept_49 : decode cX6_addKept 49 = .ok (.aload_n 0, 1) := by decide +kernel
theorem dX6_addKept_50 : decode cX6_addKept 50 = .ok (.getfield 22, 3) := by decide +kernel
theorem dX6_addKept_53 : decode cX6_addKept 53 = .ok (.iload 5, 2) := by decide +kernel
theorem dX6_addKept_55 : decode cX6_addKept 55 = .ok (.iconst 2, 1) := by decide +kernel
theorem dX6_addKept_56 : decode cX6_addKept 56 = .ok (.iload_n 3, 1) := by decide +kernel
theorem dX6_addKept_57 : decode cX6_addKept 57 = .ok (.invokevirtual 132, 3) := by decide +kernel
theorem dX6_addKept_60 : decode cX6_addKept 60 = .ok (.aload_n 0, 1) := by decide +kernel
theorem dX6_addKept_61 : decode cX6_addKept 61 = .ok (.getfield 22, 3) := by decide +kernel
theorem dX6_addKept_64 : decode cX6_addKept 64 = .ok (.iload 5, 2) := by decide +kernel
theorem dX6_addKept_66 : decode cX6_addKept 66 = .ok (.iconst 3, 1) := by decide +kernel
theorem dX6_addKept_67 : decode cX6_addKept 67 = .ok (.iload 4, 2) := by decide +kernel
theorem dX6_addKept_69 : decode cX6_addKept 69 = .ok (.invokevirtual 132, 3) := by decide +kernel
theorem dX6_addKept_72 : decode cX6_addKept 72 = .ok (.return_, 1) := by decide +kernel
theorem dX6_goToSessions_0 : decode cX6_goToSessions 0 = .ok (.iconst 0, 1) := by decide +kernel
theorem dX6_goToSessions_1 : decode cX6_goToSessions 1 = .ok (.istore 5, 2) := by decide +kernel
theorem dX6_goToSessions_3 : decode cX6_goToSessions 3 = .ok (.iconst 0, 1) := by decide +kernel
theorem dX6_goToSessions_4 : decode cX6_goToSessions 4 = .ok (.istore 6, 2) := by decide +kernel
theorem dX6_goToSessions_6 : decode cX6_goToSessions 6 = .ok (.iload 6, 2) := by decide +kernel
theorem dX6_goToSessions_8 : decode cX6_goToSessions 8 = .ok (.bipush 6, 2) := by decide +kernel
theorem dX6_goToSessions_10 : decode cX6_goToSessions 10 = .ok (.if_icmp .ge 50, 3) := by decide +kernel
theorem dX6_goToSessions_13 : decode cX6_goToSessions 13 = .ok (.aload_n 0, 1) := by decide +kernel
theorem dX6_goToSessions_14 : decode cX6_goToSessions 14 = .ok (.getfield 11, 3) := by decide +kernel
theorem dX6_goToSessions_17 : decode cX6_goToSessions 17 = .ok (.iload 6, 2) := by decide +kernel
theorem dX6_goToSessions_19 : decode cX6_goToSessions 19 = .ok (.aaload, 1) := by decide +kernel
theorem dX6_goToSessions_20 : decode cX6_goToSessions 20 = .ok (.iload_n 1, 1) := by decide +kernel
theorem dX6_goToSessions_21 : decode cX6_goToSessions 21 = .ok (.invokevirtual 136, 3) := by decide +kernel
theorem dX6_goToSessions_24 : decode cX6_goToSessions 24 = .ok (.istore 7, 2) := by decide +kernel
theorem dX6_goToSessions_26 : decode cX6_goToSessions 26 = .ok (.iload 7, 2) := by decide +kernel
theorem dX6_goToSessions_28 : decode cX6_goToSessions 28 = .ok (.ifCond .lt 26, 3) := by decide +kernel
theorem dX6_goToSessions_31 : decode cX6_goToSessions 31 = .ok (.aload_n 0, 1) := by decide +kernel
theorem dX6_goToSessions_32 : decode cX6_goToSessions 32 = .ok (.getfield 11, 3) := by decide +kernel
theorem dX6_goToSessions_35 : decode cX6_goToSessions 35 = .ok (.iload 6, 2) := by decide +kernel
theorem dX6_goToSessions_37 : decode cX6_goToSessions 37 = .ok (.aaload, 1) := by decide +kernel
theorem dX6_goToSessions_38 : decode cX6_goToSessions 38 = .ok (.iload 4, 2) := by decide +kernel
theorem dX6_goToSessions_40 : decode cX6_goToSessions 40 = .ok (.iload_n 2, 1) := by decide +kernel
theorem dX6_goToSessions_41 : decode cX6_goToSessions 41 = .ok (.iload_n 3, 1) := by decide +kernel
theorem dX6_goToSessions_42 : decode cX6_goToSessions 42 = .ok (.iload 7, 2) := by decide +kernel
theorem dX6_goToSessions_44 : decode cX6_goToSessions 44 = .ok (.invokestatic 140, 3) := by decide +kernel
theorem dX6_goToSessions_47 : decode cX6_goToSessions 47 = .ok (.iconst 0, 1) := by decide +kernel
theorem dX6_goToSessions_48 : decode cX6_goToSessions 48 = .ok (.invokevirtual 145, 3) := by decide +kernel
theorem dX6_goToSessions_51 : decode cX6_goToSessions 51 = .ok (.iinc 5 1, 3) := by decide +kernel
theorem dX6_goToSessions_54 : decode cX6_goToSessions 54 = .ok (.iinc 6 1, 3) := by decide +kernel
theorem dX6_goToSessions_57 : decode cX6_goToSessions 57 = .ok (.goto (-51), 3) := by decide +kernel
theorem dX6_goToSessions_60 : decode cX6_goToSessions 60 = .ok (.iload 5, 2) := by decide +kernel
theorem dX6_goToSessions_62 : decode cX6_goToSessions 62 = .ok (.ireturn, 1) := by decide +kernel
theorem dX6_goToShares_0 : decode cX6_goToShares 0 = .ok (.iconst 0, 1) := by decide +kernel
theorem dX6_goToShares_1 : decode cX6_goToShares 1 = .ok (.istore 5, 2) := by decide +kernel
theorem dX6_goToShares_3 : decode cX6_goToShares 3 = .ok (.aload_n 0, 1) := by decide +kernel
theorem dX6_goToShares_4 : decode cX6_goToShares 4 = .ok (.iconst 0, 1) := by decide +kernel
theorem dX6_goToShares_5 : decode cX6_goToShares 5 = .ok (.invokevirtual 149, 3) := by decide +kernel
theorem dX6_goToShares_8 : decode cX6_goToShares 8 = .ok (.istore 6, 2) := by decide +kernel
theorem dX6_goToShares_10 : decode cX6_goToShares 10 = .ok (.iconst 0, 1) := by decide +kernel
theorem dX6_goToShares_11 : decode cX6_goToShares 11 = .ok (.istore 7, 2) := by decide +kernel
theorem dX6_goToShares_13 : decode cX6_goToShares 13 = .ok (.iload 7, 2) := by decide +kernel
theorem dX6_goToShares_15 : decode cX6_goToShares 15 = .ok (.bipush 36, 2) := by decide +kernel
theorem dX6_goToShares_17 : decode cX6_goToShares 17 = .ok (.if_icmp .ge 78, 3) := by decide +kernel
theorem dX6_goToShares_20 : decode cX6_goToShares 20 = .ok (.iload 6, 2) := by decide +kernel
theorem dX6_goToShares_22 : decode cX6_goToShares 22 = .ok (.ifCond .le 73, 3) := by decide +kernel
theorem dX6_goToShares_25 : decode cX6_goToShares 25 = .ok (.iload 6, 2) := by decide +kernel
theorem dX6_goToShares_27 : decode cX6_goToShares 27 = .ok (.invokestatic 152, 3) := by decide +kernel
theorem dX6_goToShares_30 : decode cX6_goToShares 30 = .ok (.iload_n 1, 1) := by decide +kernel
theorem dX6_goToShares_31 : decode cX6_goToShares 31 = .ok (.invokestatic 157, 3) := by decide +kernel
theorem dX6_goToShares_34 : decode cX6_goToShares 34 = .ok (.ifCond .eq 47, 3) := by decide +kernel
theorem dX6_goToShares_37 : decode cX6_goToShares 37 = .ok (.aload_n 0, 1) := by decide +kernel
theorem dX6_goToShares_38 : decode cX6_goToShares 38 = .ok (.iload 6, 2) := by decide +kernel
theorem dX6_goToShares_40 : decode cX6_goToShares 40 = .ok (.invokevirtual 161, 3) := by decide +kernel
theorem dX6_goToShares_43 : decode cX6_goToShares 43 = .ok (.astore 8, 2) := by decide +kernel
theorem dX6_goToShares_45 : decode cX6_goToShares 45 = .ok (.aload 8, 2) := by decide +kernel
theorem dX6_goToShares_47 : decode cX6_goToShares 47 = .ok (.getfield 165, 3) := by decide +kernel
theorem dX6_goToShares_50 : decode cX6_goToShares 50 = .ok (.aload 8, 2) := by decide +kernel
theorem dX6_goToShares_52 : decode cX6_goToShares 52 = .ok (.iload 6, 2) := by decide +kernel
theorem dX6_goToShares_54 : decode cX6_goToShares 54 = .ok (.invokevirtual 168, 3) := by decide +kernel
theorem dX6_goToShares_57 : decode cX6_goToShares 57 = .ok (.iconst 1, 1) := by decide +kernel
theorem dX6_goToShares_58 : decode cX6_goToShares 58 = .ok (.invokevirtual 171, 3) := by decide +kernel
theorem dX6_goToShares_61 : decode cX6_goToShares 61 = .ok (.istore 9, 2) := by decide +kernel
theorem dX6_goToShares_63 : decode cX6_goToShares 63 = .ok (.aload 8, 2) := by decide +kernel
theorem dX6_goToShares_65 : decode cX6_goToShares 65 = .ok (.iload 4, 2) := by decide +kernel
theorem dX6_goToShares_67 : decode cX6_goToShares 67 = .ok (.iload_n 2, 1) := by decide +kernel
theorem dX6_goToShares_68 : decode cX6_goToShares 68 = .ok (.iload_n 3, 1) := by decide +kernel
theorem dX6_goToShares_69 : decode cX6_goToShares 69 = .ok (.iload 9, 2) := by decide +kernel
theorem dX6_goToShares_71 : decode cX6_goToShares 71 = .ok (.invokestatic 140, 3) := by decide +kernel
theorem dX6_goToShares_74 : decode cX6_goToShares 74 = .ok (.iconst 0, 1) := by decide +kernel
theorem dX6_goToShares_75 : decode cX6_goToShares 75 = .ok (.invokevirtual 145, 3) := by decide +kernel
theorem dX6_goToShares_78 : decode cX6_goToShares 78 = .ok (.iinc 5 1, 3) := by decide +kernel
theorem dX6_goToShares_81 : decode cX6_goToShares 81 = .ok (.aload_n 0, 1) := by decide +kernel
theorem dX6_goToShares_82 : decode cX6_goToShares 82 = .ok (.iload 6, 2) := by decide +kernel
theorem dX6_goToShares_84 : decode cX6_goToShares 84 = .ok (.invokevirtual 149, 3) := by decide +kernel
theorem dX6_goToShares_87 : decode cX6_goToShares 87 = .ok (.istore 6, 2) := by decide +kernel
theorem dX6_goToShares_89 : decode cX6_goToShares 89 = .ok (.iinc 7 1, 3) := by decide +kernel
theorem dX6_goToShares_92 : decode cX6_goToShares 92 = .ok (.goto (-79), 3) := by decide +kernel
theorem dX6_goToShares_95 : decode cX6_goToShares 95 = .ok (.iload 5, 2) := by decide +kernel
theorem dX6_goToShares_97 : decode cX6_goToShares 97 = .ok (.ireturn, 1) := by decide +kernel
theorem dX6_shareBehind_0 : decode cX6_shareBehind 0 = .ok (.iconst 0, 1) := by decide +kernel
theorem dX6_shareBehind_1 : decode cX6_shareBehind 1 = .ok (.istore_n 2, 1) := by decide +kernel
theorem dX6_shareBehind_2 : decode cX6_shareBehind 2 = .ok (.iconst 0, 1) := by decide +kernel
theorem dX6_shareBehind_3 : decode cX6_shareBehind 3 = .ok (.istore_n 3, 1) := by decide +kernel
theorem dX6_shareBehind_4 : decode cX6_shareBehind 4 = .ok (.iload_n 3, 1) := by decide +kernel
theorem dX6_shareBehind_5 : decode cX6_shareBehind 5 = .ok (.bipush 6, 2) := by decide +kernel
theorem dX6_shareBehind_7 : decode cX6_shareBehind 7 = .ok (.if_icmp .ge 88, 3) := by decide +kernel
theorem dX6_shareBehind_10 : decode cX6_shareBehind 10 = .ok (.aload_n 0, 1) := by decide +kernel
theorem dX6_shareBehind_11 : decode cX6_shareBehind 11 = .ok (.getfield 11, 3) := by decide +kernel
theorem dX6_shareBehind_14 : decode cX6_shareBehind 14 = .ok (.iload_n 3, 1) := by decide +kernel
theorem dX6_shareBehind_15 : decode cX6_shareBehind 15 = .ok (.aaload, 1) := by decide +kernel
theorem dX6_shareBehind_16 : decode cX6_shareBehind 16 = .ok (.getfield 165, 3) := by decide +kernel
theorem dX6_shareBehind_19 : decode cX6_shareBehind 19 = .ok (.astore 4, 2) := by decide +kernel
theorem dX6_shareBehind_21 : decode cX6_shareBehind 21 = .ok (.iconst 0, 1) := by decide +kernel
theorem dX6_shareBehind_22 : decode cX6_shareBehind 22 = .ok (.istore 5, 2) := by decide +kernel
theorem dX6_shareBehind_24 : decode cX6_shareBehind 24 = .ok (.iload 5, 2) := by decide +kernel
theorem dX6_shareBehind_26 : decode cX6_shareBehind 26 = .ok (.aload 4, 2) := by decide +kernel
theorem dX6_shareBehind_28 : decode cX6_shareBehind 28 = .ok (.getfield 174, 3) := by decide +kernel
theorem dX6_shareBehind_31 : decode cX6_shareBehind 31 = .ok (.if_icmp .ge 58, 3) := by decide +kernel
theorem dX6_shareBehind_34 : decode cX6_shareBehind 34 = .ok (.aload 4, 2) := by decide +kernel
theorem dX6_shareBehind_36 : decode cX6_shareBehind 36 = .ok (.iload 5, 2) := by decide +kernel
theorem dX6_shareBehind_38 : decode cX6_shareBehind 38 = .ok (.iconst 2, 1) := by decide +kernel
theorem dX6_shareBehind_39 : decode cX6_shareBehind 39 = .ok (.invokevirtual 171, 3) := by decide +kernel
theorem dX6_shareBehind_42 : decode cX6_shareBehind 42 = .ok (.istore 6, 2) := by decide +kernel
theorem dX6_shareBehind_44 : decode cX6_shareBehind 44 = .ok (.iload 6, 2) := by decide +kernel
theorem dX6_shareBehind_46 : decode cX6_shareBehind 46 = .ok (.aload 4, 2) := by decide +kernel
theorem dX6_shareBehind_48 : decode cX6_shareBehind 48 = .ok (.iload 5, 2) := by decide +kernel
theorem dX6_shareBehind_50 : decode cX6_shareBehind 50 = .ok (.iconst 0, 1) := by decide +kernel
theorem dX6_shareBehind_51 : decode cX6_shareBehind 51 = .ok (.invokevirtual 171, 3) := by decide +kernel
theorem dX6_shareBehind_54 : decode cX6_shareBehind 54 = .ok (.invokestatic 177, 3) := by decide +kernel
theorem dX6_shareBehind_57 : decode cX6_shareBehind 57 = .ok (.istore 7, 2) := by decide +kernel
theorem dX6_shareBehind_59 : decode cX6_shareBehind 59 = .ok (.iload 6, 2) := by decide +kernel
theorem dX6_shareBehind_61 : decode cX6_shareBehind 61 = .ok (.ifCond .le 22, 3) := by decide +kernel
theorem dX6_shareBehind_64 : decode cX6_shareBehind 64 = .ok (.iload 7, 2) := by decide +kernel
theorem dX6_shareBehind_66 : decode cX6_shareBehind 66 = .ok (.iload_n 1, 1) := by decide +kernel
theorem dX6_shareBehind_67 : decode cX6_shareBehind 67 = .ok (.if_icmp .le 16, 3) := by decide +kernel
theorem dX6_shareBehind_70 : decode cX6_shareBehind 70 = .ok (.iload_n 2, 1) := by decide +kernel
theorem dX6_shareBehind_71 : decode cX6_shareBehind 71 = .ok (.ifCond .eq 9, 3) := by decide +kernel
theorem dX6_shareBehind_74 : decode cX6_shareBehind 74 = .ok (.iload 7, 2) := by decide +kernel
theorem dX6_shareBehind_76 : decode cX6_shareBehind 76 = .ok (.iload_n 2, 1) := by decide +kernel
theorem dX6_shareBehind_77 : decode cX6_shareBehind 77 = .ok (.if_icmp .ge 6, 3) := by decide +kernel
theorem dX6_shareBehind_80 : decode cX6_shareBehind 80 = .ok (.iload 7, 2) := by decide +kernel
theorem dX6_shareBehind_82 : decode cX6_shareBehind 82 = .ok (.istore_n 2, 1) := by decide +kernel
theorem dX6_shareBehind_83 : decode cX6_shareBehind 83 = .ok (.iinc 5 1, 3) := by decide +kernel
theorem dX6_shareBehind_86 : decode cX6_shareBehind 86 = .ok (.goto (-62), 3) := by decide +kernel
theorem dX6_shareBehind_89 : decode cX6_shareBehind 89 = .ok (.iinc 3 1, 3) := by decide +kernel
theorem dX6_shareBehind_92 : decode cX6_shareBehind 92 = .ok (.goto (-88), 3) := by decide +kernel
theorem dX6_shareBehind_95 : decode cX6_shareBehind 95 = .ok (.iload_n 2, 1) := by decide +kernel
theorem dX6_shareBehind_96 : decode cX6_shareBehind 96 = .ok (.ireturn, 1) := by decide +kernel
theorem dX6_nextMember_0 : decode cX6_nextMember 0 = .ok (.aload_n 0, 1) := by decide +kernel
theorem dX6_nextMember_1 : decode cX6_nextMember 1 = .ok (.iload_n 1, 1) := by decide +kernel
theorem dX6_nextMember_2 : decode cX6_nextMember 2 = .ok (.iconst 1, 1) := by decide +kernel
theorem dX6_nextMember_3 : decode cX6_nextMember 3 = .ok (.invokevirtual 180, 3) := by decide +kernel
theorem dX6_nextMember_6 : decode cX6_nextMember 6 = .ok (.istore_n 2, 1) := by decide +kernel
theorem dX6_nextMember_7 : decode cX6_nextMember 7 = .ok (.iload_n 2, 1) := by decide +kernel
theorem dX6_nextMember_8 : decode cX6_nextMember 8 = .ok (.ifCond .ge 10, 3) := by decide +kernel
theorem dX6_nextMember_11 : decode cX6_nextMember 11 = .ok (.aload_n 0, 1) := by decide +kernel
theorem dX6_nextMember_12 : decode cX6_nextMember 12 = .ok (.iload_n 1, 1) := by decide +kernel
theorem dX6_nextMember_13 : decode cX6_nextMember 13 = .ok (.iconst 2, 1) := by decide +kernel
theorem dX6_nextMember_14 : decode cX6_nextMember 14 = .ok (.invokevirtual 180, 3) := by decide +kernel
theorem dX6_nextMember_17 : decode cX6_nextMember 17 = .ok (.istore_n 2, 1) := by decide +kernel
theorem dX6_nextMember_18 : decode cX6_nextMember 18 = .ok (.iload_n 2, 1) := by decide +kernel
theorem dX6_nextMember_19 : decode cX6_nextMember 19 = .ok (.iconst 0, 1) := by decide +kernel
theorem dX6_nextMember_20 : decode cX6_nextMember 20 = .ok (.invokestatic 183, 3) := by decide +kernel
theorem dX6_nextMember_23 : decode cX6_nextMember 23 = .ok (.istore_n 2, 1) := by decide +kernel
theorem dX6_nextMember_24 : decode cX6_nextMember 24 = .ok (.aload_n 0, 1) := by decide +kernel
theorem dX6_nextMember_25 : decode cX6_nextMember 25 = .ok (.getfield 26, 3) := by decide +kernel
theorem dX6_nextMember_28 : decode cX6_nextMember 28 = .ok (.iconst 0, 1) := by decide +kernel
theorem dX6_nextMember_29 : decode cX6_nextMember 29 = .ok (.iload_n 1, 1) := by decide +kernel
theorem dX6_nextMember_30 : decode cX6_nextMember 30 = .ok (.invokevirtual 106, 3) := by decide +kernel
theorem dX6_nextMember_33 : decode cX6_nextMember 33 = .ok (.istore_n 3, 1) := by decide +kernel
theorem dX6_nextMember_34 : decode cX6_nextMember 34 = .ok (.iload_n 3, 1) := by decide +kernel
theorem dX6_nextMember_35 : decode cX6_nextMember 35 = .ok (.ifCond .ge 21, 3) := by decide +kernel
theorem dX6_nextMember_38 : decode cX6_nextMember 38 = .ok (.aload_n 0, 1) := by decide +kernel
theorem dX6_nextMember_39 : decode cX6_nextMember 39 = .ok (.getfield 26, 3) := by decide +kernel
theorem dX6_nextMember_42 : decode cX6_nextMember 42 = .ok (.invokevirtual 128, 3) := by decide +kernel
theorem dX6_nextMember_45 : decode cX6_nextMember 45 = .ok (.istore_n 3, 1) := by decide +kernel
theorem dX6_nextMember_46 : decode cX6_nextMember 46 = .ok (.aload_n 0, 1) := by decide +kernel
theorem dX6_nextMember_47 : decode cX6_nextMember 47 = .ok (.getfield 26, 3) := by decide +kernel
theorem dX6_nextMember_50 : decode cX6_nextMember 50 = .ok (.iload_n 3, 1) := by decide +kernel
theorem dX6_nextMember_51 : decode cX6_nextMember 51 = .ok (.iconst 0, 1) := by decide +kernel
theorem dX6_nextMember_52 : decode cX6_nextMember 52 = .ok (.iload_n 1, 1) := by decide +kernel
theorem dX6_nextMember_53 : decode cX6_nextMember 53 = .ok (.invokevirtual 132, 3) := by decide +kernel
theorem dX6_nextMember_56 : decode cX6_nextMember 56 = .ok (.aload_n 0, 1) := by decide +kernel
theorem dX6_nextMember_57 : decode cX6_nextMember 57 = .ok (.getfield 26, 3) := by decide +kernel
theorem dX6_nextMember_60 : decode cX6_nextMember 60 = .ok (.iload_n 3, 1) := by decide +kernel
theorem dX6_nextMember_61 : decode cX6_nextMember 61 = .ok (.iconst 1, 1) := by decide +kernel
theorem dX6_nextMember_62 : decode cX6_nextMember 62 = .ok (.iload_n 2, 1) := by decide +kernel
theorem dX6_nextMember_63 : decode cX6_nextMember 63 = .ok (.invokevirtual 132, 3) := by decide +kernel
theorem dX6_nextMember_66 : decode cX6_nextMember 66 = .ok (.aload_n 0, 1) := by decide +kernel
theorem dX6_nextMember_67 : decode cX6_nextMember 67 = .ok (.getfield 11, 3) := by decide +kernel
theorem dX6_nextMember_70 : decode cX6_nextMember 70 = .ok (.iload_n 2, 1) := by decide +kernel
theorem dX6_nextMember_71 : decode cX6_nextMember 71 = .ok (.aaload, 1) := by decide +kernel
theorem dX6_nextMember_72 : decode cX6_nextMember 72 = .ok (.areturn, 1) := by decide +kernel
theorem dX6_memberBehind_0 : decode cX6_memberBehind 0 = .ok (.iload_n 1, 1) := by decide +kernel
theorem dX6_memberBehind_1 : decode cX6_memberBehind 1 = .ok (.invokestatic 152, 3) := by decide +kernel
theorem dX6_memberBehind_4 : decode cX6_memberBehind 4 = .ok (.istore_n 3, 1) := by decide +kernel
theorem dX6_memberBehind_5 : decode cX6_memberBehind 5 = .ok (.iload_n 1, 1) := by decide +kernel
theorem dX6_memberBehind_6 : decode cX6_memberBehind 6 = .ok (.invokestatic 186, 3) := by decide +kernel
theorem dX6_memberBehind_9 : decode cX6_memberBehind 9 = .ok (.istore 4, 2) := by decide +kernel
theorem dX6_memberBehind_11 : decode cX6_memberBehind 11 = .ok (.aload_n 0, 1) := by decide +kernel
theorem dX6_memberBehind_12 : decode cX6_memberBehind 12 = .ok (.iload_n 1, 1) := by decide +kernel
theorem dX6_memberBehind_13 : decode cX6_memberBehind 13 = .ok (.invokevirtual 189, 3) := by decide +kernel
theorem dX6_memberBehind_16 : decode cX6_memberBehind 16 = .ok (.istore 5, 2) := by decide +kernel
theorem dX6_memberBehind_18 : decode cX6_memberBehind 18 = .ok (.iload 5, 2) := by decide +kernel
theorem dX6_memberBehind_20 : decode cX6_memberBehind 20 = .ok (.ifCond .ge 7, 3) := by decide +kernel
theorem dX6_memberBehind_23 : decode cX6_memberBehind 23 = .ok (.iconst 0, 1) := by decide +kernel
theorem dX6_memberBehind_24 : decode cX6_memberBehind 24 = .ok (.goto 7, 3) := by decide +kernel
theorem dX6_memberBehind_27 : decode cX6_memberBehind 27 = .ok (.iload 5, 2) := by decide +kernel
theorem dX6_memberBehind_29 : decode cX6_memberBehind 29 = .ok (.iconst 1, 1) := by decide +kernel
theorem dX6_memberBehind_30 : decode cX6_memberBehind 30 = .ok (.iadd, 1) := by decide +kernel
theorem dX6_memberBehind_31 : decode cX6_memberBehind 31 = .ok (.istore 6, 2) := by decide +kernel
theorem dX6_memberBehind_33 : decode cX6_memberBehind 33 = .ok (.iconst 0, 1) := by decide +kernel
theorem dX6_memberBehind_34 : decode cX6_memberBehind 34 = .ok (.istore 7, 2) := by decide +kernel
theorem dX6_memberBehind_36 : decode cX6_memberBehind 36 = .ok (.iload 7, 2) := by decide +kernel
theorem dX6_memberBehind_38 : decode cX6_memberBehind 38 = .ok (.bipush 6, 2) := by decide +kernel
theorem dX6_memberBehind_40 : decode cX6_memberBehind 40 = .ok (.if_icmp .ge 52, 3) := by decide +kernel
theorem dX6_memberBehind_43 : decode cX6_memberBehind 43 = .ok (.iload 6, 2) := by decide +kernel
theorem dX6_memberBehind_45 : decode cX6_memberBehind 45 = .ok (.iload 7, 2) := by decide +kernel
theorem dX6_memberBehind_47 : decode cX6_memberBehind 47 = .ok (.iadd, 1) := by decide +kernel
theorem dX6_memberBehind_48 : decode cX6_memberBehind 48 = .ok (.bipush 6, 2) := by decide +kernel
theorem dX6_memberBehind_50 : decode cX6_memberBehind 50 = .ok (.irem, 1) := by decide +kernel
theorem dX6_memberBehind_51 : decode cX6_memberBehind 51 = .ok (.istore 8, 2) := by decide +kernel
theorem dX6_memberBehind_53 : decode cX6_memberBehind 53 = .ok (.aload_n 0, 1) := by decide +kernel
theorem dX6_memberBehind_54 : decode cX6_memberBehind 54 = .ok (.getfield 11, 3) := by decide +kernel
theorem dX6_memberBehind_57 : decode cX6_memberBehind 57 = .ok (.iload 8, 2) := by decide +kernel
theorem dX6_memberBehind_59 : decode cX6_memberBehind 59 = .ok (.aaload, 1) := by decide +kernel
theorem dX6_memberBehind_60 : decode cX6_memberBehind 60 = .ok (.getfield 48, 3) := by decide +kernel
theorem dX6_memberBehind_63 : decode cX6_memberBehind 63 = .ok (.iload_n 2, 1) := by decide +kernel
theorem dX6_memberBehind_64 : decode cX6_memberBehind 64 = .ok (.if_icmp .ne 22, 3) := by decide +kernel
theorem dX6_memberBehind_67 : decode cX6_memberBehind 67 = .ok (.aload_n 0, 1) := by decide +kernel
theorem dX6_memberBehind_68 : decode cX6_memberBehind 68 = .ok (.getfield 11, 3) := by decide +kernel
theorem dX6_memberBehind_71 : decode cX6_memberBehind 71 = .ok (.iload 8, 2) := by decide +kernel
theorem dX6_memberBehind_73 : decode cX6_memberBehind 73 = .ok (.aaload, 1) := by decide +kernel
theorem dX6_memberBehind_74 : decode cX6_memberBehind 74 = .ok (.iload_n 3, 1) := by decide +kernel
theorem dX6_memberBehind_75 : decode cX6_memberBehind 75 = .ok (.iload 4, 2) := by decide +kernel
theorem dX6_memberBehind_77 : decode cX6_memberBehind 77 = .ok (.invokevirtual 192, 3) := by decide +kernel
theorem dX6_memberBehind_80 : decode cX6_memberBehind 80 = .ok (.ifCond .lt 6, 3) := by decide +kernel
theorem dX6_memberBehind_83 : decode cX6_memberBehind 83 = .ok (.iload 8, 2) := by decide +kernel
theorem dX6_memberBehind_85 : decode cX6_memberBehind 85 = .ok (.ireturn, 1) := by decide +kernel
theorem dX6_memberBehind_86 : decode cX6_memberBehind 86 = .ok (.iinc 7 1, 3) := by decide +kernel
theorem dX6_memberBehind_89 : decode cX6_memberBehind 89 = .ok (.goto (-53), 3) := by decide +kernel
theorem dX6_memberBehind_92 : decode cX6_memberBehind 92 = .ok (.iconst (-1), 1) := by decide +kernel
theorem dX6_memberBehind_93 : decode cX6_memberBehind 93 = .ok (.ireturn, 1) := by decide +kernel
theorem dX6_latestOf_0 : decode cX6_latestOf 0 = .ok (.aload_n 0, 1) := by decide +kernel
theorem dX6_latestOf_1 : decode cX6_latestOf 1 = .ok (.getfield 26, 3) := by decide +kernel
theorem dX6_latestOf_4 : decode cX6_latestOf 4 = .ok (.iconst 0, 1) := by decide +kernel
theorem dX6_latestOf_5 : decode cX6_latestOf 5 = .ok (.iload_n 1, 1) := by decide +kernel
theorem dX6_latestOf_6 : decode cX6_latestOf 6 = .ok (.invokevirtual 106, 3) := by decide +kernel
theorem dX6_latestOf_9 : decode cX6_latestOf 9 = .ok (.istore_n 2, 1) := by decide +kernel
theorem dX6_latestOf_10 : decode cX6_latestOf 10 = .ok (.iload_n 2, 1) := by decide +kernel
theorem dX6_latestOf_11 : decode cX6_latestOf 11 = .ok (.ifCond .ge 8, 3) := by decide +kernel
theorem dX6_latestOf_14 : decode cX6_latestOf 14 = .ok (.bipush (-4), 2) := by decide +kernel
theorem dX6_latestOf_16 : decode cX6_latestOf 16 = .ok (.goto 12, 3) := by decide +kernel
theorem dX6_latestOf_19 : decode cX6_latestOf 19 = .ok (.aload_n 0, 1) := by decide +kernel
theorem dX6_latestOf_20 : decode cX6_latestOf 20 = .ok (.getfield 26, 3) := by decide +kernel
theorem dX6_latestOf_23 : decode cX6_latestOf 23 = .ok (.iload_n 2, 1) := by decide +kernel
theorem dX6_latestOf_24 : decode cX6_latestOf 24 = .ok (.iconst 1, 1) := by decide +kernel
theorem dX6_latestOf_25 : decode cX6_latestOf 25 = .ok (.invokevirtual 171, 3) := by decide +kernel
theorem dX6_latestOf_28 : decode cX6_latestOf 28 = .ok (.ireturn, 1) := by decide +kernel
theorem dX6_countShares_0 : decode cX6_countShares 0 = .ok (.iconst 0, 1) := by decide +kernel
theorem dX6_countShares_1 : decode cX6_countShares 1 = .ok (.istore_n 1, 1) := by decide +kernel
theorem dX6_countShares_2 : decode cX6_countShares 2 = .ok (.aload_n 0, 1) := by decide +kernel
theorem dX6_countShares_3 : decode cX6_countShares 3 = .ok (.iconst 0, 1) := by decide +kernel
theorem dX6_countShares_4 : decode cX6_countShares 4 = .ok (.invokevirtual 149, 3) := by decide +kernel
theorem dX6_countShares_7 : decode cX6_countShares 7 = .ok (.istore_n 2, 1) := by decide +kernel
theorem dX6_countShares_8 : decode cX6_countShares 8 = .ok (.iconst 0, 1) := by decide +kernel
theorem dX6_countShares_9 : decode cX6_countShares 9 = .ok (.istore_n 3, 1) := by decide +kernel
theorem dX6_countShares_10 : decode cX6_countShares 10 = .ok (.iload_n 3, 1) := by decide +kernel
theorem dX6_countShares_11 : decode cX6_countShares 11 = .ok (.bipush 36, 2) := by decide +kernel
theorem dX6_countShares_13 : decode cX6_countShares 13 = .ok (.if_icmp .ge 22, 3) := by decide +kernel
theorem dX6_countShares_16 : decode cX6_countShares 16 = .ok (.iload_n 2, 1) := by decide +kernel
theorem dX6_countShares_17 : decode cX6_countShares 17 = .ok (.ifCond .le 18, 3) := by decide +kernel
theorem dX6_countShares_20 : decode cX6_countShares 20 = .ok (.iinc 1 1, 3) := by decide +kernel
theorem dX6_countShares_23 : decode cX6_countShares 23 = .ok (.aload_n 0, 1) := by decide +kernel
theorem dX6_countShares_24 : decode cX6_countShares 24 = .ok (.iload_n 2, 1) := by decide +kernel
theorem dX6_countShares_25 : decode cX6_countShares 25 = .ok (.invokevirtual 149, 3) := by decide +kernel
theorem dX6_countShares_28 : decode cX6_countShares 28 = .ok (.istore_n 2, 1) := by decide +kernel
theorem dX6_countShares_29 : decode cX6_countShares 29 = .ok (.iinc 3 1, 3) := by decide +kernel
theorem dX6_countShares_32 : decode cX6_countShares 32 = .ok (.goto (-22), 3) := by decide +kernel
theorem dX6_countShares_35 : decode cX6_countShares 35 = .ok (.iload_n 1, 1) := by decide +kernel
theorem dX6_countShares_36 : decode cX6_countShares 36 = .ok (.ireturn, 1) := by decide +kernel
theorem dX6_forgetEmptyShares_0 : decode cX6_forgetEmptyShares 0 = .ok (.aload_n 0, 1) := by decide +kernel
theorem dX6_forgetEmptyShares_1 : decode cX6_forgetEmptyShares 1 = .ok (.getfield 26, 3) := by decide +kernel
theorem dX6_forgetEmptyShares_4 : decode cX6_forgetEmptyShares 4 = .ok (.getfield 174, 3) := by decide +kernel
theorem dX6_forgetEmptyShares_7 : decode cX6_forgetEmptyShares 7 = .ok (.iconst 1, 1) := by decide +kernel
theorem dX6_forgetEmptyShares_8 : decode cX6_forgetEmptyShares 8 = .ok (.isub, 1) := by decide +kernel
theorem dX6_forgetEmptyShares_9 : decode cX6_forgetEmptyShares 9 = .ok (.istore_n 1, 1) := by decide +kernel
theorem dX6_forgetEmptyShares_10 : decode cX6_forgetEmptyShares 10 = .ok (.iload_n 1, 1) := by decide +kernel
theorem dX6_forgetEmptyShares_11 : decode cX6_forgetEmptyShares 11 = .ok (.ifCond .lt 33, 3) := by decide +kernel
theorem dX6_forgetEmptyShares_14 : decode cX6_forgetEmptyShares 14 = .ok (.aload_n 0, 1) := by decide +kernel
theorem dX6_forgetEmptyShares_15 : decode cX6_forgetEmptyShares 15 = .ok (.aload_n 0, 1) := by decide +kernel
theorem dX6_forgetEmptyShares_16 : decode cX6_forgetEmptyShares 16 = .ok (.getfield 26, 3) := by decide +kernel
theorem dX6_forgetEmptyShares_19 : decode cX6_forgetEmptyShares 19 = .ok (.iload_n 1, 1) := by decide +kernel
theorem dX6_forgetEmptyShares_20 : decode cX6_forgetEmptyShares 20 = .ok (.iconst 0, 1) := by decide +kernel
theorem dX6_forgetEmptyShares_21 : decode cX6_forgetEmptyShares 21 = .ok (.invokevirtual 171, 3) := by decide +kernel
theorem dX6_forgetEmptyShares_24 : decode cX6_forgetEmptyShares 24 = .ok (.invokevirtual 195, 3) := by decide +kernel
theorem dX6_forgetEmptyShares_27 : decode cX6_forgetEmptyShares 27 = .ok (.ifCond .ne 11, 3) := by decide +kernel
theorem dX6_forgetEmptyShares_30 : decode cX6_forgetEmptyShares 30 = .ok (.aload_n 0, 1) := by decide +kernel
theorem dX6_forgetEmptyShares_31 : decode cX6_forgetEmptyShares 31 = .ok (.getfield 26, 3) := by decide +kernel
theorem dX6_forgetEmptyShares_34 : decode cX6_forgetEmptyShares 34 = .ok (.iload_n 1, 1) := by decide +kernel
theorem dX6_forgetEmptyShares_35 : decode cX6_forgetEmptyShares 35 = .ok (.invokevirtual 110, 3) := by decide +kernel
theorem dX6_forgetEmptyShares_38 : decode cX6_forgetEmptyShares 38 = .ok (.iinc 1 (-1), 3) := by decide +kernel
theorem dX6_forgetEmptyShares_41 : decode cX6_forgetEmptyShares 41 = .ok (.goto (-31), 3) := by decide +kernel
theorem dX6_forgetEmptyShares_44 : decode cX6_forgetEmptyShares 44 = .ok (.return_, 1) := by decide +kernel
theorem dX6_hasMember_0 : decode cX6_hasMember 0 = .ok (.iconst 0, 1) := by decide +kernel
theorem dX6_hasMember_1 : decode cX6_hasMember 1 = .ok (.istore_n 2, 1) := by decide +kernel
theorem dX6_hasMember_2 : decode cX6_hasMember 2 = .ok (.iload_n 2, 1) := by decide +kernel
theorem dX6_hasMember_3 : decode cX6_hasMember 3 = .ok (.bipush 6, 2) := by decide +kernel
theorem dX6_hasMember_5 : decode cX6_hasMember 5 = .ok (.if_icmp .ge 24, 3) := by decide +kernel
theorem dX6_hasMember_8 : decode cX6_hasMember 8 = .ok (.aload_n 0, 1) := by decide +kernel
theorem dX6_hasMember_9 : decode cX6_hasMember 9 = .ok (.getfield 11, 3) := by decide +kernel
theorem dX6_hasMember_12 : decode cX6_hasMember 12 = .ok (.iload_n 2, 1) := by decide +kernel
theorem dX6_hasMember_13 : decode cX6_hasMember 13 = .ok (.aaload, 1) := by decide +kernel
theorem dX6_hasMember_14 : decode cX6_hasMember 14 = .ok (.iload_n 1, 1) := by decide +kernel
theorem dX6_hasMember_15 : decode cX6_hasMember 15 = .ok (.invokevirtual 168, 3) := by decide +kernel
theorem dX6_hasMember_18 : decode cX6_hasMember 18 = .ok (.ifCond .lt 5, 3) := by decide +kernel
theorem dX6_hasMember_21 : decode cX6_hasMember 21 = .ok (.iconst 1, 1) := by decide +kernel
theorem dX6_hasMember_22 : decode cX6_hasMember 22 = .ok (.ireturn, 1) := by decide +kernel
theorem dX6_hasMember_23 : decode cX6_hasMember 23 = .ok (.iinc 2 1, 3) := by decide +kernel
theorem dX6_hasMember_26 : decode cX6_hasMember 26 = .ok (.goto (-24), 3) := by decide +kernel
theorem dX6_hasMember_29 : decode cX6_hasMember 29 = .ok (.iconst 0, 1) := by decide +kernel
theorem dX6_hasMember_30 : decode cX6_hasMember 30 = .ok (.ireturn, 1) := by decide +kernel
theorem dX6_goKept_0 : decode cX6_goKept 0 = .ok (.iconst 0, 1) := by decide +kernel
theorem dX6_goKept_1 : decode cX6_goKept 1 = .ok (.istore 4, 2) := by decide +kernel
theorem dX6_goKept_3 : decode cX6_goKept 3 = .ok (.iconst 0, 1) := by decide +kernel
theorem dX6_goKept_4 : decode cX6_goKept 4 = .ok (.istore 5, 2) := by decide +kernel
theorem dX6_goKept_6 : decode cX6_goKept 6 = .ok (.iload 5, 2) := by decide +kernel
theorem dX6_goKept_8 : decode cX6_goKept 8 = .ok (.aload_n 0, 1) := by decide +kernel
theorem dX6_goKept_9 : decode cX6_goKept 9 = .ok (.getfield 22, 3) := by decide +kernel
theorem dX6_goKept_12 : decode cX6_goKept 12 = .ok (.getfield 174, 3) := by decide +kernel
theorem dX6_goKept_15 : decode cX6_goKept 15 = .ok (.if_icmp .ge 72, 3) := by decide +kernel
theorem dX6_goKept_18 : decode cX6_goKept 18 = .ok (.iload_n 2, 1) := by decide +kernel
theorem dX6_goKept_19 : decode cX6_goKept 19 = .ok (.aload_n 0, 1) := by decide +kernel
theorem dX6_goKept_20 : decode cX6_goKept 20 = .ok (.getfield 22, 3) := by decide +kernel
theorem dX6_goKept_23 : decode cX6_goKept 23 = .ok (.iload 5, 2) := by decide +kernel
theorem dX6_goKept_25 : decode cX6_goKept 25 = .ok (.iconst 0, 1) := by decide +kernel
theorem dX6_goKept_26 : decode cX6_goKept 26 = .ok (.invokevirtual 171, 3) := by decide +kernel
theorem dX6_goKept_29 : decode cX6_goKept 29 = .ok (.invokestatic 157, 3) := by decide +kernel
theorem dX6_goKept_32 : decode cX6_goKept 32 = .ok (.ifCond .eq 49, 3) := by decide +kernel
theorem dX6_goKept_35 : decode cX6_goKept 35 = .ok (.iload_n 3, 1) := by decide +kernel
theorem dX6_goKept_36 : decode cX6_goKept 36 = .ok (.aload_n 0, 1) := by decide +kernel
theorem dX6_goKept_37 : decode cX6_goKept 37 = .ok (.getfield 22, 3) := by decide +kernel
theorem dX6_goKept_40 : decode cX6_goKept 40 = .ok (.iload 5, 2) := by decide +kernel
theorem dX6_goKept_42 : decode cX6_goKept 42 = .ok (.iconst 2, 1) := by decide +kernel
theorem dX6_goKept_43 : decode cX6_goKept 43 = .ok (.invokevirtual 171, 3) := by decide +kernel
theorem dX6_goKept_46 : decode cX6_goKept 46 = .ok (.invokestatic 140, 3) := by decide +kernel
theorem dX6_goKept_49 : decode cX6_goKept 49 = .ok (.istore 6, 2) := by decide +kernel
theorem dX6_goKept_51 : decode cX6_goKept 51 = .ok (.aload_n 1, 1) := by decide +kernel
theorem dX6_goKept_52 : decode cX6_goKept 52 = .ok (.aload_n 0, 1) := by decide +kernel
theorem dX6_goKept_53 : decode cX6_goKept 53 = .ok (.getfield 22, 3) := by decide +kernel
theorem dX6_goKept_56 : decode cX6_goKept 56 = .ok (.iload 5, 2) := by decide +kernel
theorem dX6_goKept_58 : decode cX6_goKept 58 = .ok (.iconst 3, 1) := by decide +kernel
theorem dX6_goKept_59 : decode cX6_goKept 59 = .ok (.invokevirtual 171, 3) := by decide +kernel
theorem dX6_goKept_62 : decode cX6_goKept 62 = .ok (.aload_n 0, 1) := by decide +kernel
theorem dX6_goKept_63 : decode cX6_goKept 63 = .ok (.getfield 22, 3) := by decide +kernel
theorem dX6_goKept_66 : decode cX6_goKept 66 = .ok (.iload 5, 2) := by decide +kernel
theorem dX6_goKept_68 : decode cX6_goKept 68 = .ok (.iconst 1, 1) := by decide +kernel
theorem dX6_goKept_69 : decode cX6_goKept 69 = .ok (.invokevirtual 171, 3) := by decide +kernel
theorem dX6_goKept_72 : decode cX6_goKept 72 = .ok (.iload 6, 2) := by decide +kernel
theorem dX6_goKept_74 : decode cX6_goKept 74 = .ok (.iconst 1, 1) := by decide +kernel
theorem dX6_goKept_75 : decode cX6_goKept 75 = .ok (.invokevirtual 145, 3) := by decide +kernel
theorem dX6_goKept_78 : decode cX6_goKept 78 = .ok (.iinc 4 1, 3) := by decide +kernel
theorem dX6_goKept_81 : decode cX6_goKept 81 = .ok (.iinc 5 1, 3) := by decide +kernel
theorem dX6_goKept_84 : decode cX6_goKept 84 = .ok (.goto (-78), 3) := by decide +kernel
theorem dX6_goKept_87 : decode cX6_goKept 87 = .ok (.iload 4, 2) := by decide +kernel
theorem dX6_goKept_89 : decode cX6_goKept 89 = .ok (.ireturn, 1) := by decide +kernel
theorem dX6_total_0 : decode cX6_total 0 = .ok (.iconst 0, 1) := by decide +kernel
theorem dX6_total_1 : decode cX6_total 1 = .ok (.istore_n 2, 1) := by decide +kernel
theorem dX6_total_2 : decode cX6_total 2 = .ok (.iconst 0, 1) := by decide +kernel
theorem dX6_total_3 : decode cX6_total 3 = .ok (.istore_n 3, 1) := by decide +kernel
theorem dX6_total_4 : decode cX6_total 4 = .ok (.iload_n 3, 1) := by decide +kernel
theorem dX6_total_5 : decode cX6_total 5 = .ok (.bipush 6, 2) := by decide +kernel
theorem dX6_total_7 : decode cX6_total 7 = .ok (.if_icmp .ge 84, 3) := by decide +kernel
theorem dX6_total_10 : decode cX6_total 10 = .ok (.aload_n 0, 1) := by decide +kernel
theorem dX6_total_11 : decode cX6_total 11 = .ok (.getfield 11, 3) := by decide +kernel
theorem dX6_total_14 : decode cX6_total 14 = .ok (.iload_n 3, 1) := by decide +kernel
theorem dX6_total_15 : decode cX6_total 15 = .ok (.aaload, 1) := by decide +kernel
theorem dX6_total_16 : decode cX6_total 16 = .ok (.astore 4, 2) := by decide +kernel
theorem dX6_total_18 : decode cX6_total 18 = .ok (.iload_n 1, 1) := by decide +kernel
theorem dX6_total_19 : decode cX6_total 19 = .ok (.tableswitch 58 2 4 #[25, 36, 47], 25) := by decide +kernel
theorem dX6_total_44 : decode cX6_total 44 = .ok (.iload_n 2, 1) := by decide +kernel
theorem dX6_total_45 : decode cX6_total 45 = .ok (.aload 4, 2) := by decide +kernel
theorem dX6_total_47 : decode cX6_total 47 = .ok (.getfield 198, 3) := by decide +kernel
theorem dX6_total_50 : decode cX6_total 50 = .ok (.iadd, 1) := by decide +kernel
theorem dX6_total_51 : decode cX6_total 51 = .ok (.istore_n 2, 1) := by decide +kernel
theorem dX6_total_52 : decode cX6_total 52 = .ok (.goto 33, 3) := by decide +kernel
theorem dX6_total_55 : decode cX6_total 55 = .ok (.iload_n 2, 1) := by decide +kernel
theorem dX6_total_56 : decode cX6_total 56 = .ok (.aload 4, 2) := by decide +kernel
theorem dX6_total_58 : decode cX6_total 58 = .ok (.getfield 201, 3) := by decide +kernel
theorem dX6_total_61 : decode cX6_total 61 = .ok (.iadd, 1) := by decide +kernel
theorem dX6_total_62 : decode cX6_total 62 = .ok (.istore_n 2, 1) := by decide +kernel
theorem dX6_total_63 : decode cX6_total 63 = .ok (.goto 22, 3) := by decide +kernel
theorem dX6_total_66 : decode cX6_total 66 = .ok (.iload_n 2, 1) := by decide +kernel
theorem dX6_total_67 : decode cX6_total 67 = .ok (.aload 4, 2) := by decide +kernel
theorem dX6_total_69 : decode cX6_total 69 = .ok (.getfield 204, 3) := by decide +kernel
theorem dX6_total_72 : decode cX6_total 72 = .ok (.iadd, 1) := by decide +kernel
theorem dX6_total_73 : decode cX6_total 73 = .ok (.istore_n 2, 1) := by decide +kernel
theorem dX6_total_74 : decode cX6_total 74 = .ok (.goto 11, 3) := by decide +kernel
theorem dX6_total_77 : decode cX6_total 77 = .ok (.iload_n 2, 1) := by decide +kernel
theorem dX6_total_78 : decode cX6_total 78 = .ok (.aload 4, 2) := by decide +kernel
theorem dX6_total_80 : decode cX6_total 80 = .ok (.getfield 207, 3) := by decide +kernel
theorem dX6_total_83 : decode cX6_total 83 = .ok (.iadd, 1) := by decide +kernel
theorem dX6_total_84 : decode cX6_total 84 = .ok (.istore_n 2, 1) := by decide +kernel
theorem dX6_total_85 : decode cX6_total 85 = .ok (.iinc 3 1, 3) := by decide +kernel
theorem dX6_total_88 : decode cX6_total 88 = .ok (.goto (-84), 3) := by decide +kernel
theorem dX6_total_91 : decode cX6_total 91 = .ok (.iload_n 2, 1) := by decide +kernel
theorem dX6_total_92 : decode cX6_total 92 = .ok (.ireturn, 1) := by decide +kernel
theorem dX7_init_0 : decode cX7_init 0 = .ok (.aload_n 0, 1) := by decide +kernel
theorem dX7_init_1 : decode cX7_init 1 = .ok (.invokespecial 3, 3) := by decide +kernel
theorem dX7_init_4 : decode cX7_init 4 = .ok (.aload_n 0, 1) := by decide +kernel
theorem dX7_init_5 : decode cX7_init 5 = .ok (.new 9, 3) := by decide +kernel
theorem dX7_init_8 : decode cX7_init 8 = .ok (.dup, 1) := by decide +kernel
theorem dX7_init_9 : decode cX7_init 9 = .ok (.invokespecial 11, 3) := by decide +kernel
theorem dX7_init_12 : decode cX7_init 12 = .ok (.putfield 12, 3) := by decide +kernel
theorem dX7_init_15 : decode cX7_init 15 = .ok (.aload_n 0, 1) := by decide +kernel
theorem dX7_init_16 : decode cX7_init 16 = .ok (.aload_n 0, 1) := by decide +kernel
theorem dX7_init_17 : decode cX7_init 17 = .ok (.getfield 12, 3) := by decide +kernel
theorem dX7_init_20 : decode cX7_init 20 = .ok (.getfield 16, 3) := by decide +kernel
theorem dX7_init_23 : decode cX7_init 23 = .ok (.putfield 20, 3) := by decide +kernel
theorem dX7_init_26 : decode cX7_init 26 = .ok (.aload_n 0, 1) := by decide +kernel
theorem dX7_init_27 : decode cX7_init 27 = .ok (.new 21, 3) := by decide +kernel
theorem dX7_init_30 : decode cX7_init 30 = .ok (.dup, 1) := by decide +kernel
theorem dX7_init_31 : decode cX7_init 31 = .ok (.invokespecial 23, 3) := by decide +kernel
theorem dX7_init_34 : decode cX7_init 34 = .ok (.putfield 24, 3) := by decide +kernel
theorem dX7_init_37 : decode cX7_init 37 = .ok (.aload_n 0, 1) := by decide +kernel
theorem dX7_init_38 : decode cX7_init 38 = .ok (.iconst 2, 1) := by decide +kernel
theorem dX7_init_39 : decode cX7_init 39 = .ok (.anewarray 21, 3) := by decide +kernel
theorem dX7_init_42 : decode cX7_init 42 = .ok (.putfield 28, 3) := by decide +kernel
theorem dX7_init_45 : decode cX7_init 45 = .ok (.iconst 0, 1) := by decide +kernel
theorem dX7_init_46 : decode cX7_init 46 = .ok (.istore_n 1, 1) := by decide +kernel
theorem dX7_init_47 : decode cX7_init 47 = .ok (.iload_n 1, 1) := by decide +kernel
theorem dX7_init_48 : decode cX7_init 48 = .ok (.iconst 2, 1) := by decide +kernel
theorem dX7_init_49 : decode cX7_init 49 = .ok (.if_icmp .ge 22, 3) := by decide +kernel
theorem dX7_init_52 : decode cX7_init 52 = .ok (.aload_n 0, 1) := by decide +kernel
theorem dX7_init_53 : decode cX7_init 53 = .ok (.getfield 28, 3) := by decide +kernel
theorem dX7_init_56 : decode cX7_init 56 = .ok (.iload_n 1, 1) := by decide +kernel
theorem dX7_init_57 : decode cX7_init 57 = .ok (.new 21, 3) := by decide +kernel
theorem dX7_init_60 : decode cX7_init 60 = .ok (.dup, 1) := by decide +kernel
theorem dX7_init_61 : decode cX7_init 61 = .ok (.invokespecial 23, 3) := by decide +kernel
theorem dX7_init_64 : decode cX7_init 64 = .ok (.aastore, 1) := by decide +kernel
theorem dX7_init_65 : decode cX7_init 65 = .ok (.iinc 1 1, 3) := by decide +kernel
theorem dX7_init_68 : decode cX7_init 68 = .ok (.goto (-21), 3) := by decide +kernel
theorem dX7_init_71 : decode cX7_init 71 = .ok (.aload_n 0, 1) := by decide +kernel
theorem dX7_init_72 : decode cX7_init 72 = .ok (.iconst 2, 1) := by decide +kernel
theorem dX7_init_73 : decode cX7_init 73 = .ok (.newarray .boolean, 2) := by decide +kernel
theorem dX7_init_75 : decode cX7_init 75 = .ok (.putfield 32, 3) := by decide +kernel
theorem dX7_init_78 : decode cX7_init 78 = .ok (.aload_n 0, 1) := by decide +kernel
theorem dX7_init_79 : decode cX7_init 79 = .ok (.iconst 0, 1) := by decide +kernel
theorem dX7_init_80 : decode cX7_init 80 = .ok (.putfield 38, 3) := by decide +kernel
theorem dX7_init_83 : decode cX7_init 83 = .ok (.aload_n 0, 1) := by decide +kernel
theorem dX7_init_84 : decode cX7_init 84 = .ok (.iconst 0, 1) := by decide +kernel
theorem dX7_init_85 : decode cX7_init 85 = .ok (.putfield 42, 3) := by decide +kernel
theorem dX7_init_88 : decode cX7_init 88 = .ok (.return_, 1) := by decide +kernel
theorem dX7_feed_0 : decode cX7_feed 0 = .ok (.iload_n 1, 1) := by decide +kernel
theorem dX7_feed_1 : decode cX7_feed 1 = .ok (.iconst 0, 1) := by decide +kernel
theorem dX7_feed_2 : decode cX7_feed 2 = .ok (.bipush 127, 2) := by decide +kernel
theorem dX7_feed_4 : decode cX7_feed 4 = .ok (.invokestatic 45, 3) := by decide +kernel
theorem dX7_feed_7 : decode cX7_feed 7 = .ok (.ifCond .eq 5, 3) := by decide +kernel
theorem dX7_feed_10 : decode cX7_feed 10 = .ok (.iconst (-1), 1) := by decide +kernel
theorem dX7_feed_11 : decode cX7_feed 11 = .ok (.ireturn, 1) := by decide +kernel
theorem dX7_feed_12 : decode cX7_feed 12 = .ok (.aload_n 0, 1) := by decide +kernel
theorem dX7_feed_13 : decode cX7_feed 13 = .ok (.getfield 20, 3) := by decide +kernel
theorem dX7_feed_16 : decode cX7_feed 16 = .ok (.iload_n 1, 1) := by decide +kernel
theorem dX7_feed_17 : decode cX7_feed 17 = .ok (.invokevirtual 49, 3) := by decide +kernel
theorem dX7_feed_20 : decode cX7_feed 20 = .ok (.ifCond .eq 13, 3) := by decide +kernel
theorem dX7_feed_23 : decode cX7_feed 23 = .ok (.aload_n 0, 1) := by decide +kernel
theorem dX7_feed_24 : decode cX7_feed 24 = .ok (.getfield 20, 3) := by decide +kernel
theorem dX7_feed_27 : decode cX7_feed 27 = .ok (.getfield 55, 3) := by decide +kernel
theorem dX7_feed_30 : decode cX7_feed 30 = .ok (.goto 5, 3) := by decide +kernel
theorem dX7_feed_33 : decode cX7_feed 33 = .ok (.bipush (-3), 2) := by decide +kernel
theorem dX7_feed_35 : decode cX7_feed 35 = .ok (.ireturn, 1) := by decide +kernel
theorem dX7_end_0 : decode cX7_end 0 = .ok (.iload_n 1, 1) := by decide +kernel
theorem dX7_end_1 : decode cX7_end 1 = .ok (.iconst 0, 1) := by decide +kernel
theorem dX7_end_2 : decode cX7_end 2 = .ok (.aload_n 0, 1) := by decide +kernel
theorem dX7_end_3 : decode cX7_end 3 = .ok (.getfield 20, 3) := by decide +kernel
theorem dX7_end_6 : decode cX7_end 6 = .ok (.getfield 55, 3) := by decide +kernel
theorem dX7_end_9 : decode cX7_end 9 = .ok (.invokestatic 45, 3) := by decide +kernel
theorem dX7_end_12 : decode cX7_end 12 = .ok (.ifCond .eq 5, 3) := by decide +kernel
theorem dX7_end_15 : decode cX7_end 15 = .ok (.iconst (-1), 1) := by decide +kernel
theorem dX7_end_16 : decode cX7_end 16 = .ok (.ireturn, 1) := by decide +kernel
theorem dX7_end_17 : decode cX7_end 17 = .ok (.aload_n 0, 1) := by decide +kernel
theorem dX7_end_18 : decode cX7_end 18 = .ok (.getfield 20, 3) := by decide +kernel
theorem dX7_end_21 : decode cX7_end 21 = .ok (.getfield 55, 3) := by decide +kernel
theorem dX7_end_24 : decode cX7_end 24 = .ok (.istore_n 2, 1) := by decide +kernel
theorem dX7_end_25 : decode cX7_end 25 = .ok (.aload_n 0, 1) := by decide +kernel
theorem dX7_end_26 : decode cX7_end 26 = .ok (.getfield 20, 3) := by decide +kernel
theorem dX7_end_29 : decode cX7_end 29 = .ok (.iload_n 1, 1) := by decide +kernel
theorem dX7_end_30 : decode cX7_end 30 = .ok (.putfield 55, 3) := by decide +kernel
theorem dX7_end_33 : decode cX7_end 33 = .ok (.iload_n 2, 1) := by decide +kernel
theorem dX7_end_34 : decode cX7_end 34 = .ok (.ireturn, 1) := by decide +kernel
theorem dX7_text_0 : decode cX7_text 0 = .ok (.aload_n 0, 1) := by decide +kernel
theorem dX7_text_1 : decode cX7_text 1 = .ok (.getfield 12, 3) := by decide +kernel
theorem dX7_text_4 : decode cX7_text 4 = .ok (.invokevirtual 58, 3) := by decide +kernel
theorem dX7_text_7 : decode cX7_text 7 = .ok (.istore_n 1, 1) := by decide +kernel
theorem dX7_text_8 : decode cX7_text 8 = .ok (.aload_n 0, 1) := by decide +kernel
theorem dX7_text_9 : decode cX7_text 9 = .ok (.aload_n 0, 1) := by decide +kernel
theorem dX7_text_10 : decode cX7_text 10 = .ok (.getfield 12, 3) := by decide +kernel
theorem dX7_text_13 : decode cX7_text 13 = .ok (.getfield 62, 3) := by decide +kernel
theorem dX7_text_16 : decode cX7_text 16 = .ok (.putfield 42, 3) := by decide +kernel
theorem dX7_text_19 : decode cX7_text 19 = .ok (.aload_n 0, 1) := by decide +kernel
theorem dX7_text_20 : decode cX7_text 20 = .ok (.getfield 20, 3) := by decide +kernel
theorem dX7_text_23 : decode cX7_text 23 = .ok (.iconst 0, 1) := by decide +kernel
theorem dX7_text_24 : decode cX7_text 24 = .ok (.putfield 55, 3) := by decide +kernel
theorem dX7_text_27 : decode cX7_text 27 = .ok (.aload_n 0, 1) := by decide +kernel
theorem dX7_text_28 : decode cX7_text 28 = .ok (.getfield 42, 3) := by decide +kernel
theorem dX7_text_31 : decode cX7_text 31 = .ok (.ifCond .ne 42, 3) := by decide +kernel
theorem dX7_text_34 : decode cX7_text 34 = .ok (.aload_n 0, 1) := by decide +kernel
theorem dX7_text_35 : decode cX7_text 35 = .ok (.getfield 24, 3) := by decide +kernel
theorem dX7_text_38 : decode cX7_text 38 = .ok (.aload_n 0, 1) := by decide +kernel
theorem dX7_text_39 : decode cX7_text 39 = .ok (.getfield 12, 3) := by decide +kernel
theorem dX7_text_42 : decode cX7_text 42 = .ok (.getfield 63, 3) := by decide +kernel
theorem dX7_text_45 : decode cX7_text 45 = .ok (.invokevirtual 66, 3) := by decide +kernel
theorem dX7_text_48 : decode cX7_text 48 = .ok (.aload_n 0, 1) := by decide +kernel
theorem dX7_text_49 : decode cX7_text 49 = .ok (.iconst 0, 1) := by decide +kernel
theorem dX7_text_50 : decode cX7_text 50 = .ok (.putfield 38, 3) := by decide +kernel
theorem dX7_text_53 : decode cX7_text 53 = .ok (.iconst 0, 1) := by decide +kernel
theorem dX7_text_54 : decode cX7_text 54 = .ok (.istore_n 2, 1) := by decide +kernel
theorem dX7_text_55 : decode cX7_text 55 = .ok (.iload_n 2, 1) := by decide +kernel
theorem dX7_text_56 : decode cX7_text 56 = .ok (.iconst 2, 1) := by decide +kernel
theorem dX7_text_57 : decode cX7_text 57 = .ok (.if_icmp .ge 16, 3) := by decide +kernel
theorem dX7_text_60 : decode cX7_text 60 = .ok (.aload_n 0, 1) := by decide +kernel
theorem dX7_text_61 : decode cX7_text 61 = .ok (.getfield 32, 3) := by decide +kernel
theorem dX7_text_64 : decode cX7_text 64 = .ok (.iload_n 2, 1) := by decide +kernel
theorem dX7_text_65 : decode cX7_text 65 = .ok (.iconst 0, 1) := by decide +kernel
theorem dX7_text_66 : decode cX7_text 66 = .ok (.bastore, 1) := by decide +kernel
theorem dX7_text_67 : decode cX7_text 67 = .ok (.iinc 2 1, 3) := by decide +kernel
theorem dX7_text_70 : decode cX7_text 70 = .ok (.goto (-15), 3) := by decide +kernel
theorem dX7_text_73 : decode cX7_text 73 = .ok (.iload_n 1, 1) := by decide +kernel
theorem dX7_text_74 : decode cX7_text 74 = .ok (.ireturn, 1) := by decide +kernel
theorem dX7_fault_0 : decode cX7_fault 0 = .ok (.aload_n 0, 1) := by decide +kernel
theorem dX7_fault_1 : decode cX7_fault 1 = .ok (.getfield 42, 3) := by decide +kernel
theorem dX7_fault_4 : decode cX7_fault 4 = .ok (.ireturn, 1) := by decide +kernel
theorem dX7_level_0 : decode cX7_level 0 = .ok (.iload_n 1, 1) := by decide +kernel
theorem dX7_level_1 : decode cX7_level 1 = .ok (.iconst 1, 1) := by decide +kernel
theorem dX7_level_2 : decode cX7_level 2 = .ok (.bipush 28, 2) := by decide +kernel
theorem dX7_level_4 : decode cX7_level 4 = .ok (.invokestatic 45, 3) := by decide +kernel
theorem dX7_level_7 : decode cX7_level 7 = .ok (.ifCond .eq 5, 3) := by decide +kernel
theorem dX7_level_10 : decode cX7_level 10 = .ok (.iconst (-1), 1) := by decide +kernel
theorem dX7_level_11 : decode cX7_level 11 = .ok (.ireturn, 1) := by decide +kernel
theorem dX7_level_12 : decode cX7_level 12 = .ok (.aload_n 0, 1) := by decide +kernel
theorem dX7_level_13 : decode cX7_level 13 = .ok (.getfield 38, 3) := by decide +kernel
theorem dX7_level_16 : decode cX7_level 16 = .ok (.invokestatic 70, 3) := by decide +kernel
theorem dX7_level_19 : decode cX7_level 19 = .ok (.ifCond .eq 6, 3) := by decide +kernel
theorem dX7_level_22 : decode cX7_level 22 = .ok (.bipush (-2), 2) := by decide +kernel
theorem dX7_level_24 : decode cX7_level 24 = .ok (.ireturn, 1) := by decide +kernel
theorem dX7_level_25 : decode cX7_level 25 = .ok (.aload_n 0, 1) := by decide +kernel
theorem dX7_level_26 : decode cX7_level 26 = .ok (.getfield 38, 3) := by decide +kernel
theorem dX7_level_29 : decode cX7_level 29 = .ok (.invokestatic 73, 3) := by decide +kernel
theorem dX7_level_32 : decode cX7_level 32 = .ok (.istore_n 2, 1) := by decide +kernel
theorem dX7_level_33 : decode cX7_level 33 = .ok (.iload_n 2, 1) := by decide +kernel
theorem dX7_level_34 : decode cX7_level 34 = .ok (.iconst 4, 1) := by decide +kernel
theorem dX7_level_35 : decode cX7_level 35 = .ok (.if_icmp .lt 6, 3) := by decide +kernel
theorem dX7_level_38 : decode cX7_level 38 = .ok (.bipush (-3), 2) := by decide +kernel
theorem dX7_level_40 : decode cX7_level 40 = .ok (.ireturn, 1) := by decide +kernel
theorem dX7_level_41 : decode cX7_level 41 = .ok (.aload_n 0, 1) := by decide +kernel
theorem dX7_level_42 : decode cX7_level 42 = .ok (.aload_n 0, 1) := by decide +kernel
theorem dX7_level_43 : decode cX7_level 43 = .ok (.getfield 38, 3) := by decide +kernel
theorem dX7_level_46 : decode cX7_level 46 = .ok (.iload_n 1, 1) := by decide +kernel
theorem dX7_level_47 : decode cX7_level 47 = .ok (.invokestatic 77, 3) := by decide +kernel
theorem dX7_level_50 : decode cX7_level 50 = .ok (.putfield 38, 3) := by decide +kernel
theorem dX7_level_53 : decode cX7_level 53 = .ok (.iload_n 2, 1) := by decide +kernel
theorem dX7_level_54 : decode cX7_level 54 = .ok (.iconst 1, 1) := by decide +kernel
theorem dX7_level_55 : decode cX7_level 55 = .ok (.iadd, 1) := by decide +kernel
theorem dX7_level_56 : decode cX7_level 56 = .ok (.ireturn, 1) := by decide +kernel
theorem dX7_top_0 : decode cX7_top 0 = .ok (.aload_n 0, 1) := by decide +kernel
theorem dX7_top_1 : decode cX7_top 1 = .ok (.getfield 38, 3) := by decide +kernel
theorem dX7_top_4 : decode cX7_top 4 = .ok (.invokestatic 73, 3) := by decide +kernel
theorem dX7_top_7 : decode cX7_top 7 = .ok (.istore_n 1, 1) := by decide +kernel
theorem dX7_top_8 : decode cX7_top 8 = .ok (.aload_n 0, 1) := by decide +kernel
theorem dX7_top_9 : decode cX7_top 9 = .ok (.iconst 0, 1) := by decide +kernel
theorem dX7_top_10 : decode cX7_top 10 = .ok (.putfield 38, 3) := by decide +kernel
theorem dX7_top_13 : decode cX7_top 13 = .ok (.iload_n 1, 1) := by decide +kernel
theorem dX7_top_14 : decode cX7_top 14 = .ok (.ireturn, 1) := by decide +kernel
theorem dX7_wake_0 : decode cX7_wake 0 = .ok (.iload_n 1, 1) := by decide +kernel
theorem dX7_wake_1 : decode cX7_wake 1 = .ok (.invokestatic 81, 3) := by decide +kernel
theorem dX7_wake_4 : decode cX7_wake 4 = .ok (.ifCond .ne 22, 3) := by decide +kernel
theorem dX7_wake_7 : decode cX7_wake 7 = .ok (.iload_n 2, 1) := by decide +kernel
theorem dX7_wake_8 : decode cX7_wake 8 = .ok (.iconst 0, 1) := by decide +kernel
theorem dX7_wake_9 : decode cX7_wake 9 = .ok (.iconst 1, 1) := by decide +kernel
theorem dX7_wake_10 : decode cX7_wake 10 = .ok (.invokestatic 45, 3) := by decide +kernel
theorem dX7_wake_13 : decode cX7_wake 13 = .ok (.ifCond .ne 13, 3) := by decide +kernel
theorem dX7_wake_16 : decode cX7_wake 16 = .ok (.iload_n 3, 1) := by decide +kernel
theorem dX7_wake_17 : decode cX7_wake 17 = .ok (.iconst 0, 1) := by decide +kernel
theorem dX7_wake_18 : decode cX7_wake 18 = .ok (.bipush 99, 2) := by decide +kernel
theorem dX7_wake_20 : decode cX7_wake 20 = .ok (.invokestatic 45, 3) := by decide +kernel
theorem dX7_wake_23 : decode cX7_wake 23 = .ok (.ifCond .eq 5, 3) := by decide +kernel
theorem dX7_wake_26 : decode cX7_wake 26 = .ok (.iconst (-1), 1) := by decide +kernel
theorem dX7_wake_27 : decode cX7_wake 27 = .ok (.ireturn, 1) := by decide +kernel
theorem dX7_wake_28 : decode cX7_wake 28 = .ok (.aload_n 0, 1) := by decide +kernel
theorem dX7_wake_29 : decode cX7_wake 29 = .ok (.iload_n 1, 1) := by decide +kernel
theorem dX7_wake_30 : decode cX7_wake 30 = .ok (.invokevirtual 84, 3) := by decide +kernel
theorem dX7_wake_33 : decode cX7_wake 33 = .ok (.ifCond .eq 6, 3) := by decide +kernel
theorem dX7_wake_36 : decode cX7_wake 36 = .ok (.bipush (-2), 2) := by decide +kernel
theorem dX7_wake_38 : decode cX7_wake 38 = .ok (.ireturn, 1) := by decide +kernel
theorem dX7_wake_39 : decode cX7_wake 39 = .ok (.aload_n 0, 1) := by decide +kernel
theorem dX7_wake_40 : decode cX7_wake 40 = .ok (.getfield 24, 3) := by decide +kernel
theorem dX7_wake_43 : decode cX7_wake 43 = .ok (.aload_n 0, 1) := by decide +kernel
theorem dX7_wake_44 : decode cX7_wake 44 = .ok (.getfield 24, 3) := by decide +kernel
theorem dX7_wake_47 : decode cX7_wake 47 = .ok (.getfield 87, 3) := by decide +kernel
theorem dX7_wake_50 : decode cX7_wake 50 = .ok (.iload_n 1, 1) := by decide +kernel
theorem dX7_wake_51 : decode cX7_wake 51 = .ok (.aaload, 1) := by decide +kernel
theorem dX7_wake_52 : decode cX7_wake 52 = .ok (.iload_n 2, 1) := by decide +kernel
theorem dX7_wake_53 : decode cX7_wake 53 = .ok (.iconst 1, 1) := by decide +kernel
theorem dX7_wake_54 : decode cX7_wake 54 = .ok (.if_icmp .ne 7, 3) := by decide +kernel
theorem dX7_wake_57 : decode cX7_wake 57 = .ok (.iconst 1, 1) := by decide +kernel
theorem dX7_wake_58 : decode cX7_wake 58 = .ok (.goto 4, 3) := by decide +kernel
theorem dX7_wake_61 : decode cX7_wake 61 = .ok (.iconst 0, 1) := by decide +kernel
theorem dX7_wake_62 : decode cX7_wake 62 = .ok (.iload_n 3, 1) := by decide +kernel
theorem dX7_wake_63 : decode cX7_wake 63 = .ok (.invokevirtual 91, 3) := by decide +kernel
theorem dX7_wake_66 : decode cX7_wake 66 = .ok (.ifCond .eq 7, 3) := by decide +kernel
theorem dX7_wake_69 : decode cX7_wake 69 = .ok (.iconst 1, 1) := by decide +kernel
theorem dX7_wake_70 : decode cX7_wake 70 = .ok (.goto 4, 3) := by decide +kernel
theorem dX7_wake_73 : decode cX7_wake 73 = .ok (.iconst 0, 1) := by decide +kernel
theorem dX7_wake_74 : decode cX7_wake 74 = .ok (.ireturn, 1) := by decide +kernel
theorem dX7_sleep_0 : decode cX7_sleep 0 = .ok (.iload_n 1, 1) := by decide +kernel
theorem dX7_sleep_1 : decode cX7_sleep 1 = .ok (.invokestatic 81, 3) := by decide +kernel
theorem dX7_sleep_4 : decode cX7_sleep 4 = .ok (.ifCond .ne 12, 3) := by decide +kernel
theorem dX7_sleep_7 : decode cX7_sleep 7 = .ok (.iload_n 2, 1) := by decide +kernel
theorem dX7_sleep_8 : decode cX7_sleep 8 = .ok (.iconst 0, 1) := by decide +kernel
theorem dX7_sleep_9 : decode cX7_sleep 9 = .ok (.iconst 1, 1) := by decide +kernel
theorem dX7_sleep_10 : decode cX7_sleep 10 = .ok (.invokestatic 45, 3) := by decide +kernel
theorem dX7_sleep_13 : decode cX7_sleep 13 = .ok (.ifCond .eq 5, 3) := by decide +kernel
theorem dX7_sleep_16 : decode cX7_sleep 16 = .ok (.iconst (-1), 1) := by decide +kernel
theorem dX7_sleep_17 : decode cX7_sleep 17 = .ok (.ireturn, 1) := by decide +kernel
theorem dX7_sleep_18 : decode cX7_sleep 18 = .ok (.aload_n 0, 1) := by decide +kernel
theorem dX7_sleep_19 : decode cX7_sleep 19 = .ok (.iload_n 1, 1) := by decide +kernel
theorem dX7_sleep_20 : decode cX7_sleep 20 = .ok (.invokevirtual 84, 3) := by decide +kernel
theorem dX7_sleep_23 : decode cX7_sleep 23 = .ok (.ifCond .ne 6, 3) := by decide +kernel
theorem dX7_sleep_26 : decode cX7_sleep 26 = .ok (.bipush (-2), 2) := by decide +kernel
theorem dX7_sleep_28 : decode cX7_sleep 28 = .ok (.ireturn, 1) := by decide +kernel
theorem dX7_sleep_29 : decode cX7_sleep 29 = .ok (.aload_n 0, 1) := by decide +kernel
theorem dX7_sleep_30 : decode cX7_sleep 30 = .ok (.getfield 24, 3) := by decide +kernel
theorem dX7_sleep_33 : decode cX7_sleep 33 = .ok (.aload_n 0, 1) := by decide +kernel
theorem dX7_sleep_34 : decode cX7_sleep 34 = .ok (.getfield 24, 3) := by decide +kernel
theorem dX7_sleep_37 : decode cX7_sleep 37 = .ok (.getfield 87, 3) := by decide +kernel
theorem dX7_sleep_40 : decode cX7_sleep 40 = .ok (.iload_n 1, 1) := by decide +kernel
theorem dX7_sleep_41 : decode cX7_sleep 41 = .ok (.aaload, 1) := by decide +kernel
theorem dX7_sleep_42 : decode cX7_sleep 42 = .ok (.iload_n 2, 1) := by decide +kernel
theorem dX7_sleep_43 : decode cX7_sleep 43 = .ok (.iconst 1, 1) := by decide +kernel
theorem dX7_sleep_44 : decode cX7_sleep 44 = .ok (.if_icmp .ne 7, 3) := by decide +kernel
theorem dX7_sleep_47 : decode cX7_sleep 47 = .ok (.iconst 1, 1) := by decide +kernel
theorem dX7_sleep_48 : decode cX7_sleep 48 = .ok (.goto 4, 3) := by decide +kernel
theorem dX7_sleep_51 : decode cX7_sleep 51 = .ok (.iconst 0, 1) := by decide +kernel
theorem dX7_sleep_52 : decode cX7_sleep 52 = .ok (.invokevirtual 95, 3) := by decide +kernel
theorem dX7_sleep_55 : decode cX7_sleep 55 = .ok (.ireturn, 1) := by decide +kernel
theorem dX7_will_0 : decode cX7_will 0 = .ok (.iload_n 1, 1) := by decide +kernel
theorem dX7_will_1 : decode cX7_will 1 = .ok (.invokestatic 81, 3) := by decide +kernel
theorem dX7_will_4 : decode cX7_will 4 = .ok (.ifCond .ne 24, 3) := by decide +kernel
theorem dX7_will_7 : decode cX7_will 7 = .ok (.iload_n 2, 1) := by decide +kernel
theorem dX7_will_8 : decode cX7_will 8 = .ok (.iload_n 3, 1) := by decide +kernel
theorem dX7_will_9 : decode cX7_will 9 = .ok (.iload 4, 2) := by decide +kernel
theorem dX7_will_11 : decode cX7_will 11 = .ok (.invokestatic 99, 3) := by decide +kernel
theorem dX7_will_14 : decode cX7_will 14 = .ok (.ifCond .ne 14, 3) := by decide +kernel
theorem dX7_will_17 : decode cX7_will 17 = .ok (.iload 5, 2) := by decide +kernel
theorem dX7_will_19 : decode cX7_will 19 = .ok (.iconst 0, 1) := by decide +kernel
theorem dX7_will_20 : decode cX7_will 20 = .ok (.bipush 50, 2) := by decide +kernel
theorem dX7_will_22 : decode cX7_will 22 = .ok (.invokestatic 45, 3) := by decide +kernel
theorem dX7_will_25 : decode cX7_will 25 = .ok (.ifCond .eq 5, 3) := by decide +kernel
theorem dX7_will_28 : decode cX7_will 28 = .ok (.iconst (-1), 1) := by decide +kernel
theorem dX7_will_29 : decode cX7_will 29 = .ok (.ireturn, 1) := by decide +kernel
theorem dX7_will_30 : decode cX7_will 30 = .ok (.aload_n 0, 1) := by decide +kernel
theorem dX7_will_31 : decode cX7_will 31 = .ok (.iload_n 1, 1) := by decide +kernel
theorem dX7_will_32 : decode cX7_will 32 = .ok (.invokevirtual 84, 3) := by decide +kernel
theorem dX7_will_35 : decode cX7_will 35 = .ok (.ifCond .eq 13, 3) := by decide +kernel
theorem dX7_will_38 : decode cX7_will 38 = .ok (.aload_n 0, 1) := by decide +kernel
theorem dX7_will_39 : decode cX7_will 39 = .ok (.getfield 38, 3) := by decide +kernel
theorem dX7_will_42 : decode cX7_will 42 = .ok (.invokestatic 102, 3) := by decide +kernel
theorem dX7_will_45 : decode cX7_will 45 = .ok (.ifCond .ne 6, 3) := by decide +kernel
theorem dX7_will_48 : decode cX7_will 48 = .ok (.bipush (-2), 2) := by decide +kernel
theorem dX7_will_50 : decode cX7_will 50 = .ok (.ireturn, 1) := by decide +kernel
theorem dX7_will_51 : decode cX7_will 51 = .ok (.aload_n 0, 1) := by decide +kernel
theorem dX7_will_52 : decode cX7_will 52 = .ok (.getfield 24, 3) := by decide +kernel
theorem dX7_will_55 : decode cX7_will 55 = .ok (.getfield 87, 3) := by decide +kernel
theorem dX7_will_58 : decode cX7_will 58 = .ok (.iload_n 1, 1) := by decide +kernel
theorem dX7_will_59 : decode cX7_will 59 = .ok (.aaload, 1) := by decide +kernel
theorem dX7_will_60 : decode cX7_will 60 = .ok (.getfield 105, 3) := by decide +kernel
theorem dX7_will_63 : decode cX7_will 63 = .ok (.astore 6, 2) := by decide +kernel
theorem dX7_will_65 : decode cX7_will 65 = .ok (.aload 6, 2) := by decide +kernel
theorem dX7_will_67 : decode cX7_will 67 = .ok (.invokevirtual 111, 3) := by decide +kernel
theorem dX7_will_70 : decode cX7_will 70 = .ok (.ifCond .eq 7, 3) := by decide +kernel
theorem dX7_will_73 : decode cX7_will 73 = .ok (.iconst 1, 1) := by decide +kernel
theorem dX7_will_74 : decode cX7_will 74 = .ok (.goto 4, 3) := by decide +kernel
theorem dX7_will_77 : decode cX7_will 77 = .ok (.iconst 0, 1) := by decide +kernel
theorem dX7_will_78 : decode cX7_will 78 = .ok (.istore 7, 2) := by decide +kernel
theorem dX7_will_80 : decode cX7_will 80 = .ok (.aload 6, 2) := by decide +kernel
theorem dX7_will_82 : decode cX7_will 82 = .ok (.aload_n 0, 1) := by decide +kernel
theorem dX7_will_83 : decode cX7_will 83 = .ok (.getfield 38, 3) := by decide +kernel
theorem dX7_will_86 : decode cX7_will 86 = .ok (.iload_n 2, 1) := by decide +kernel
theorem dX7_will_87 : decode cX7_will 87 = .ok (.iload_n 3, 1) := by decide +kernel
theorem dX7_will_88 : decode cX7_will 88 = .ok (.iload 4, 2) := by decide +kernel
theorem dX7_will_90 : decode cX7_will 90 = .ok (.iconst 1, 1) := by decide +kernel
theorem dX7_will_91 : decode cX7_will 91 = .ok (.if_icmp .ne 7, 3) := by decide +kernel
theorem dX7_will_94 : decode cX7_will 94 = .ok (.iconst 1, 1) := by decide +kernel
theorem dX7_will_95 : decode cX7_will 95 = .ok (.goto 4, 3) := by decide +kernel
theorem dX7_will_98 : decode cX7_will 98 = .ok (.iconst 0, 1) := by decide +kernel
theorem dX7_will_99 : decode cX7_will 99 = .ok (.iload 5, 2) := by decide +kernel
theorem dX7_will_101 : decode cX7_will 101 = .ok (.invokevirtual 117, 3) := by decide +kernel
theorem dX7_will_104 : decode cX7_will 104 = .ok (.iload 7, 2) := by decide +kernel
theorem dX7_will_106 : decode cX7_will 106 = .ok (.ireturn, 1) := by decide +kernel
theorem dX7_subscribe_0 : decode cX7_subscribe 0 = .ok (.iload_n 1, 1) := by decide +kernel
theorem dX7_subscribe_1 : decode cX7_subscribe 1 = .ok (.invokestatic 81, 3) := by decide +kernel
theorem dX7_subscribe_4 : decode cX7_subscribe 4 = .ok (.ifCond .ne 21, 3) := by decide +kernel
theorem dX7_subscribe_7 : decode cX7_subscribe 7 = .ok (.iload_n 2, 1) := by decide +kernel
theorem dX7_subscribe_8 : decode cX7_subscribe 8 = .ok (.iconst 0, 1) := by decide +kernel
theorem dX7_subscribe_9 : decode cX7_subscribe 9 = .ok (.iconst 2, 1) := by decide +kernel
theorem dX7_subscribe_10 : decode cX7_subscribe 10 = .ok (.invokestatic 45, 3) := by decide +kernel
theorem dX7_subscribe_13 : decode cX7_subscribe 13 = .ok (.ifCond .ne 12, 3) := by decide +kernel
theorem dX7_subscribe_16 : decode cX7_subscribe 16 = .ok (.iload_n 3, 1) := by decide +kernel
theorem dX7_subscribe_17 : decode cX7_subscribe 17 = .ok (.iconst 0, 1) := by decide +kernel
theorem dX7_subscribe_18 : decode cX7_subscribe 18 = .ok (.iconst 3, 1) := by decide +kernel
theorem dX7_subscribe_19 : decode cX7_subscribe 19 = .ok (.invokestatic 45, 3) := by decide +kernel
theorem dX7_subscribe_22 : decode cX7_subscribe 22 = .ok (.ifCond .eq 5, 3) := by decide +kernel
theorem dX7_subscribe_25 : decode cX7_subscribe 25 = .ok (.iconst (-1), 1) := by decide +kernel
theorem dX7_subscribe_26 : decode cX7_subscribe 26 = .ok (.ireturn, 1) := by decide +kernel
theorem dX7_subscribe_27 : decode cX7_subscribe 27 = .ok (.aload_n 0, 1) := by decide +kernel
theorem dX7_subscribe_28 : decode cX7_subscribe 28 = .ok (.iload_n 1, 1) := by decide +kernel
theorem dX7_subscribe_29 : decode cX7_subscribe 29 = .ok (.invokevirtual 84, 3) := by decide +kernel
theorem dX7_subscribe_32 : decode cX7_subscribe 32 = .ok (.ifCond .eq 10, 3) := by decide +kernel
theorem dX7_subscribe_35 : decode cX7_subscribe 35 = .ok (.aload_n 0, 1) := by decide +kernel
theorem dX7_subscribe_36 : decode cX7_subscribe 36 = .ok (.getfield 38, 3) := by decide +kernel
theorem dX7_subscribe_39 : decode cX7_subscribe 39 = .ok (.ifCond .ne 6, 3) := by decide +kernel
theorem dX7_subscribe_42 : decode cX7_subscribe 42 = .ok (.bipush (-2), 2) := by decide +kernel
theorem dX7_subscribe_44 : decode cX7_subscribe 44 = .ok (.ireturn, 1) := by decide +kernel
theorem dX7_subscribe_45 : decode cX7_subscribe 45 = .ok (.aload_n 0, 1) := by decide +kernel
theorem dX7_subscribe_46 : decode cX7_subscribe 46 = .ok (.getfield 24, 3) := by decide +kernel
theorem dX7_subscribe_49 : decode cX7_subscribe 49 = .ok (.getfield 87, 3) := by decide +kernel
theorem dX7_subscribe_52 : decode cX7_subscribe 52 = .ok (.iload_n 1, 1) := by decide +kernel
theorem dX7_subscribe_53 : decode cX7_subscribe 53 = .ok (.aaload, 1) := by decide +kernel
theorem dX7_subscribe_54 : decode cX7_subscribe 54 = .ok (.astore 4, 2) := by decide +kernel
theorem dX7_subscribe_56 : decode cX7_subscribe 56 = .ok (.aload 4, 2) := by decide +kernel
theorem dX7_subscribe_58 : decode cX7_subscribe 58 = .ok (.aload_n 0, 1) := by decide +kernel
theorem dX7_subscribe_59 : decode cX7_subscribe 59 = .ok (.getfield 38, 3) := by decide +kernel
theorem dX7_subscribe_62 : decode cX7_subscribe 62 = .ok (.iload_n 2, 1) := by decide +kernel
theorem dX7_subscribe_63 : decode cX7_subscribe 63 = .ok (.iload_n 3, 1) := by decide +kernel
theorem dX7_subscribe_64 : decode cX7_subscribe 64 = .ok (.invokevirtual 121, 3) := by decide +kernel
theorem dX7_subscribe_67 : decode cX7_subscribe 67 = .ok (.ifCond .ne 6, 3) := by decide +kernel
theorem dX7_subscribe_70 : decode cX7_subscribe 70 = .ok (.bipush (-3), 2) := by decide +kernel
theorem dX7_subscribe_72 : decode cX7_subscribe 72 = .ok (.ireturn, 1) := by decide +kernel
theorem dX7_subscribe_73 : decode cX7_subscribe 73 = .ok (.iload_n 3, 1) := by decide +kernel
theorem dX7_subscribe_74 : decode cX7_subscribe 74 = .ok (.ifCond .ne 20, 3) := by decide +kernel
theorem dX7_subscribe_77 : decode cX7_subscribe 77 = .ok (.aload_n 0, 1) := by decide +kernel
theorem dX7_subscribe_78 : decode cX7_subscribe 78 = .ok (.getfield 24, 3) := by decide +kernel
theorem dX7_subscribe_81 : decode cX7_subscribe 81 = .ok (.aload 4, 2) := by decide +kernel
theorem dX7_subscribe_83 : decode cX7_subscribe 83 = .ok (.aload_n 0, 1) := by decide +kernel
theorem dX7_subscribe_84 : decode cX7_subscribe 84 = .ok (.getfield 38, 3) := by decide +kernel
theorem dX7_subscribe_87 : decode cX7_subscribe 87 = .ok (.iload_n 2, 1) := by decide +kernel
theorem dX7_subscribe_88 : decode cX7_subscribe 88 = .ok (.invokevirtual 124, 3) := by decide +kernel
theorem dX7_subscribe_91 : decode cX7_subscribe 91 = .ok (.goto 4, 3) := by decide +kernel
theorem dX7_subscribe_94 : decode cX7_subscribe 94 = .ok (.iconst 0, 1) := by decide +kernel
theorem dX7_subscribe_95 : decode cX7_subscribe 95 = .ok (.ireturn, 1) := by decide +kernel
theorem dX7_leave_0 : decode cX7_leave 0 = .ok (.iload_n 1, 1) := by decide +kernel
theorem dX7_leave_1 : decode cX7_leave 1 = .ok (.invokestatic 81, 3) := by decide +kernel
theorem dX7_leave_4 : decode cX7_leave 4 = .ok (.ifCond .ne 12, 3) := by decide +kernel
theorem dX7_leave_7 : decode cX7_leave 7 = .ok (.iload_n 2, 1) := by decide +kernel
theorem dX7_leave_8 : decode cX7_leave 8 = .ok (.iconst 0, 1) := by decide +kernel
theorem dX7_leave_9 : decode cX7_leave 9 = .ok (.iconst 3, 1) := by decide +kernel
theorem dX7_leave_10 : decode cX7_leave 10 = .ok (.invokestatic 45, 3) := by decide +kernel
theorem dX7_leave_13 : decode cX7_leave 13 = .ok (.ifCond .eq 5, 3) := by decide +kernel
theorem dX7_leave_16 : decode cX7_leave 16 = .ok (.iconst (-1), 1) := by decide +kernel
theorem dX7_leave_17 : decode cX7_leave 17 = .ok (.ireturn, 1) := by decide +kernel
theorem dX7_leave_18 : decode cX7_leave 18 = .ok (.aload_n 0, 1) := by decide +kernel
theorem dX7_leave_19 : decode cX7_leave 19 = .ok (.iload_n 1, 1) := by decide +kernel
theorem dX7_leave_20 : decode cX7_leave 20 = .ok (.invokevirtual 84, 3) := by decide +kernel
theorem dX7_leave_23 : decode cX7_leave 23 = .ok (.ifCond .ne 6, 3) := by decide +kernel
theorem dX7_leave_26 : decode cX7_leave 26 = .ok (.bipush (-2), 2) := by decide +kernel
theorem dX7_leave_28 : decode cX7_leave 28 = .ok (.ireturn, 1) := by decide +kernel
theorem dX7_leave_29 : decode cX7_leave 29 = .ok (.aload_n 0, 1) := by decide +kernel
theorem dX7_leave_30 : decode cX7_leave 30 = .ok (.getfield 24, 3) := by decide +kernel
theorem dX7_leave_33 : decode cX7_leave 33 = .ok (.getfield 87, 3) := by decide +kernel
theorem dX7_leave_36 : decode cX7_leave 36 = .ok (.iload_n 1, 1) := by decide +kernel
theorem dX7_leave_37 : decode cX7_leave 37 = .ok (.aaload, 1) := by decide +kernel
theorem dX7_leave_38 : decode cX7_leave 38 = .ok (.astore_n 3, 1) := by decide +kernel
theorem dX7_leave_39 : decode cX7_leave 39 = .ok (.aload_n 3, 1) := by decide +kernel
theorem dX7_leave_40 : decode cX7_leave 40 = .ok (.aload_n 0, 1) := by decide +kernel
theorem dX7_leave_41 : decode cX7_leave 41 = .ok (.getfield 38, 3) := by decide +kernel
theorem dX7_leave_44 : decode cX7_leave 44 = .ok (.iload_n 2, 1) := by decide +kernel
theorem dX7_leave_45 : decode cX7_leave 45 = .ok (.invokevirtual 128, 3) := by decide +kernel
theorem dX7_leave_48 : decode cX7_leave 48 = .ok (.istore 4, 2) := by decide +kernel
theorem dX7_leave_50 : decode cX7_leave 50 = .ok (.iload 4, 2) := by decide +kernel
theorem dX7_leave_52 : decode cX7_leave 52 = .ok (.ifCond .ge 6, 3) := by decide +kernel
theorem dX7_leave_55 : decode cX7_leave 55 = .ok (.bipush (-4), 2) := by decide +kernel
theorem dX7_leave_57 : decode cX7_leave 57 = .ok (.ireturn, 1) := by decide +kernel
theorem dX7_leave_58 : decode cX7_leave 58 = .ok (.aload_n 3, 1) := by decide +kernel
theorem dX7_leave_59 : decode cX7_leave 59 = .ok (.getfield 131, 3) := by decide +kernel
theorem dX7_leave_62 : decode cX7_leave 62 = .ok (.iload 4, 2) := by decide +kernel
theorem dX7_leave_64 : decode cX7_leave 64 = .ok (.invokevirtual 135, 3) := by decide +kernel
theorem dX7_leave_67 : decode cX7_leave 67 = .ok (.aload_n 0, 1) := by decide +kernel
theorem dX7_leave_68 : decode cX7_leave 68 = .ok (.getfield 24, 3) := by decide +kernel
theorem dX7_leave_71 : decode cX7_leave 71 = .ok (.invokevirtual 141, 3) := by decide +kernel
theorem dX7_leave_74 : decode cX7_leave 74 = .ok (.aload_n 3, 1) := by decide +kernel
theorem dX7_leave_75 : decode cX7_leave 75 = .ok (.getfield 131, 3) := by decide +kernel
theorem dX7_leave_78 : decode cX7_leave 78 = .ok (.getfield 144, 3) := by decide +kernel
theorem dX7_leave_81 : decode cX7_leave 81 = .ok (.ireturn, 1) := by decide +kernel
theorem dX7_alias_0 : decode cX7_alias 0 = .ok (.iload_n 1, 1) := by decide +kernel
theorem dX7_alias_1 : decode cX7_alias 1 = .ok (.invokestatic 81, 3) := by decide +kernel
theorem dX7_alias_4 : decode cX7_alias 4 = .ok (.ifCond .ne 12, 3) := by decide +kernel
theorem dX7_alias_7 : decode cX7_alias 7 = .ok (.iload_n 2, 1) := by decide +kernel
theorem dX7_alias_8 : decode cX7_alias 8 = .ok (.iconst 1, 1) := by decide +kernel
theorem dX7_alias_9 : decode cX7_alias 9 = .ok (.iconst 4, 1) := by decide +kernel
theorem dX7_alias_10 : decode cX7_alias 10 = .ok (.invokestatic 45, 3) := by decide +kernel
theorem dX7_alias_13 : decode cX7_alias 13 = .ok (.ifCond .eq 5, 3) := by decide +kernel
theorem dX7_alias_16 : decode cX7_alias 16 = .ok (.iconst (-1), 1) := by decide +kernel
theorem dX7_alias_17 : decode cX7_alias 17 = .ok (.ireturn, 1) := by decide +kernel
theorem dX7_alias_18 : decode cX7_alias 18 = .ok (.aload_n 0, 1) := by decide +kernel
theorem dX7_alias_19 : decode cX7_alias 19 = .ok (.iload_n 1, 1) := by decide +kernel
theorem dX7_alias_20 : decode cX7_alias 20 = .ok (.invokevirtual 84, 3) := by decide +kernel
theorem dX7_alias_23 : decode cX7_alias 23 = .ok (.ifCond .eq 13, 3) := by decide +kernel
theorem dX7_alias_26 : decode cX7_alias 26 = .ok (.aload_n 0, 1) := by decide +kernel
theorem dX7_alias_27 : decode cX7_alias 27 = .ok (.getfield 38, 3) := by decide +kernel
theorem dX7_alias_30 : decode cX7_alias 30 = .ok (.invokestatic 102, 3) := by decide +kernel
theorem dX7_alias_33 : decode cX7_alias 33 = .ok (.ifCond .ne 6, 3) := by decide +kernel
theorem dX7_alias_36 : decode cX7_alias 36 = .ok (.bipush (-2), 2) := by decide +kernel
theorem dX7_alias_38 : decode cX7_alias 38 = .ok (.ireturn, 1) := by decide +kernel
theorem dX7_alias_39 : decode cX7_alias 39 = .ok (.aload_n 0, 1) := by decide +kernel
theorem dX7_alias_40 : decode cX7_alias 40 = .ok (.getfield 24, 3) := by decide +kernel
theorem dX7_alias_43 : decode cX7_alias 43 = .ok (.getfield 87, 3) := by decide +kernel
theorem dX7_alias_46 : decode cX7_alias 46 = .ok (.iload_n 1, 1) := by decide +kernel
theorem dX7_alias_47 : decode cX7_alias 47 = .ok (.aaload, 1) := by decide +kernel
theorem dX7_alias_48 : decode cX7_alias 48 = .ok (.getfield 147, 3) := by decide +kernel
theorem dX7_alias_51 : decode cX7_alias 51 = .ok (.astore_n 3, 1) := by decide +kernel
theorem dX7_alias_52 : decode cX7_alias 52 = .ok (.aload_n 3, 1) := by decide +kernel
theorem dX7_alias_53 : decode cX7_alias 53 = .ok (.iload_n 2, 1) := by decide +kernel
theorem dX7_alias_54 : decode cX7_alias 54 = .ok (.iconst 1, 1) := by decide +kernel
theorem dX7_alias_55 : decode cX7_alias 55 = .ok (.isub, 1) := by decide +kernel
theorem dX7_alias_56 : decode cX7_alias 56 = .ok (.iaload, 1) := by decide +kernel
theorem dX7_alias_57 : decode cX7_alias 57 = .ok (.ifCond .ne 7, 3) := by decide +kernel
theorem dX7_alias_60 : decode cX7_alias 60 = .ok (.iconst 0, 1) := by decide +kernel
theorem dX7_alias_61 : decode cX7_alias 61 = .ok (.goto 4, 3) := by decide +kernel
theorem dX7_alias_64 : decode cX7_alias 64 = .ok (.iconst 1, 1) := by decide +kernel
theorem dX7_alias_65 : decode cX7_alias 65 = .ok (.istore 4, 2) := by decide +kernel
theorem dX7_alias_67 : decode cX7_alias 67 = .ok (.aload_n 3, 1) := by decide +kernel
theorem dX7_alias_68 : decode cX7_alias 68 = .ok (.iload_n 2, 1) := by decide +kernel
theorem dX7_alias_69 : decode cX7_alias 69 = .ok (.iconst 1, 1) := by decide +kernel
theorem dX7_alias_70 : decode cX7_alias 70 = .ok (.isub, 1) := by decide +kernel
theorem dX7_alias_71 : decode cX7_alias 71 = .ok (.aload_n 0, 1) := by decide +kernel
theorem dX7_alias_72 : decode cX7_alias 72 = .ok (.getfield 38, 3) := by decide +kernel
theorem dX7_alias_75 : decode cX7_alias 75 = .ok (.iastore, 1) := by decide +kernel
theorem dX7_alias_76 : decode cX7_alias 76 = .ok (.iload 4, 2) := by decide +kernel
theorem dX7_alias_78 : decode cX7_alias 78 = .ok (.ireturn, 1) := by decide +kernel
theorem dX7_say_0 : decode cX7_say 0 = .ok (.iload_n 1, 1) := by decide +kernel
theorem dX7_say_1 : decode cX7_say 1 = .ok (.invokestatic 81, 3) := by decide +kernel
theorem dX7_say_4 : decode cX7_say 4 = .ok (.ifCond .ne 23, 3) := by decide +kernel
theorem dX7_say_7 : decode cX7_say 7 = .ok (.iload_n 2, 1) := by decide +kernel
theorem dX7_say_8 : decode cX7_say 8 = .ok (.iconst 0, 1) := by decide +kernel
theorem dX7_say_9 : decode cX7_say 9 = .ok (.iconst 4, 1) := by decide +kernel
theorem dX7_say_10 : decode cX7_say 10 = .ok (.invokestatic 45, 3) := by decide +kernel
theorem dX7_say_13 : decode cX7_say 13 = .ok (.ifCond .ne 14, 3) := by decide +kernel
theorem dX7_say_16 : decode cX7_say 16 = .ok (.iload_n 3, 1) := by decide +kernel
theorem dX7_say_17 : decode cX7_say 17 = .ok (.iload 4, 2) := by decide +kernel
theorem dX7_say_19 : decode cX7_say 19 = .ok (.iload 5, 2) := by decide +kernel
theorem dX7_say_21 : decode cX7_say 21 = .ok (.invokestatic 99, 3) := by decide +kernel
theorem dX7_say_24 : decode cX7_say 24 = .ok (.ifCond .eq 5, 3) := by decide +kernel
theorem dX7_say_27 : decode cX7_say 27 = .ok (.iconst (-1), 1) := by decide +kernel
theorem dX7_say_28 : decode cX7_say 28 = .ok (.ireturn, 1) := by decide +kernel
theorem dX7_say_29 : decode cX7_say 29 = .ok (.iload_n 2, 1) := by decide +kernel
theorem dX7_say_30 : decode cX7_say 30 = .ok (.ifCond .ne 10, 3) := by decide +kernel
theorem dX7_say_33 : decode cX7_say 33 = .ok (.aload_n 0, 1) := by decide +kernel
theorem dX7_say_34 : decode cX7_say 34 = .ok (.getfield 38, 3) := by decide +kernel
theorem dX7_say_37 : decode cX7_say 37 = .ok (.goto 19, 3) := by decide +kernel
theorem dX7_say_40 : decode cX7_say 40 = .ok (.aload_n 0, 1) := by decide +kernel
theorem dX7_say_41 : decode cX7_say 41 = .ok (.getfield 24, 3) := by decide +kernel
theorem dX7_say_44 : decode cX7_say 44 = .ok (.getfield 87, 3) := by decide +kernel
theorem dX7_say_47 : decode cX7_say 47 = .ok (.iload_n 1, 1) := by decide +kernel
theorem dX7_say_48 : decode cX7_say 48 = .ok (.aaload, 1) := by decide +kernel
theorem dX7_say_49 : decode cX7_say 49 = .ok (.getfield 147, 3) := by decide +kernel
theorem dX7_say_52 : decode cX7_say 52 = .ok (.iload_n 2, 1) := by decide +kernel
theorem dX7_say_53 : decode cX7_say 53 = .ok (.iconst 1, 1) := by decide +kernel
theorem dX7_say_54 : decode cX7_say 54 = .ok (.isub, 1) := by decide +kernel
theorem dX7_say_55 : decode cX7_say 55 = .ok (.iaload, 1) := by decide +kernel
theorem dX7_say_56 : decode cX7_say 56 = .ok (.istore 6, 2) := by decide +kernel
theorem dX7_say_58 : decode cX7_say 58 = .ok (.aload_n 0, 1) := by decide +kernel
theorem dX7_say_59 : decode cX7_say 59 = .ok (.iload_n 1, 1) := by decide +kernel
theorem dX7_say_60 : decode cX7_say 60 = .ok (.invokevirtual 84, 3) := by decide +kernel
theorem dX7_say_63 : decode cX7_say 63 = .ok (.ifCond .eq 11, 3) := by decide +kernel
theorem dX7_say_66 : decode cX7_say 66 = .ok (.iload 6, 2) := by decide +kernel
theorem dX7_say_68 : decode cX7_say 68 = .ok (.invokestatic 102, 3) := by decide +kernel
theorem dX7_say_71 : decode cX7_say 71 = .ok (.ifCond .ne 6, 3) := by decide +kernel
theorem dX7_say_74 : decode cX7_say 74 = .ok (.bipush (-2), 2) := by decide +kernel
theorem dX7_say_76 : decode cX7_say 76 = .ok (.ireturn, 1) := by decide +kernel
theorem dX7_say_77 : decode cX7_say 77 = .ok (.aload_n 0, 1) := by decide +kernel
theorem dX7_say_78 : decode cX7_say 78 = .ok (.getfield 24, 3) := by decide +kernel
theorem dX7_say_81 : decode cX7_say 81 = .ok (.iload 6, 2) := by decide +kernel
theorem dX7_say_83 : decode cX7_say 83 = .ok (.iload_n 3, 1) := by decide +kernel
theorem dX7_say_84 : decode cX7_say 84 = .ok (.iload 4, 2) := by decide +kernel
theorem dX7_say_86 : decode cX7_say 86 = .ok (.iload 5, 2) := by decide +kernel
theorem dX7_say_88 : decode cX7_say 88 = .ok (.iconst 1, 1) := by decide +kernel
theorem dX7_say_89 : decode cX7_say 89 = .ok (.if_icmp .ne 7, 3) := by decide +kernel
theorem dX7_say_92 : decode cX7_say 92 = .ok (.iconst 1, 1) := by decide +kernel
theorem dX7_say_93 : decode cX7_say 93 = .ok (.goto 4, 3) := by decide +kernel
theorem dX7_say_96 : decode cX7_say 96 = .ok (.iconst 0, 1) := by decide +kernel
theorem dX7_say_97 : decode cX7_say 97 = .ok (.invokevirtual 151, 3) := by decide +kernel
theorem dX7_say_100 : decode cX7_say 100 = .ok (.ireturn, 1) := by decide +kernel
theorem dX7_carry_0 : decode cX7_carry 0 = .ok (.iload_n 1, 1) := by decide +kernel
theorem dX7_carry_1 : decode cX7_carry 1 = .ok (.invokestatic 81, 3) := by decide +kernel
theorem dX7_carry_4 : decode cX7_carry 4 = .ok (.ifCond .ne 21, 3) := by decide +kernel
theorem dX7_carry_7 : decode cX7_carry 7 = .ok (.iload_n 2, 1) := by decide +kernel
theorem dX7_carry_8 : decode cX7_carry 8 = .ok (.iconst 0, 1) := by decide +kernel
theorem dX7_carry_9 : decode cX7_carry 9 = .ok (.iconst 1, 1) := by decide +kernel
theorem dX7_carry_10 : decode cX7_carry 10 = .ok (.invokestatic 45, 3) := by decide +kernel
theorem dX7_carry_13 : decode cX7_carry 13 = .ok (.ifCond .ne 12, 3) := by decide +kernel
theorem dX7_carry_16 : decode cX7_carry 16 = .ok (.iload_n 3, 1) := by decide +kernel
theorem dX7_carry_17 : decode cX7_carry 17 = .ok (.iconst 0, 1) := by decide +kernel
theorem dX7_carry_18 : decode cX7_carry 18 = .ok (.iconst 2, 1) := by decide +kernel
theorem dX7_carry_19 : decode cX7_carry 19 = .ok (.invokestatic 45, 3) := by decide +kernel
theorem dX7_carry_22 : decode cX7_carry 22 = .ok (.ifCond .eq 5, 3) := by decide +kernel
theorem dX7_carry_25 : decode cX7_carry 25 = .ok (.iconst (-1), 1) := by decide +kernel
theorem dX7_carry_26 : decode cX7_carry 26 = .ok (.ireturn, 1) := by decide +kernel
theorem dX7_carry_27 : decode cX7_carry 27 = .ok (.aload_n 0, 1) := by decide +kernel
theorem dX7_carry_28 : decode cX7_carry 28 = .ok (.iload_n 1, 1) := by decide +kernel
theorem dX7_carry_29 : decode cX7_carry 29 = .ok (.invokevirtual 84, 3) := by decide +kernel
theorem dX7_carry_32 : decode cX7_carry 32 = .ok (.ifCond .ne 6, 3) := by decide +kernel
theorem dX7_carry_35 : decode cX7_carry 35 = .ok (.bipush (-2), 2) := by decide +kernel
theorem dX7_carry_37 : decode cX7_carry 37 = .ok (.ireturn, 1) := by decide +kernel
theorem dX7_carry_38 : decode cX7_carry 38 = .ok (.aload_n 0, 1) := by decide +kernel
theorem dX7_carry_39 : decode cX7_carry 39 = .ok (.getfield 24, 3) := by decide +kernel
theorem dX7_carry_42 : decode cX7_carry 42 = .ok (.getfield 87, 3) := by decide +kernel
theorem dX7_carry_45 : decode cX7_carry 45 = .ok (.iload_n 1, 1) := by decide +kernel
theorem dX7_carry_46 : decode cX7_carry 46 = .ok (.aaload, 1) := by decide +kernel
theorem dX7_carry_47 : decode cX7_carry 47 = .ok (.astore 4, 2) := by decide +kernel
theorem dX7_carry_49 : decode cX7_carry 49 = .ok (.aload 4, 2) := by decide +kernel
theorem dX7_carry_51 : decode cX7_carry 51 = .ok (.iload_n 2, 1) := by decide +kernel
theorem dX7_carry_52 : decode cX7_carry 52 = .ok (.invokevirtual 155, 3) := by decide +kernel
theorem dX7_carry_55 : decode cX7_carry 55 = .ok (.astore 5, 2) := by decide +kernel
theorem dX7_carry_57 : decode cX7_carry 57 = .ok (.aload 5, 2) := by decide +kernel
theorem dX7_carry_59 : decode cX7_carry 59 = .ok (.getfield 144, 3) := by decide +kernel
theorem dX7_carry_62 : decode cX7_carry 62 = .ok (.ifCond .ne 6, 3) := by decide +kernel
theorem dX7_carry_65 : decode cX7_carry 65 = .ok (.bipush (-4), 2) := by decide +kernel
theorem dX7_carry_67 : decode cX7_carry 67 = .ok (.ireturn, 1) := by decide +kernel
theorem dX7_carry_68 : decode cX7_carry 68 = .ok (.aload 5, 2) := by decide +kernel
theorem dX7_carry_70 : decode cX7_carry 70 = .ok (.iconst 0, 1) := by decide +kernel
theorem dX7_carry_71 : decode cX7_carry 71 = .ok (.iconst 0, 1) := by decide +kernel
theorem dX7_carry_72 : decode cX7_carry 72 = .ok (.invokevirtual 159, 3) := by decide +kernel
theorem dX7_carry_75 : decode cX7_carry 75 = .ok (.istore 6, 2) := by decide +kernel
theorem dX7_carry_77 : decode cX7_carry 77 = .ok (.iload_n 3, 1) := by decide +kernel
theorem dX7_carry_78 : decode cX7_carry 78 = .ok (.iconst 1, 1) := by decide +kernel
theorem dX7_carry_79 : decode cX7_carry 79 = .ok (.if_icmp .eq 9, 3) := by decide +kernel
theorem dX7_carry_82 : decode cX7_carry 82 = .ok (.aload 4, 2) := by decide +kernel
theorem dX7_carry_84 : decode cX7_carry 84 = .ok (.iload_n 2, 1) := by decide +kernel
theorem dX7_carry_85 : decode cX7_carry 85 = .ok (.invokevirtual 162, 3) := by decide +kernel
theorem dX7_carry_88 : decode cX7_carry 88 = .ok (.iload_n 3, 1) := by decide +kernel
theorem dX7_carry_89 : decode cX7_carry 89 = .ok (.iconst 2, 1) := by decide +kernel
theorem dX7_carry_90 : decode cX7_carry 90 = .ok (.if_icmp .eq 9, 3) := by decide +kernel
theorem dX7_carry_93 : decode cX7_carry 93 = .ok (.aload 5, 2) := by decide +kernel
theorem dX7_carry_95 : decode cX7_carry 95 = .ok (.iconst 0, 1) := by decide +kernel
theorem dX7_carry_96 : decode cX7_carry 96 = .ok (.invokevirtual 135, 3) := by decide +kernel
theorem dX7_carry_99 : decode cX7_carry 99 = .ok (.iload 6, 2) := by decide +kernel
theorem dX7_carry_101 : decode cX7_carry 101 = .ok (.ireturn, 1) := by decide +kernel
theorem dX7_again_0 : decode cX7_again 0 = .ok (.iload_n 1, 1) := by decide +kernel
theorem dX7_again_1 : decode cX7_again 1 = .ok (.invokestatic 81, 3) := by decide +kernel
theorem dX7_again_4 : decode cX7_again 4 = .ok (.ifCond .eq 5, 3) := by decide +kernel
theorem dX7_again_7 : decode cX7_again 7 = .ok (.iconst (-1), 1) := by decide +kernel
theorem dX7_again_8 : decode cX7_again 8 = .ok (.ireturn, 1) := by decide +kernel
theorem dX7_again_9 : decode cX7_again 9 = .ok (.aload_n 0, 1) := by decide +kernel
theorem dX7_again_10 : decode cX7_again 10 = .ok (.iload_n 1, 1) := by decide +kernel
theorem dX7_again_11 : decode cX7_again 11 = .ok (.invokevirtual 84, 3) := by decide +kernel
theorem dX7_again_14 : decode cX7_again 14 = .ok (.ifCond .ne 6, 3) := by decide +kernel
theorem dX7_again_17 : decode cX7_again 17 = .ok (.bipush (-2), 2) := by decide +kernel
theorem dX7_again_19 : decode cX7_again 19 = .ok (.ireturn, 1) := by decide +kernel
theorem dX7_again_20 : decode cX7_again 20 = .ok (.aload_n 0, 1) := by decide +kernel
theorem dX7_again_21 : decode cX7_again 21 = .ok (.getfield 24, 3) := by decide +kernel
theorem dX7_again_24 : decode cX7_again 24 = .ok (.getfield 87, 3) := by decide +kernel
theorem dX7_again_27 : decode cX7_again 27 = .ok (.iload_n 1, 1) := by decide +kernel
theorem dX7_again_28 : decode cX7_again 28 = .ok (.aaload, 1) := by decide +kernel
theorem dX7_again_29 : decode cX7_again 29 = .ok (.invokevirtual 165, 3) := by decide +kernel
theorem dX7_again_32 : decode cX7_again 32 = .ok (.ireturn, 1) := by decide +kernel
theorem dX7_tick_0 : decode cX7_tick 0 = .ok (.iload_n 1, 1) := by decide +kernel
theorem dX7_tick_1 : decode cX7_tick 1 = .ok (.iconst 1, 1) := by decide +kernel
theorem dX7_tick_2 : decode cX7_tick 2 = .ok (.bipush 50, 2) := by decide +kernel
theorem dX7_tick_4 : decode cX7_tick 4 = .ok (.invokestatic 45, 3) := by decide +kernel
theorem dX7_tick_7 : decode cX7_tick 7 = .ok (.ifCond .eq 5, 3) := by decide +kernel
theorem dX7_tick_10 : decode cX7_tick 10 = .ok (.iconst (-1), 1) := by decide +kernel
theorem dX7_tick_11 : decode cX7_tick 11 = .ok (.ireturn, 1) := by decide +kernel
theorem dX7_tick_12 : decode cX7_tick 12 = .ok (.iconst 0, 1) := by decide +kernel
theorem dX7_tick_13 : decode cX7_tick 13 = .ok (.istore_n 2, 1) := by decide +kernel
theorem dX7_tick_14 : decode cX7_tick 14 = .ok (.iconst 0, 1) := by decide +kernel
theorem dX7_tick_15 : decode cX7_tick 15 = .ok (.istore_n 3, 1) := by decide +kernel
theorem dX7_tick_16 : decode cX7_tick 16 = .ok (.iload_n 3, 1) := by decide +kernel
theorem dX7_tick_17 : decode cX7_tick 17 = .ok (.iload_n 1, 1) := by decide +kernel
theorem dX7_tick_18 : decode cX7_tick 18 = .ok (.if_icmp .ge 19, 3) := by decide +kernel
theorem dX7_tick_21 : decode cX7_tick 21 = .ok (.iload_n 2, 1) := by decide +kernel
theorem dX7_tick_22 : decode cX7_tick 22 = .ok (.aload_n 0, 1) := by decide +kernel
theorem dX7_tick_23 : decode cX7_tick 23 = .ok (.getfield 24, 3) := by decide +kernel
theorem dX7_tick_26 : decode cX7_tick 26 = .ok (.invokevirtual 168, 3) := by decide +kernel
theorem dX7_tick_29 : decode cX7_tick 29 = .ok (.iadd, 1) := by decide +kernel
theorem dX7_tick_30 : decode cX7_tick 30 = .ok (.istore_n 2, 1) := by decide +kernel
theorem dX7_tick_31 : decode cX7_tick 31 = .ok (.iinc 3 1, 3) := by decide +kernel
theorem dX7_tick_34 : decode cX7_tick 34 = .ok (.goto (-18), 3) := by decide +kernel
theorem dX7_tick_37 : decode cX7_tick 37 = .ok (.iload_n 2, 1) := by decide +kernel
theorem dX7_tick_38 : decode cX7_tick 38 = .ok (.ireturn, 1) := by decide +kernel
theorem dX7_rule_0 : decode cX7_rule 0 = .ok (.iload_n 1, 1) := by decide +kernel
theorem dX7_rule_1 : decode cX7_rule 1 = .ok (.tableswitch 124 0 10 #[59, 67, 75, 75, 75, 75, 84, 95, 103, 111, 119], 59) := by decide +kernel
theorem dX7_rule_60 : decode cX7_rule 60 = .ok (.aload_n 0, 1) := by decide +kernel
theorem dX7_rule_61 : decode cX7_rule 61 = .ok (.getfield 24, 3) := by decide +kernel
theorem dX7_rule_64 : decode cX7_rule 64 = .ok (.getfield 171, 3) := by decide +kernel
theorem dX7_rule_67 : decode cX7_rule 67 = .ok (.ireturn, 1) := by decide +kernel
theorem dX7_rule_68 : decode cX7_rule 68 = .ok (.aload_n 0, 1) := by decide +kernel
theorem dX7_rule_69 : decode cX7_rule 69 = .ok (.getfield 24, 3) := by decide +kernel
theorem dX7_rule_72 : decode cX7_rule 72 = .ok (.getfield 174, 3) := by decide +kernel
theorem dX7_rule_75 : decode cX7_rule 75 = .ok (.ireturn, 1) := by decide +kernel
theorem dX7_rule_76 : decode cX7_rule 76 = .ok (.aload_n 0, 1) := by decide +kernel
theorem dX7_rule_77 : decode cX7_rule 77 = .ok (.getfield 24, 3) := by decide +kernel
theorem dX7_rule_80 : decode cX7_rule 80 = .ok (.iload_n 1, 1) := by decide +kernel
theorem dX7_rule_81 : decode cX7_rule 81 = .ok (.invokevirtual 177, 3) := by decide +kernel
theorem dX7_rule_84 : decode cX7_rule 84 = .ok (.ireturn, 1) := by decide +kernel
theorem dX7_rule_85 : decode cX7_rule 85 = .ok (.aload_n 0, 1) := by decide +kernel
theorem dX7_rule_86 : decode cX7_rule 86 = .ok (.getfield 24, 3) := by decide +kernel
theorem dX7_rule_89 : decode cX7_rule 89 = .ok (.getfield 180, 3) := by decide +kernel
theorem dX7_rule_92 : decode cX7_rule 92 = .ok (.getfield 144, 3) := by decide +kernel
theorem dX7_rule_95 : decode cX7_rule 95 = .ok (.ireturn, 1) := by decide +kernel
theorem dX7_rule_96 : decode cX7_rule 96 = .ok (.aload_n 0, 1) := by decide +kernel
theorem dX7_rule_97 : decode cX7_rule 97 = .ok (.getfield 24, 3) := by decide +kernel
theorem dX7_rule_100 : decode cX7_rule 100 = .ok (.invokevirtual 183, 3) := by decide +kernel
theorem dX7_rule_103 : decode cX7_rule 103 = .ok (.ireturn, 1) := by decide +kernel
theorem dX7_rule_104 : decode cX7_rule 104 = .ok (.aload_n 0, 1) := by decide +kernel
theorem dX7_rule_105 : decode cX7_rule 105 = .ok (.getfield 38, 3) := by decide +kernel
theorem dX7_rule_108 : decode cX7_rule 108 = .ok (.invokestatic 73, 3) := by decide +kernel
theorem dX7_rule_111 : decode cX7_rule 111 = .ok (.ireturn, 1) := by decide +kernel
theorem dX7_rule_112 : decode cX7_rule 112 = .ok (.aload_n 0, 1) := by decide +kernel
theorem dX7_rule_113 : decode cX7_rule 113 = .ok (.getfield 20, 3) := by decide +kernel
theorem dX7_rule_116 : decode cX7_rule 116 = .ok (.getfield 55, 3) := by decide +kernel
theorem dX7_rule_119 : decode cX7_rule 119 = .ok (.ireturn, 1) := by decide +kernel
theorem dX7_rule_120 : decode cX7_rule 120 = .ok (.aload_n 0, 1) := by decide +kernel
theorem dX7_rule_121 : decode cX7_rule 121 = .ok (.invokevirtual 186, 3) := by decide +kernel
theorem dX7_rule_124 : decode cX7_rule 124 = .ok (.ireturn, 1) := by decide +kernel
theorem dX7_rule_125 : decode cX7_rule 125 = .ok (.iconst (-1), 1) := by decide +kernel
theorem dX7_rule_126 : decode cX7_rule 126 = .ok (.ireturn, 1) := by decide +kernel
theorem dX7_client_0 : decode cX7_client 0 = .ok (.iload_n 1, 1) := by decide +kernel
theorem dX7_client_1 : decode cX7_client 1 = .ok (.invokestatic 81, 3) := by decide +kernel
theorem dX7_client_4 : decode cX7_client 4 = .ok (.ifCond .ne 13, 3) := by decide +kernel
theorem dX7_client_7 : decode cX7_client 7 = .ok (.iload_n 2, 1) := by decide +kernel
theorem dX7_client_8 : decode cX7_client 8 = .ok (.iconst 0, 1) := by decide +kernel
theorem dX7_client_9 : decode cX7_client 9 = .ok (.bipush 12, 2) := by decide +kernel
theorem dX7_client_11 : decode cX7_client 11 = .ok (.invokestatic 45, 3) := by decide +kernel
theorem dX7_client_14 : decode cX7_client 14 = .ok (.ifCond .eq 5, 3) := by decide +kernel
theorem dX7_client_17 : decode cX7_client 17 = .ok (.iconst (-1), 1) := by decide +kernel
theorem dX7_client_18 : decode cX7_client 18 = .ok (.ireturn, 1) := by decide +kernel
theorem dX7_client_19 : decode cX7_client 19 = .ok (.aload_n 0, 1) := by decide +kernel
theorem dX7_client_20 : decode cX7_client 20 = .ok (.getfield 24, 3) := by decide +kernel
theorem dX7_client_23 : decode cX7_client 23 = .ok (.getfield 87, 3) := by decide +kernel
theorem dX7_client_26 : decode cX7_client 26 = .ok (.iload_n 1, 1) := by decide +kernel
theorem dX7_client_27 : decode cX7_client 27 = .ok (.aaload, 1) := by decide +kernel
theorem dX7_client_28 : decode cX7_client 28 = .ok (.astore_n 3, 1) := by decide +kernel
theorem dX7_client_29 : decode cX7_client 29 = .ok (.iload_n 2, 1) := by decide +kernel
theorem dX7_client_30 : decode cX7_client 30 = .ok (.lookupswitch 52 #[(0, 34), (11, 39), (12, 47)], 34) := by decide +kernel
theorem dX7_client_64 : decode cX7_client 64 = .ok (.aload_n 3, 1) := by decide +kernel
theorem dX7_client_65 : decode cX7_client 65 = .ok (.getfield 189, 3) := by decide +kernel
theorem dX7_client_68 : decode cX7_client 68 = .ok (.ireturn, 1) := by decide +kernel
theorem dX7_client_69 : decode cX7_client 69 = .ok (.aload_n 3, 1) := by decide +kernel
theorem dX7_client_70 : decode cX7_client 70 = .ok (.getfield 105, 3) := by decide +kernel
theorem dX7_client_73 : decode cX7_client 73 = .ok (.invokevirtual 192, 3) := by decide +kernel
theorem dX7_client_76 : decode cX7_client 76 = .ok (.ireturn, 1) := by decide +kernel
theorem dX7_client_77 : decode cX7_client 77 = .ok (.aload_n 3, 1) := by decide +kernel
theorem dX7_client_78 : decode cX7_client 78 = .ok (.getfield 195, 3) := by decide +kernel
theorem dX7_client_81 : decode cX7_client 81 = .ok (.ireturn, 1) := by decide +kernel
theorem dX7_client_82 : decode cX7_client 82 = .ok (.aload_n 3, 1) := by decide +kernel
theorem dX7_client_83 : decode cX7_client 83 = .ok (.getfield 189, 3) := by decide +kernel
theorem dX7_client_86 : decode cX7_client 86 = .ok (.ifCond .ne 8, 3) := by decide +kernel
theorem dX7_client_89 : decode cX7_client 89 = .ok (.bipush (-4), 2) := by decide +kernel
theorem dX7_client_91 : decode cX7_client 91 = .ok (.goto 8, 3) := by decide +kernel
theorem dX7_client_94 : decode cX7_client 94 = .ok (.aload_n 3, 1) := by decide +kernel
theorem dX7_client_95 : decode cX7_client 95 = .ok (.iload_n 2, 1) := by decide +kernel
theorem dX7_client_96 : decode cX7_client 96 = .ok (.invokevirtual 198, 3) := by decide +kernel
theorem dX7_client_99 : decode cX7_client 99 = .ok (.ireturn, 1) := by decide +kernel
theorem dX7_subscription_0 : decode cX7_subscription 0 = .ok (.iload_n 1, 1) := by decide +kernel
theorem dX7_subscription_1 : decode cX7_subscription 1 = .ok (.invokestatic 81, 3) := by decide +kernel
theorem dX7_subscription_4 : decode cX7_subscription 4 = .ok (.ifCond .ne 17, 3) := by decide +kernel
theorem dX7_subscription_7 : decode cX7_subscription 7 = .ok (.iload_n 2, 1) := by decide +kernel
theorem dX7_subscription_8 : decode cX7_subscription 8 = .ok (.ifCond .lt 13, 3) := by decide +kernel
theorem dX7_subscription_11 : decode cX7_subscription 11 = .ok (.iload_n 3, 1) := by decide +kernel
theorem dX7_subscription_12 : decode cX7_subscription 12 = .ok (.iconst 0, 1) := by decide +kernel
theorem dX7_subscription_13 : decode cX7_subscription 13 = .ok (.bipush 7, 2) := by decide +kernel
theorem dX7_subscription_15 : decode cX7_subscription 15 = .ok (.invokestatic 45, 3) := by decide +kernel
theorem dX7_subscription_18 : decode cX7_subscription 18 = .ok (.ifCond .eq 5, 3) := by decide +kernel
theorem dX7_subscription_21 : decode cX7_subscription 21 = .ok (.iconst (-1), 1) := by decide +kernel
theorem dX7_subscription_22 : decode cX7_subscription 22 = .ok (.ireturn, 1) := by decide +kernel
theorem dX7_subscription_23 : decode cX7_subscription 23 = .ok (.aload_n 0, 1) := by decide +kernel
theorem dX7_subscription_24 : decode cX7_subscription 24 = .ok (.getfield 24, 3) := by decide +kernel
theorem dX7_subscription_27 : decode cX7_subscription 27 = .ok (.getfield 87, 3) := by decide +kernel
theorem dX7_subscription_30 : decode cX7_subscription 30 = .ok (.iload_n 1, 1) := by decide +kernel
theorem dX7_subscription_31 : decode cX7_subscription 31 = .ok (.aaload, 1) := by decide +kernel
theorem dX7_subscription_32 : decode cX7_subscription 32 = .ok (.getfield 131, 3) := by decide +kernel
theorem dX7_subscription_35 : decode cX7_subscription 35 = .ok (.astore 4, 2) := by decide +kernel
theorem dX7_subscription_37 : decode cX7_subscription 37 = .ok (.iload_n 2, 1) := by decide +kernel
theorem dX7_subscription_38 : decode cX7_subscription 38 = .ok (.aload 4, 2) := by decide +kernel
theorem dX7_subscription_40 : decode cX7_subscription 40 = .ok (.getfield 144, 3) := by decide +kernel
theorem dX7_subscription_43 : decode cX7_subscription 43 = .ok (.if_icmp .lt 6, 3) := by decide +kernel
theorem dX7_subscription_46 : decode cX7_subscription 46 = .ok (.bipush (-4), 2) := by decide +kernel
theorem dX7_subscription_48 : decode cX7_subscription 48 = .ok (.ireturn, 1) := by decide +kernel
theorem dX7_subscription_49 : decode cX7_subscription 49 = .ok (.aload 4, 2) := by decide +kernel
theorem dX7_subscription_51 : decode cX7_subscription 51 = .ok (.iload_n 2, 1) := by decide +kernel
theorem dX7_subscription_52 : decode cX7_subscription 52 = .ok (.iconst 0, 1) := by decide +kernel
theorem dX7_subscription_53 : decode cX7_subscription 53 = .ok (.invokevirtual 159, 3) := by decide +kernel
theorem dX7_subscription_56 : decode cX7_subscription 56 = .ok (.istore 5, 2) := by decide +kernel
theorem dX7_subscription_58 : decode cX7_subscription 58 = .ok (.iload_n 3, 1) := by decide +kernel
theorem dX7_subscription_59 : decode cX7_subscription 59 = .ok (.iconst 3, 1) := by decide +kernel
theorem dX7_subscription_60 : decode cX7_subscription 60 = .ok (.if_icmp .ne 31, 3) := by decide +kernel
theorem dX7_subscription_63 : decode cX7_subscription 63 = .ok (.aload_n 0, 1) := by decide +kernel
theorem dX7_subscription_64 : decode cX7_subscription 64 = .ok (.getfield 38, 3) := by decide +kernel
theorem dX7_subscription_67 : decode cX7_subscription 67 = .ok (.invokestatic 102, 3) := by decide +kernel
theorem dX7_subscription_70 : decode cX7_subscription 70 = .ok (.ifCond .eq 18, 3) := by decide +kernel
theorem dX7_subscription_73 : decode cX7_subscription 73 = .ok (.iload 5, 2) := by decide +kernel
theorem dX7_subscription_75 : decode cX7_subscription 75 = .ok (.aload_n 0, 1) := by decide +kernel
theorem dX7_subscription_76 : decode cX7_subscription 76 = .ok (.getfield 38, 3) := by decide +kernel
theorem dX7_subscription_79 : decode cX7_subscription 79 = .ok (.invokestatic 201, 3) := by decide +kernel
theorem dX7_subscription_82 : decode cX7_subscription 82 = .ok (.invokestatic 205, 3) := by decide +kernel
theorem dX7_subscription_85 : decode cX7_subscription 85 = .ok (.goto 5, 3) := by decide +kernel
theorem dX7_subscription_88 : decode cX7_subscription 88 = .ok (.bipush (-4), 2) := by decide +kernel
theorem dX7_subscription_90 : decode cX7_subscription 90 = .ok (.ireturn, 1) := by decide +kernel
theorem dX7_subscription_91 : decode cX7_subscription 91 = .ok (.iload_n 3, 1) := by decide +kernel
theorem dX7_subscription_92 : decode cX7_subscription 92 = .ok (.ifCond .eq 8, 3) := by decide +kernel
theorem dX7_subscription_95 : decode cX7_subscription 95 = .ok (.iload_n 3, 1) := by decide +kernel
theorem dX7_subscription_96 : decode cX7_subscription 96 = .ok (.iconst 3, 1) := by decide +kernel
theorem dX7_subscription_97 : decode cX7_subscription 97 = .ok (.if_icmp .le 12, 3) := by decide +kernel
theorem dX7_subscription_100 : decode cX7_subscription 100 = .ok (.iload 5, 2) := by decide +kernel
theorem dX7_subscription_102 : decode cX7_subscription 102 = .ok (.iload_n 3, 1) := by decide +kernel
theorem dX7_subscription_103 : decode cX7_subscription 103 = .ok (.invokestatic 209, 3) := by decide +kernel
theorem dX7_subscription_106 : decode cX7_subscription 106 = .ok (.goto 10, 3) := by decide +kernel
theorem dX7_subscription_109 : decode cX7_subscription 109 = .ok (.aload 4, 2) := by decide +kernel
theorem dX7_subscription_111 : decode cX7_subscription 111 = .ok (.iload_n 2, 1) := by decide +kernel
theorem dX7_subscription_112 : decode cX7_subscription 112 = .ok (.iload_n 3, 1) := by decide +kernel
theorem dX7_subscription_113 : decode cX7_subscription 113 = .ok (.invokevirtual 159, 3) := by decide +kernel
theorem dX7_subscription_116 : decode cX7_subscription 116 = .ok (.ireturn, 1) := by decide +kernel
theorem dX7_kept_0 : decode cX7_kept 0 = .ok (.iload_n 1, 1) := by decide +kernel
theorem dX7_kept_1 : decode cX7_kept 1 = .ok (.ifCond .lt 13, 3) := by decide +kernel
theorem dX7_kept_4 : decode cX7_kept 4 = .ok (.iload_n 2, 1) := by decide +kernel
theorem dX7_kept_5 : decode cX7_kept 5 = .ok (.iconst 0, 1) := by decide +kernel
theorem dX7_kept_6 : decode cX7_kept 6 = .ok (.bipush 7, 2) := by decide +kernel
theorem dX7_kept_8 : decode cX7_kept 8 = .ok (.invokestatic 45, 3) := by decide +kernel
theorem dX7_kept_11 : decode cX7_kept 11 = .ok (.ifCond .eq 5, 3) := by decide +kernel
theorem dX7_kept_14 : decode cX7_kept 14 = .ok (.iconst (-1), 1) := by decide +kernel
theorem dX7_kept_15 : decode cX7_kept 15 = .ok (.ireturn, 1) := by decide +kernel
theorem dX7_kept_16 : decode cX7_kept 16 = .ok (.iload_n 1, 1) := by decide +kernel
theorem dX7_kept_17 : decode cX7_kept 17 = .ok (.aload_n 0, 1) := by decide +kernel
theorem dX7_kept_18 : decode cX7_kept 18 = .ok (.getfield 24, 3) := by decide +kernel
theorem dX7_kept_21 : decode cX7_kept 21 = .ok (.getfield 180, 3) := by decide +kernel
theorem dX7_kept_24 : decode cX7_kept 24 = .ok (.getfield 144, 3) := by decide +kernel
theorem dX7_kept_27 : decode cX7_kept 27 = .ok (.if_icmp .lt 6, 3) := by decide +kernel
theorem dX7_kept_30 : decode cX7_kept 30 = .ok (.bipush (-4), 2) := by decide +kernel
theorem dX7_kept_32 : decode cX7_kept 32 = .ok (.ireturn, 1) := by decide +kernel
theorem dX7_kept_33 : decode cX7_kept 33 = .ok (.aload_n 0, 1) := by decide +kernel
theorem dX7_kept_34 : decode cX7_kept 34 = .ok (.getfield 24, 3) := by decide +kernel
theorem dX7_kept_37 : decode cX7_kept 37 = .ok (.getfield 180, 3) := by decide +kernel
theorem dX7_kept_40 : decode cX7_kept 40 = .ok (.iload_n 1, 1) := by decide +kernel
theorem dX7_kept_41 : decode cX7_kept 41 = .ok (.iconst 0, 1) := by decide +kernel
theorem dX7_kept_42 : decode cX7_kept 42 = .ok (.invokevirtual 159, 3) := by decide +kernel
theorem dX7_kept_45 : decode cX7_kept 45 = .ok (.istore_n 3, 1) := by decide +kernel
theorem dX7_kept_46 : decode cX7_kept 46 = .ok (.iload_n 2, 1) := by decide +kernel
theorem dX7_kept_47 : decode cX7_kept 47 = .ok (.ifCond .eq 8, 3) := by decide +kernel
theorem dX7_kept_50 : decode cX7_kept 50 = .ok (.iload_n 2, 1) := by decide +kernel
theorem dX7_kept_51 : decode cX7_kept 51 = .ok (.iconst 3, 1) := by decide +kernel
theorem dX7_kept_52 : decode cX7_kept 52 = .ok (.if_icmp .le 11, 3) := by decide +kernel
theorem dX7_kept_55 : decode cX7_kept 55 = .ok (.iload_n 3, 1) := by decide +kernel
theorem dX7_kept_56 : decode cX7_kept 56 = .ok (.iload_n 2, 1) := by decide +kernel
theorem dX7_kept_57 : decode cX7_kept 57 = .ok (.invokestatic 209, 3) := by decide +kernel
theorem dX7_kept_60 : decode cX7_kept 60 = .ok (.goto 15, 3) := by decide +kernel
theorem dX7_kept_63 : decode cX7_kept 63 = .ok (.aload_n 0, 1) := by decide +kernel
theorem dX7_kept_64 : decode cX7_kept 64 = .ok (.getfield 24, 3) := by decide +kernel
theorem dX7_kept_67 : decode cX7_kept 67 = .ok (.getfield 180, 3) := by decide +kernel
theorem dX7_kept_70 : decode cX7_kept 70 = .ok (.iload_n 1, 1) := by decide +kernel
theorem dX7_kept_71 : decode cX7_kept 71 = .ok (.iload_n 2, 1) := by decide +kernel
theorem dX7_kept_72 : decode cX7_kept 72 = .ok (.invokevirtual 159, 3) := by decide +kernel
theorem dX7_kept_75 : decode cX7_kept 75 = .ok (.ireturn, 1) := by decide +kernel
theorem dX7_had_0 : decode cX7_had 0 = .ok (.iload_n 1, 1) := by decide +kernel
theorem dX7_had_1 : decode cX7_had 1 = .ok (.iconst 1, 1) := by decide +kernel
theorem dX7_had_2 : decode cX7_had 2 = .ok (.iconst 3, 1) := by decide +kernel
theorem dX7_had_3 : decode cX7_had 3 = .ok (.invokestatic 45, 3) := by decide +kernel
theorem dX7_had_6 : decode cX7_had 6 = .ok (.ifCond .eq 5, 3) := by decide +kernel
theorem dX7_had_9 : decode cX7_had 9 = .ok (.iconst (-1), 1) := by decide +kernel
theorem dX7_had_10 : decode cX7_had 10 = .ok (.ireturn, 1) := by decide +kernel
theorem dX7_had_11 : decode cX7_had 11 = .ok (.aload_n 0, 1) := by decide +kernel
theorem dX7_had_12 : decode cX7_had 12 = .ok (.getfield 24, 3) := by decide +kernel
theorem dX7_had_15 : decode cX7_had 15 = .ok (.iload_n 1, 1) := by decide +kernel
theorem dX7_had_16 : decode cX7_had 16 = .ok (.aload_n 0, 1) := by decide +kernel
theorem dX7_had_17 : decode cX7_had 17 = .ok (.getfield 38, 3) := by decide +kernel
theorem dX7_had_20 : decode cX7_had 20 = .ok (.invokestatic 212, 3) := by decide +kernel
theorem dX7_had_23 : decode cX7_had 23 = .ok (.invokevirtual 215, 3) := by decide +kernel
theorem dX7_had_26 : decode cX7_had 26 = .ok (.ireturn, 1) := by decide +kernel
theorem dX7_line_0 : decode cX7_line 0 = .ok (.iload_n 1, 1) := by decide +kernel
theorem dX7_line_1 : decode cX7_line 1 = .ok (.invokestatic 81, 3) := by decide +kernel
theorem dX7_line_4 : decode cX7_line 4 = .ok (.ifCond .ne 26, 3) := by decide +kernel
theorem dX7_line_7 : decode cX7_line 7 = .ok (.iload_n 2, 1) := by decide +kernel
theorem dX7_line_8 : decode cX7_line 8 = .ok (.iconst 0, 1) := by decide +kernel
theorem dX7_line_9 : decode cX7_line 9 = .ok (.iconst 1, 1) := by decide +kernel
theorem dX7_line_10 : decode cX7_line 10 = .ok (.invokestatic 45, 3) := by decide +kernel
theorem dX7_line_13 : decode cX7_line 13 = .ok (.ifCond .ne 17, 3) := by decide +kernel
theorem dX7_line_16 : decode cX7_line 16 = .ok (.iload_n 3, 1) := by decide +kernel
theorem dX7_line_17 : decode cX7_line 17 = .ok (.ifCond .lt 13, 3) := by decide +kernel
theorem dX7_line_20 : decode cX7_line 20 = .ok (.iload 4, 2) := by decide +kernel
theorem dX7_line_22 : decode cX7_line 22 = .ok (.iconst 0, 1) := by decide +kernel
theorem dX7_line_23 : decode cX7_line 23 = .ok (.iconst 4, 1) := by decide +kernel
theorem dX7_line_24 : decode cX7_line 24 = .ok (.invokestatic 45, 3) := by decide +kernel
theorem dX7_line_27 : decode cX7_line 27 = .ok (.ifCond .eq 5, 3) := by decide +kernel
theorem dX7_line_30 : decode cX7_line 30 = .ok (.iconst (-1), 1) := by decide +kernel
theorem dX7_line_31 : decode cX7_line 31 = .ok (.ireturn, 1) := by decide +kernel
theorem dX7_line_32 : decode cX7_line 32 = .ok (.aload_n 0, 1) := by decide +kernel
theorem dX7_line_33 : decode cX7_line 33 = .ok (.getfield 24, 3) := by decide +kernel
theorem dX7_line_36 : decode cX7_line 36 = .ok (.getfield 87, 3) := by decide +kernel
theorem dX7_line_39 : decode cX7_line 39 = .ok (.iload_n 1, 1) := by decide +kernel
theorem dX7_line_40 : decode cX7_line 40 = .ok (.aaload, 1) := by decide +kernel
theorem dX7_line_41 : decode cX7_line 41 = .ok (.iload_n 2, 1) := by decide +kernel
theorem dX7_line_42 : decode cX7_line 42 = .ok (.invokevirtual 155, 3) := by decide +kernel
theorem dX7_line_45 : decode cX7_line 45 = .ok (.astore 5, 2) := by decide +kernel
theorem dX7_line_47 : decode cX7_line 47 = .ok (.iload_n 3, 1) := by decide +kernel
theorem dX7_line_48 : decode cX7_line 48 = .ok (.aload 5, 2) := by decide +kernel
theorem dX7_line_50 : decode cX7_line 50 = .ok (.getfield 144, 3) := by decide +kernel
theorem dX7_line_53 : decode cX7_line 53 = .ok (.if_icmp .ge 14, 3) := by decide +kernel
theorem dX7_line_56 : decode cX7_line 56 = .ok (.aload 5, 2) := by decide +kernel
theorem dX7_line_58 : decode cX7_line 58 = .ok (.iload_n 3, 1) := by decide +kernel
theorem dX7_line_59 : decode cX7_line 59 = .ok (.iload 4, 2) := by decide +kernel
theorem dX7_line_61 : decode cX7_line 61 = .ok (.invokevirtual 159, 3) := by decide +kernel
theorem dX7_line_64 : decode cX7_line 64 = .ok (.goto 5, 3) := by decide +kernel
theorem dX7_line_67 : decode cX7_line 67 = .ok (.bipush (-4), 2) := by decide +kernel
theorem dX7_line_69 : decode cX7_line 69 = .ok (.ireturn, 1) := by decide +kernel
theorem dX7_flight_0 : decode cX7_flight 0 = .ok (.iload_n 1, 1) := by decide +kernel
theorem dX7_flight_1 : decode cX7_flight 1 = .ok (.invokestatic 81, 3) := by decide +kernel
theorem dX7_flight_4 : decode cX7_flight 4 = .ok (.ifCond .ne 16, 3) := by decide +kernel
theorem dX7_flight_7 : decode cX7_flight 7 = .ok (.iload_n 2, 1) := by decide +kernel
theorem dX7_flight_8 : decode cX7_flight 8 = .ok (.ifCond .lt 12, 3) := by decide +kernel
theorem dX7_flight_11 : decode cX7_flight 11 = .ok (.iload_n 3, 1) := by decide +kernel
theorem dX7_flight_12 : decode cX7_flight 12 = .ok (.iconst 0, 1) := by decide +kernel
theorem dX7_flight_13 : decode cX7_flight 13 = .ok (.iconst 4, 1) := by decide +kernel
theorem dX7_flight_14 : decode cX7_flight 14 = .ok (.invokestatic 45, 3) := by decide +kernel
theorem dX7_flight_17 : decode cX7_flight 17 = .ok (.ifCond .eq 5, 3) := by decide +kernel
theorem dX7_flight_20 : decode cX7_flight 20 = .ok (.iconst (-1), 1) := by decide +kernel
theorem dX7_flight_21 : decode cX7_flight 21 = .ok (.ireturn, 1) := by decide +kernel
theorem dX7_flight_22 : decode cX7_flight 22 = .ok (.aload_n 0, 1) := by decide +kernel
theorem dX7_flight_23 : decode cX7_flight 23 = .ok (.getfield 24, 3) := by decide +kernel
theorem dX7_flight_26 : decode cX7_flight 26 = .ok (.getfield 87, 3) := by decide +kernel
theorem dX7_flight_29 : decode cX7_flight 29 = .ok (.iload_n 1, 1) := by decide +kernel
theorem dX7_flight_30 : decode cX7_flight 30 = .ok (.aaload, 1) := by decide +kernel
theorem dX7_flight_31 : decode cX7_flight 31 = .ok (.getfield 218, 3) := by decide +kernel
theorem dX7_flight_34 : decode cX7_flight 34 = .ok (.astore 4, 2) := by decide +kernel
theorem dX7_flight_36 : decode cX7_flight 36 = .ok (.iload_n 2, 1) := by decide +kernel
theorem dX7_flight_37 : decode cX7_flight 37 = .ok (.aload 4, 2) := by decide +kernel
theorem dX7_flight_39 : decode cX7_flight 39 = .ok (.getfield 144, 3) := by decide +kernel
theorem dX7_flight_42 : decode cX7_flight 42 = .ok (.if_icmp .ge 13, 3) := by decide +kernel
theorem dX7_flight_45 : decode cX7_flight 45 = .ok (.aload 4, 2) := by decide +kernel
theorem dX7_flight_47 : decode cX7_flight 47 = .ok (.iload_n 2, 1) := by decide +kernel
theorem dX7_flight_48 : decode cX7_flight 48 = .ok (.iload_n 3, 1) := by decide +kernel
theorem dX7_flight_49 : decode cX7_flight 49 = .ok (.invokevirtual 159, 3) := by decide +kernel
theorem dX7_flight_52 : decode cX7_flight 52 = .ok (.goto 5, 3) := by decide +kernel
theorem dX7_flight_55 : decode cX7_flight 55 = .ok (.bipush (-4), 2) := by decide +kernel
theorem dX7_flight_57 : decode cX7_flight 57 = .ok (.ireturn, 1) := by decide +kernel
theorem dX7_took_0 : decode cX7_took 0 = .ok (.iload_n 1, 1) := by decide +kernel
theorem dX7_took_1 : decode cX7_took 1 = .ok (.invokestatic 81, 3) := by decide +kernel
theorem dX7_took_4 : decode cX7_took 4 = .ok (.ifCond .ne 16, 3) := by decide +kernel
theorem dX7_took_7 : decode cX7_took 7 = .ok (.iload_n 2, 1) := by decide +kernel
theorem dX7_took_8 : decode cX7_took 8 = .ok (.ifCond .lt 12, 3) := by decide +kernel
theorem dX7_took_11 : decode cX7_took 11 = .ok (.iload_n 3, 1) := by decide +kernel
theorem dX7_took_12 : decode cX7_took 12 = .ok (.iconst 0, 1) := by decide +kernel
theorem dX7_took_13 : decode cX7_took 13 = .ok (.iconst 3, 1) := by decide +kernel
theorem dX7_took_14 : decode cX7_took 14 = .ok (.invokestatic 45, 3) := by decide +kernel
theorem dX7_took_17 : decode cX7_took 17 = .ok (.ifCond .eq 5, 3) := by decide +kernel
theorem dX7_took_20 : decode cX7_took 20 = .ok (.iconst (-1), 1) := by decide +kernel
theorem dX7_took_21 : decode cX7_took 21 = .ok (.ireturn, 1) := by decide +kernel
theorem dX7_took_22 : decode cX7_took 22 = .ok (.aload_n 0, 1) := by decide +kernel
theorem dX7_took_23 : decode cX7_took 23 = .ok (.getfield 24, 3) := by decide +kernel
theorem dX7_took_26 : decode cX7_took 26 = .ok (.getfield 87, 3) := by decide +kernel
theorem dX7_took_29 : decode cX7_took 29 = .ok (.iload_n 1, 1) := by decide +kernel
theorem dX7_took_30 : decode cX7_took 30 = .ok (.aaload, 1) := by decide +kernel
theorem dX7_took_31 : decode cX7_took 31 = .ok (.getfield 221, 3) := by decide +kernel
theorem dX7_took_34 : decode cX7_took 34 = .ok (.astore 4, 2) := by decide +kernel
theorem dX7_took_36 : decode cX7_took 36 = .ok (.iload_n 2, 1) := by decide +kernel
theorem dX7_took_37 : decode cX7_took 37 = .ok (.aload 4, 2) := by decide +kernel
theorem dX7_took_39 : decode cX7_took 39 = .ok (.getfield 144, 3) := by decide +kernel
theorem dX7_took_42 : decode cX7_took 42 = .ok (.if_icmp .ge 13, 3) := by decide +kernel
theorem dX7_took_45 : decode cX7_took 45 = .ok (.aload 4, 2) := by decide +kernel
theorem dX7_took_47 : decode cX7_took 47 = .ok (.iload_n 2, 1) := by decide +kernel
theorem dX7_took_48 : decode cX7_took 48 = .ok (.iload_n 3, 1) := by decide +kernel
theorem dX7_took_49 : decode cX7_took 49 = .ok (.invokevirtual 159, 3) := by decide +kernel
theorem dX7_took_52 : decode cX7_took 52 = .ok (.goto 5, 3) := by decide +kernel
theorem dX7_took_55 : decode cX7_took 55 = .ok (.bipush (-4), 2) := by decide +kernel
theorem dX7_took_57 : decode cX7_took 57 = .ok (.ireturn, 1) := by decide +kernel
theorem dX7_keep_0 : decode cX7_keep 0 = .ok (.iload_n 1, 1) := by decide +kernel
theorem dX7_keep_1 : decode cX7_keep 1 = .ok (.iconst 0, 1) := by decide +kernel
theorem dX7_keep_2 : decode cX7_keep 2 = .ok (.iconst 1, 1) := by decide +kernel
theorem dX7_keep_3 : decode cX7_keep 3 = .ok (.invokestatic 45, 3) := by decide +kernel
theorem dX7_keep_6 : decode cX7_keep 6 = .ok (.ifCond .eq 5, 3) := by decide +kernel
theorem dX7_keep_9 : decode cX7_keep 9 = .ok (.iconst (-1), 1) := by decide +kernel
theorem dX7_keep_10 : decode cX7_keep 10 = .ok (.ireturn, 1) := by decide +kernel
theorem dX7_keep_11 : decode cX7_keep 11 = .ok (.aload_n 0, 1) := by decide +kernel
theorem dX7_keep_12 : decode cX7_keep 12 = .ok (.getfield 32, 3) := by decide +kernel
theorem dX7_keep_15 : decode cX7_keep 15 = .ok (.iload_n 1, 1) := by decide +kernel
theorem dX7_keep_16 : decode cX7_keep 16 = .ok (.baload, 1) := by decide +kernel
theorem dX7_keep_17 : decode cX7_keep 17 = .ok (.invokestatic 205, 3) := by decide +kernel
theorem dX7_keep_20 : decode cX7_keep 20 = .ok (.istore_n 2, 1) := by decide +kernel
theorem dX7_keep_21 : decode cX7_keep 21 = .ok (.aload_n 0, 1) := by decide +kernel
theorem dX7_keep_22 : decode cX7_keep 22 = .ok (.getfield 28, 3) := by decide +kernel
theorem dX7_keep_25 : decode cX7_keep 25 = .ok (.iload_n 1, 1) := by decide +kernel
theorem dX7_keep_26 : decode cX7_keep 26 = .ok (.aaload, 1) := by decide +kernel
theorem dX7_keep_27 : decode cX7_keep 27 = .ok (.aload_n 0, 1) := by decide +kernel
theorem dX7_keep_28 : decode cX7_keep 28 = .ok (.getfield 24, 3) := by decide +kernel
theorem dX7_keep_31 : decode cX7_keep 31 = .ok (.invokevirtual 66, 3) := by decide +kernel
theorem dX7_keep_34 : decode cX7_keep 34 = .ok (.aload_n 0, 1) := by decide +kernel
theorem dX7_keep_35 : decode cX7_keep 35 = .ok (.getfield 32, 3) := by decide +kernel
theorem dX7_keep_38 : decode cX7_keep 38 = .ok (.iload_n 1, 1) := by decide +kernel
theorem dX7_keep_39 : decode cX7_keep 39 = .ok (.iconst 1, 1) := by decide +kernel
theorem dX7_keep_40 : decode cX7_keep 40 = .ok (.bastore, 1) := by decide +kernel
theorem dX7_keep_41 : decode cX7_keep 41 = .ok (.iload_n 2, 1) := by decide +kernel
theorem dX7_keep_42 : decode cX7_keep 42 = .ok (.ireturn, 1) := by decide +kernel
theorem dX7_back_0 : decode cX7_back 0 = .ok (.iload_n 1, 1) := by decide +kernel
theorem dX7_back_1 : decode cX7_back 1 = .ok (.iconst 0, 1) := by decide +kernel
theorem dX7_back_2 : decode cX7_back 2 = .ok (.iconst 1, 1) := by decide +kernel
theorem dX7_back_3 : decode cX7_back 3 = .ok (.invokestatic 45, 3) := by decide +kernel
theorem dX7_back_6 : decode cX7_back 6 = .ok (.ifCond .eq 5, 3) := by decide +kernel
theorem dX7_back_9 : decode cX7_back 9 = .ok (.iconst (-1), 1) := by decide +kernel
theorem dX7_back_10 : decode cX7_back 10 = .ok (.ireturn, 1) := by decide +kernel
theorem dX7_back_11 : decode cX7_back 11 = .ok (.aload_n 0, 1) := by decide +kernel
theorem dX7_back_12 : decode cX7_back 12 = .ok (.getfield 32, 3) := by decide +kernel
theorem dX7_back_15 : decode cX7_back 15 = .ok (.iload_n 1, 1) := by decide +kernel
theorem dX7_back_16 : decode cX7_back 16 = .ok (.baload, 1) := by decide +kernel
theorem dX7_back_17 : decode cX7_back 17 = .ok (.ifCond .ne 6, 3) := by decide +kernel
theorem dX7_back_20 : decode cX7_back 20 = .ok (.bipush (-2), 2) := by decide +kernel
theorem dX7_back_22 : decode cX7_back 22 = .ok (.ireturn, 1) := by decide +kernel
theorem dX7_back_23 : decode cX7_back 23 = .ok (.aload_n 0, 1) := by decide +kernel
theorem dX7_back_24 : decode cX7_back 24 = .ok (.getfield 24, 3) := by decide +kernel
theorem dX7_back_27 : decode cX7_back 27 = .ok (.aload_n 0, 1) := by decide +kernel
theorem dX7_back_28 : decode cX7_back 28 = .ok (.getfield 28, 3) := by decide +kernel
theorem dX7_back_31 : decode cX7_back 31 = .ok (.iload_n 1, 1) := by decide +kernel
theorem dX7_back_32 : decode cX7_back 32 = .ok (.aaload, 1) := by decide +kernel
theorem dX7_back_33 : decode cX7_back 33 = .ok (.invokevirtual 66, 3) := by decide +kernel
theorem dX7_back_36 : decode cX7_back 36 = .ok (.aload_n 0, 1) := by decide +kernel
theorem dX7_back_37 : decode cX7_back 37 = .ok (.getfield 24, 3) := by decide +kernel
theorem dX7_back_40 : decode cX7_back 40 = .ok (.getfield 171, 3) := by decide +kernel
theorem dX7_back_43 : decode cX7_back 43 = .ok (.ireturn, 1) := by decide +kernel
theorem dX7_outside_0 : decode cX7_outside 0 = .ok (.iload_n 0, 1) := by decide +kernel
theorem dX7_outside_1 : decode cX7_outside 1 = .ok (.iload_n 1, 1) := by decide +kernel
theorem dX7_outside_2 : decode cX7_outside 2 = .ok (.if_icmp .lt 8, 3) := by decide +kernel
theorem dX7_outside_5 : decode cX7_outside 5 = .ok (.iload_n 0, 1) := by decide +kernel
theorem dX7_outside_6 : decode cX7_outside 6 = .ok (.iload_n 2, 1) := by decide +kernel
theorem dX7_outside_7 : decode cX7_outside 7 = .ok (.if_icmp .le 7, 3) := by decide +kernel
theorem dX7_outside_10 : decode cX7_outside 10 = .ok (.iconst 1, 1) := by decide +kernel
theorem dX7_outside_11 : decode cX7_outside 11 = .ok (.goto 4, 3) := by decide +kernel
theorem dX7_outside_14 : decode cX7_outside 14 = .ok (.iconst 0, 1) := by decide +kernel
theorem dX7_outside_15 : decode cX7_outside 15 = .ok (.ireturn, 1) := by decide +kernel
theorem dX7_noClient_0 : decode cX7_noClient 0 = .ok (.iload_n 0, 1) := by decide +kernel
theorem dX7_noClient_1 : decode cX7_noClient 1 = .ok (.iconst 0, 1) := by decide +kernel
theorem dX7_noClient_2 : decode cX7_noClient 2 = .ok (.iconst 5, 1) := by decide +kernel
theorem dX7_noClient_3 : decode cX7_noClient 3 = .ok (.invokestatic 45, 3) := by decide +kernel
theorem dX7_noClient_6 : decode cX7_noClient 6 = .ok (.ireturn, 1) := by decide +kernel
theorem dX7_badLetter_0 : decode cX7_badLetter 0 = .ok (.iload_n 0, 1) := by decide +kernel
theorem dX7_badLetter_1 : decode cX7_badLetter 1 = .ok (.iconst 0, 1) := by decide +kernel
theorem dX7_badLetter_2 : decode cX7_badLetter 2 = .ok (.bipush 99, 2) := by decide +kernel
theorem dX7_badLetter_4 : decode cX7_badLetter 4 = .ok (.invokestatic 45, 3) := by decide +kernel
theorem dX7_badLetter_7 : decode cX7_badLetter 7 = .ok (.ifCond .ne 21, 3) := by decide +kernel
theorem dX7_badLetter_10 : decode cX7_badLetter 10 = .ok (.iload_n 1, 1) := by decide +kernel
theorem dX7_badLetter_11 : decode cX7_badLetter 11 = .ok (.iconst 0, 1) := by decide +kernel
theorem dX7_badLetter_12 : decode cX7_badLetter 12 = .ok (.iconst 2, 1) := by decide +kernel
theorem dX7_badLetter_13 : decode cX7_badLetter 13 = .ok (.invokestatic 45, 3) := by decide +kernel
theorem dX7_badLetter_16 : decode cX7_badLetter 16 = .ok (.ifCond .ne 12, 3) := by decide +kernel
theorem dX7_badLetter_19 : decode cX7_badLetter 19 = .ok (.iload_n 2, 1) := by decide +kernel
theorem dX7_badLetter_20 : decode cX7_badLetter 20 = .ok (.iconst 0, 1) := by decide +kernel
theorem dX7_badLetter_21 : decode cX7_badLetter 21 = .ok (.iconst 1, 1) := by decide +kernel
theorem dX7_badLetter_22 : decode cX7_badLetter 22 = .ok (.invokestatic 45, 3) := by decide +kernel
theorem dX7_badLetter_25 : decode cX7_badLetter 25 = .ok (.ifCond .eq 7, 3) := by decide +kernel
theorem dX7_badLetter_28 : decode cX7_badLetter 28 = .ok (.iconst 1, 1) := by decide +kernel
theorem dX7_badLetter_29 : decode cX7_badLetter 29 = .ok (.goto 4, 3) := by decide +kernel
theorem dX7_badLetter_32 : decode cX7_badLetter 32 = .ok (.iconst 0, 1) := by decide +kernel
theorem dX7_badLetter_33 : decode cX7_badLetter 33 = .ok (.ireturn, 1) := by decide +kernel
theorem dX7_flag_0 : decode cX7_flag 0 = .ok (.iload_n 0, 1) := by decide +kernel
theorem dX7_flag_1 : decode cX7_flag 1 = .ok (.ifCond .eq 7, 3) := by decide +kernel
theorem dX7_flag_4 : decode cX7_flag 4 = .ok (.iconst 1, 1) := by decide +kernel
theorem dX7_flag_5 : decode cX7_flag 5 = .ok (.goto 4, 3) := by decide +kernel
theorem dX7_flag_8 : decode cX7_flag 8 = .ok (.iconst 0, 1) := by decide +kernel
theorem dX7_flag_9 : decode cX7_flag 9 = .ok (.ireturn, 1) := by decide +kernel
theorem dX7_pathFact_0 : decode cX7_pathFact 0 = .ok (.iload_n 1, 1) := by decide +kernel
theorem dX7_pathFact_1 : decode cX7_pathFact 1 = .ok (.ifCond .ne 10, 3) := by decide +kernel
theorem dX7_pathFact_4 : decode cX7_pathFact 4 = .ok (.iload_n 0, 1) := by decide +kernel
theorem dX7_pathFact_5 : decode cX7_pathFact 5 = .ok (.invokestatic 73, 3) := by decide +kernel
theorem dX7_pathFact_8 : decode cX7_pathFact 8 = .ok (.goto 10, 3) := by decide +kernel
theorem dX7_pathFact_11 : decode cX7_pathFact 11 = .ok (.iload_n 0, 1) := by decide +kernel
theorem dX7_pathFact_12 : decode cX7_pathFact 12 = .ok (.iload_n 1, 1) := by decide +kernel
theorem dX7_pathFact_13 : decode cX7_pathFact 13 = .ok (.iconst 4, 1) := by decide +kernel
theorem dX7_pathFact_14 : decode cX7_pathFact 14 = .ok (.isub, 1) := by decide +kernel
theorem dX7_pathFact_15 : decode cX7_pathFact 15 = .ok (.invokestatic 224, 3) := by decide +kernel
theorem dX7_pathFact_18 : decode cX7_pathFact 18 = .ok (.ireturn, 1) := by decide +kernel
theorem dX7_isAwake_0 : decode cX7_isAwake 0 = .ok (.iload_n 1, 1) := by decide +kernel
theorem dX7_isAwake_1 : decode cX7_isAwake 1 = .ok (.invokestatic 81, 3) := by decide +kernel
theorem dX7_isAwake_4 : decode cX7_isAwake 4 = .ok (.ifCond .ne 23, 3) := by decide +kernel
theorem dX7_isAwake_7 : decode cX7_isAwake 7 = .ok (.aload_n 0, 1) := by decide +kernel
theorem dX7_isAwake_8 : decode cX7_isAwake 8 = .ok (.getfield 24, 3) := by decide +kernel
theorem dX7_isAwake_11 : decode cX7_isAwake 11 = .ok (.getfield 87, 3) := by decide +kernel
theorem dX7_isAwake_14 : decode cX7_isAwake 14 = .ok (.iload_n 1, 1) := by decide +kernel
theorem dX7_isAwake_15 : decode cX7_isAwake 15 = .ok (.aaload, 1) := by decide +kernel
theorem dX7_isAwake_16 : decode cX7_isAwake 16 = .ok (.getfield 189, 3) := by decide +kernel
theorem dX7_isAwake_19 : decode cX7_isAwake 19 = .ok (.iconst 1, 1) := by decide +kernel
theorem dX7_isAwake_20 : decode cX7_isAwake 20 = .ok (.if_icmp .ne 7, 3) := by decide +kernel
theorem dX7_isAwake_23 : decode cX7_isAwake 23 = .ok (.iconst 1, 1) := by decide +kernel
theorem dX7_isAwake_24 : decode cX7_isAwake 24 = .ok (.goto 4, 3) := by decide +kernel
theorem dX7_isAwake_27 : decode cX7_isAwake 27 = .ok (.iconst 0, 1) := by decide +kernel
theorem dX7_isAwake_28 : decode cX7_isAwake 28 = .ok (.ireturn, 1) := by decide +kernel
theorem dX7_countImages_0 : decode cX7_countImages 0 = .ok (.iconst 0, 1) := by decide +kernel
theorem dX7_countImages_1 : decode cX7_countImages 1 = .ok (.istore_n 1, 1) := by decide +kernel
theorem dX7_countImages_2 : decode cX7_countImages 2 = .ok (.iconst 0, 1) := by decide +kernel
theorem dX7_countImages_3 : decode cX7_countImages 3 = .ok (.istore_n 2, 1) := by decide +kernel
theorem dX7_countImages_4 : decode cX7_countImages 4 = .ok (.iload_n 2, 1) := by decide +kernel
theorem dX7_countImages_5 : decode cX7_countImages 5 = .ok (.iconst 2, 1) := by decide +kernel
theorem dX7_countImages_6 : decode cX7_countImages 6 = .ok (.if_icmp .ge 21, 3) := by decide +kernel
theorem dX7_countImages_9 : decode cX7_countImages 9 = .ok (.iload_n 1, 1) := by decide +kernel
theorem dX7_countImages_10 : decode cX7_countImages 10 = .ok (.aload_n 0, 1) := by decide +kernel
theorem dX7_countImages_11 : decode cX7_countImages 11 = .ok (.getfield 32, 3) := by decide +kernel
theorem dX7_countImages_14 : decode cX7_countImages 14 = .ok (.iload_n 2, 1) := by decide +kernel
theorem dX7_countImages_15 : decode cX7_countImages 15 = .ok (.baload, 1) := by decide +kernel
theorem dX7_countImages_16 : decode cX7_countImages 16 = .ok (.invokestatic 205, 3) := by decide +kernel
theorem dX7_countImages_19 : decode cX7_countImages 19 = .ok (.iadd, 1) := by decide +kernel
theorem dX7_countImages_20 : decode cX7_countImages 20 = .ok (.istore_n 1, 1) := by decide +kernel
theorem dX7_countImages_21 : decode cX7_countImages 21 = .ok (.iinc 2 1, 3) := by decide +kernel
theorem dX7_countImages_24 : decode cX7_countImages 24 = .ok (.goto (-20), 3) := by decide +kernel
theorem dX7_countImages_27 : decode cX7_countImages 27 = .ok (.iload_n 1, 1) := by decide +kernel
theorem dX7_countImages_28 : decode cX7_countImages 28 = .ok (.ireturn, 1) := by decide +kernel
