theorem dX0_init_0 : decode cX0_init 0 = .ok (.aload_n 0, 1) := by decide +kernel
theorem dX0_init_1 : decode cX0_init 1 = .ok (.invokespecial 3, 3) := by decide +kernel
theorem dX0_init_4 : decode cX0_init 4 = .ok (.aload_n 0, 1) := by decide +kernel
theorem dX0_init_5 : decode cX0_init 5 = .ok (.new 9, 3) := by decide +kernel
theorem dX0_init_8 : decode cX0_init 8 = .ok (.dup, 1) := by decide +kernel
theorem dX0_init_9 : decode cX0_init 9 = .ok (.invokespecial 11, 3) := by decide +kernel
theorem dX0_init_12 : decode cX0_init 12 = .ok (.putfield 12, 3) := by decide +kernel
theorem dX0_init_15 : decode cX0_init 15 = .ok (.aload_n 0, 1) := by decide +kernel
theorem dX0_init_16 : decode cX0_init 16 = .ok (.iconst 0, 1) := by decide +kernel
theorem dX0_init_17 : decode cX0_init 17 = .ok (.putfield 18, 3) := by decide +kernel
theorem dX0_init_20 : decode cX0_init 20 = .ok (.aload_n 0, 1) := by decide +kernel
theorem dX0_init_21 : decode cX0_init 21 = .ok (.iconst (-1), 1) := by decide +kernel
theorem dX0_init_22 : decode cX0_init 22 = .ok (.putfield 22, 3) := by decide +kernel
theorem dX0_init_25 : decode cX0_init 25 = .ok (.return_, 1) := by decide +kernel
theorem dX0_readSetup_0 : decode cX0_readSetup 0 = .ok (.aload_n 0, 1) := by decide +kernel
theorem dX0_readSetup_1 : decode cX0_readSetup 1 = .ok (.invokevirtual 25, 3) := by decide +kernel
theorem dX0_readSetup_4 : decode cX0_readSetup 4 = .ok (.aload_n 0, 1) := by decide +kernel
theorem dX0_readSetup_5 : decode cX0_readSetup 5 = .ok (.aload_n 1, 1) := by decide +kernel
theorem dX0_readSetup_6 : decode cX0_readSetup 6 = .ok (.invokevirtual 28, 3) := by decide +kernel
theorem dX0_readSetup_9 : decode cX0_readSetup 9 = .ok (.ifCond .eq 39, 3) := by decide +kernel
theorem dX0_readSetup_12 : decode cX0_readSetup 12 = .ok (.aload_n 0, 1) := by decide +kernel
theorem dX0_readSetup_13 : decode cX0_readSetup 13 = .ok (.aload_n 1, 1) := by decide +kernel
theorem dX0_readSetup_14 : decode cX0_readSetup 14 = .ok (.invokevirtual 32, 3) := by decide +kernel
theorem dX0_readSetup_17 : decode cX0_readSetup 17 = .ok (.ifCond .eq 31, 3) := by decide +kernel
theorem dX0_readSetup_20 : decode cX0_readSetup 20 = .ok (.aload_n 0, 1) := by decide +kernel
theorem dX0_readSetup_21 : decode cX0_readSetup 21 = .ok (.aload_n 1, 1) := by decide +kernel
theorem dX0_readSetup_22 : decode cX0_readSetup 22 = .ok (.invokevirtual 35, 3) := by decide +kernel
theorem dX0_readSetup_25 : decode cX0_readSetup 25 = .ok (.ifCond .eq 23, 3) := by decide +kernel
theorem dX0_readSetup_28 : decode cX0_readSetup 28 = .ok (.aload_n 0, 1) := by decide +kernel
theorem dX0_readSetup_29 : decode cX0_readSetup 29 = .ok (.aload_n 1, 1) := by decide +kernel
theorem dX0_readSetup_30 : decode cX0_readSetup 30 = .ok (.invokevirtual 38, 3) := by decide +kernel
theorem dX0_readSetup_33 : decode cX0_readSetup 33 = .ok (.ifCond .eq 15, 3) := by decide +kernel
theorem dX0_readSetup_36 : decode cX0_readSetup 36 = .ok (.aload_n 0, 1) := by decide +kernel
theorem dX0_readSetup_37 : decode cX0_readSetup 37 = .ok (.aload_n 1, 1) := by decide +kernel
theorem dX0_readSetup_38 : decode cX0_readSetup 38 = .ok (.invokevirtual 41, 3) := by decide +kernel
theorem dX0_readSetup_41 : decode cX0_readSetup 41 = .ok (.ifCond .eq 7, 3) := by decide +kernel
theorem dX0_readSetup_44 : decode cX0_readSetup 44 = .ok (.iconst 1, 1) := by decide +kernel
theorem dX0_readSetup_45 : decode cX0_readSetup 45 = .ok (.goto 4, 3) := by decide +kernel
theorem dX0_readSetup_48 : decode cX0_readSetup 48 = .ok (.iconst 0, 1) := by decide +kernel
theorem dX0_readSetup_49 : decode cX0_readSetup 49 = .ok (.istore_n 2, 1) := by decide +kernel
theorem dX0_readSetup_50 : decode cX0_readSetup 50 = .ok (.iload_n 2, 1) := by decide +kernel
theorem dX0_readSetup_51 : decode cX0_readSetup 51 = .ok (.ifCond .eq 7, 3) := by decide +kernel
theorem dX0_readSetup_54 : decode cX0_readSetup 54 = .ok (.aload_n 1, 1) := by decide +kernel
theorem dX0_readSetup_55 : decode cX0_readSetup 55 = .ok (.invokevirtual 44, 3) := by decide +kernel
theorem dX0_readSetup_58 : decode cX0_readSetup 58 = .ok (.iload_n 2, 1) := by decide +kernel
theorem dX0_readSetup_59 : decode cX0_readSetup 59 = .ok (.ireturn, 1) := by decide +kernel
theorem dX0_begin_0 : decode cX0_begin 0 = .ok (.aload_n 0, 1) := by decide +kernel
theorem dX0_begin_1 : decode cX0_begin 1 = .ok (.iconst 0, 1) := by decide +kernel
theorem dX0_begin_2 : decode cX0_begin 2 = .ok (.putfield 18, 3) := by decide +kernel
theorem dX0_begin_5 : decode cX0_begin 5 = .ok (.aload_n 0, 1) := by decide +kernel
theorem dX0_begin_6 : decode cX0_begin 6 = .ok (.iconst (-1), 1) := by decide +kernel
theorem dX0_begin_7 : decode cX0_begin 7 = .ok (.putfield 22, 3) := by decide +kernel
theorem dX0_begin_10 : decode cX0_begin 10 = .ok (.aload_n 0, 1) := by decide +kernel
theorem dX0_begin_11 : decode cX0_begin 11 = .ok (.getfield 12, 3) := by decide +kernel
theorem dX0_begin_14 : decode cX0_begin 14 = .ok (.invokevirtual 49, 3) := by decide +kernel
theorem dX0_begin_17 : decode cX0_begin 17 = .ok (.return_, 1) := by decide +kernel
theorem dX0_fail_0 : decode cX0_fail 0 = .ok (.aload_n 0, 1) := by decide +kernel
theorem dX0_fail_1 : decode cX0_fail 1 = .ok (.iload_n 1, 1) := by decide +kernel
theorem dX0_fail_2 : decode cX0_fail 2 = .ok (.putfield 18, 3) := by decide +kernel
theorem dX0_fail_5 : decode cX0_fail 5 = .ok (.aload_n 0, 1) := by decide +kernel
theorem dX0_fail_6 : decode cX0_fail 6 = .ok (.aload_n 0, 1) := by decide +kernel
theorem dX0_fail_7 : decode cX0_fail 7 = .ok (.getfield 12, 3) := by decide +kernel
theorem dX0_fail_10 : decode cX0_fail 10 = .ok (.getfield 52, 3) := by decide +kernel
theorem dX0_fail_13 : decode cX0_fail 13 = .ok (.putfield 22, 3) := by decide +kernel
theorem dX0_fail_16 : decode cX0_fail 16 = .ok (.iconst 0, 1) := by decide +kernel
theorem dX0_fail_17 : decode cX0_fail 17 = .ok (.ireturn, 1) := by decide +kernel
theorem dX0_readLogs_0 : decode cX0_readLogs 0 = .ok (.aload_n 0, 1) := by decide +kernel
theorem dX0_readLogs_1 : decode cX0_readLogs 1 = .ok (.ldc 55, 2) := by decide +kernel
theorem dX0_readLogs_3 : decode cX0_readLogs 3 = .ok (.invokevirtual 57, 3) := by decide +kernel
theorem dX0_readLogs_6 : decode cX0_readLogs 6 = .ok (.ifCond .eq 13, 3) := by decide +kernel
theorem dX0_readLogs_9 : decode cX0_readLogs 9 = .ok (.aload_n 0, 1) := by decide +kernel
theorem dX0_readLogs_10 : decode cX0_readLogs 10 = .ok (.iconst 0, 1) := by decide +kernel
theorem dX0_readLogs_11 : decode cX0_readLogs 11 = .ok (.bipush 99, 2) := by decide +kernel
theorem dX0_readLogs_13 : decode cX0_readLogs 13 = .ok (.invokevirtual 61, 3) := by decide +kernel
theorem dX0_readLogs_16 : decode cX0_readLogs 16 = .ok (.ifCond .ne 5, 3) := by decide +kernel
theorem dX0_readLogs_19 : decode cX0_readLogs 19 = .ok (.iconst 0, 1) := by decide +kernel
theorem dX0_readLogs_20 : decode cX0_readLogs 20 = .ok (.ireturn, 1) := by decide +kernel
theorem dX0_readLogs_21 : decode cX0_readLogs 21 = .ok (.aload_n 1, 1) := by decide +kernel
theorem dX0_readLogs_22 : decode cX0_readLogs 22 = .ok (.aload_n 0, 1) := by decide +kernel
theorem dX0_readLogs_23 : decode cX0_readLogs 23 = .ok (.getfield 12, 3) := by decide +kernel
theorem dX0_readLogs_26 : decode cX0_readLogs 26 = .ok (.invokevirtual 65, 3) := by decide +kernel
theorem dX0_readLogs_29 : decode cX0_readLogs 29 = .ok (.putfield 69, 3) := by decide +kernel
theorem dX0_readLogs_32 : decode cX0_readLogs 32 = .ok (.aload_n 0, 1) := by decide +kernel
theorem dX0_readLogs_33 : decode cX0_readLogs 33 = .ok (.getfield 12, 3) := by decide +kernel
theorem dX0_readLogs_36 : decode cX0_readLogs 36 = .ok (.invokevirtual 72, 3) := by decide +kernel
theorem dX0_readLogs_39 : decode cX0_readLogs 39 = .ok (.aload_n 0, 1) := by decide +kernel
theorem dX0_readLogs_40 : decode cX0_readLogs 40 = .ok (.invokevirtual 75, 3) := by decide +kernel
theorem dX0_readLogs_43 : decode cX0_readLogs 43 = .ok (.ireturn, 1) := by decide +kernel
theorem dX0_readBunks_0 : decode cX0_readBunks 0 = .ok (.aload_n 0, 1) := by decide +kernel
theorem dX0_readBunks_1 : decode cX0_readBunks 1 = .ok (.ldc 79, 2) := by decide +kernel
theorem dX0_readBunks_3 : decode cX0_readBunks 3 = .ok (.invokevirtual 57, 3) := by decide +kernel
theorem dX0_readBunks_6 : decode cX0_readBunks 6 = .ok (.ifCond .eq 29, 3) := by decide +kernel
theorem dX0_readBunks_9 : decode cX0_readBunks 9 = .ok (.aload_n 0, 1) := by decide +kernel
theorem dX0_readBunks_10 : decode cX0_readBunks 10 = .ok (.iconst 0, 1) := by decide +kernel
theorem dX0_readBunks_11 : decode cX0_readBunks 11 = .ok (.iconst 5, 1) := by decide +kernel
theorem dX0_readBunks_12 : decode cX0_readBunks 12 = .ok (.invokevirtual 61, 3) := by decide +kernel
theorem dX0_readBunks_15 : decode cX0_readBunks 15 = .ok (.ifCond .eq 20, 3) := by decide +kernel
theorem dX0_readBunks_18 : decode cX0_readBunks 18 = .ok (.aload_n 0, 1) := by decide +kernel
theorem dX0_readBunks_19 : decode cX0_readBunks 19 = .ok (.aload_n 1, 1) := by decide +kernel
theorem dX0_readBunks_20 : decode cX0_readBunks 20 = .ok (.getfield 81, 3) := by decide +kernel
theorem dX0_readBunks_23 : decode cX0_readBunks 23 = .ok (.iconst 0, 1) := by decide +kernel
theorem dX0_readBunks_24 : decode cX0_readBunks 24 = .ok (.iconst 5, 1) := by decide +kernel
theorem dX0_readBunks_25 : decode cX0_readBunks 25 = .ok (.invokevirtual 85, 3) := by decide +kernel
theorem dX0_readBunks_28 : decode cX0_readBunks 28 = .ok (.ifCond .eq 7, 3) := by decide +kernel
theorem dX0_readBunks_31 : decode cX0_readBunks 31 = .ok (.iconst 1, 1) := by decide +kernel
theorem dX0_readBunks_32 : decode cX0_readBunks 32 = .ok (.goto 4, 3) := by decide +kernel
theorem dX0_readBunks_35 : decode cX0_readBunks 35 = .ok (.iconst 0, 1) := by decide +kernel
theorem dX0_readBunks_36 : decode cX0_readBunks 36 = .ok (.istore_n 2, 1) := by decide +kernel
theorem dX0_readBunks_37 : decode cX0_readBunks 37 = .ok (.aload_n 1, 1) := by decide +kernel
theorem dX0_readBunks_38 : decode cX0_readBunks 38 = .ok (.aload_n 0, 1) := by decide +kernel
theorem dX0_readBunks_39 : decode cX0_readBunks 39 = .ok (.getfield 89, 3) := by decide +kernel
theorem dX0_readBunks_42 : decode cX0_readBunks 42 = .ok (.putfield 92, 3) := by decide +kernel
theorem dX0_readBunks_45 : decode cX0_readBunks 45 = .ok (.iload_n 2, 1) := by decide +kernel
theorem dX0_readBunks_46 : decode cX0_readBunks 46 = .ok (.ireturn, 1) := by decide +kernel
theorem dX0_readBlankets_0 : decode cX0_readBlankets 0 = .ok (.aload_n 0, 1) := by decide +kernel
theorem dX0_readBlankets_1 : decode cX0_readBlankets 1 = .ok (.ldc 95, 2) := by decide +kernel
theorem dX0_readBlankets_3 : decode cX0_readBlankets 3 = .ok (.invokevirtual 57, 3) := by decide +kernel
theorem dX0_readBlankets_6 : decode cX0_readBlankets 6 = .ok (.ifCond .eq 21, 3) := by decide +kernel
theorem dX0_readBlankets_9 : decode cX0_readBlankets 9 = .ok (.aload_n 0, 1) := by decide +kernel
theorem dX0_readBlankets_10 : decode cX0_readBlankets 10 = .ok (.aload_n 1, 1) := by decide +kernel
theorem dX0_readBlankets_11 : decode cX0_readBlankets 11 = .ok (.getfield 97, 3) := by decide +kernel
theorem dX0_readBlankets_14 : decode cX0_readBlankets 14 = .ok (.iconst 1, 1) := by decide +kernel
theorem dX0_readBlankets_15 : decode cX0_readBlankets 15 = .ok (.bipush 9, 2) := by decide +kernel
theorem dX0_readBlankets_17 : decode cX0_readBlankets 17 = .ok (.invokevirtual 85, 3) := by decide +kernel
theorem dX0_readBlankets_20 : decode cX0_readBlankets 20 = .ok (.ifCond .eq 7, 3) := by decide +kernel
theorem dX0_readBlankets_23 : decode cX0_readBlankets 23 = .ok (.iconst 1, 1) := by decide +kernel
theorem dX0_readBlankets_24 : decode cX0_readBlankets 24 = .ok (.goto 4, 3) := by decide +kernel
theorem dX0_readBlankets_27 : decode cX0_readBlankets 27 = .ok (.iconst 0, 1) := by decide +kernel
theorem dX0_readBlankets_28 : decode cX0_readBlankets 28 = .ok (.istore_n 2, 1) := by decide +kernel
theorem dX0_readBlankets_29 : decode cX0_readBlankets 29 = .ok (.aload_n 1, 1) := by decide +kernel
theorem dX0_readBlankets_30 : decode cX0_readBlankets 30 = .ok (.aload_n 0, 1) := by decide +kernel
theorem dX0_readBlankets_31 : decode cX0_readBlankets 31 = .ok (.getfield 89, 3) := by decide +kernel
theorem dX0_readBlankets_34 : decode cX0_readBlankets 34 = .ok (.putfield 100, 3) := by decide +kernel
theorem dX0_readBlankets_37 : decode cX0_readBlankets 37 = .ok (.iload_n 2, 1) := by decide +kernel
theorem dX0_readBlankets_38 : decode cX0_readBlankets 38 = .ok (.ireturn, 1) := by decide +kernel
theorem dX0_readForecast_0 : decode cX0_readForecast 0 = .ok (.aload_n 0, 1) := by decide +kernel
theorem dX0_readForecast_1 : decode cX0_readForecast 1 = .ok (.ldc 103, 2) := by decide +kernel
theorem dX0_readForecast_3 : decode cX0_readForecast 3 = .ok (.invokevirtual 57, 3) := by decide +kernel
theorem dX0_readForecast_6 : decode cX0_readForecast 6 = .ok (.ifCond .eq 31, 3) := by decide +kernel
theorem dX0_readForecast_9 : decode cX0_readForecast 9 = .ok (.aload_n 0, 1) := by decide +kernel
theorem dX0_readForecast_10 : decode cX0_readForecast 10 = .ok (.iconst 0, 1) := by decide +kernel
theorem dX0_readForecast_11 : decode cX0_readForecast 11 = .ok (.bipush 20, 2) := by decide +kernel
theorem dX0_readForecast_13 : decode cX0_readForecast 13 = .ok (.invokevirtual 61, 3) := by decide +kernel
theorem dX0_readForecast_16 : decode cX0_readForecast 16 = .ok (.ifCond .eq 21, 3) := by decide +kernel
theorem dX0_readForecast_19 : decode cX0_readForecast 19 = .ok (.aload_n 0, 1) := by decide +kernel
theorem dX0_readForecast_20 : decode cX0_readForecast 20 = .ok (.aload_n 1, 1) := by decide +kernel
theorem dX0_readForecast_21 : decode cX0_readForecast 21 = .ok (.getfield 105, 3) := by decide +kernel
theorem dX0_readForecast_24 : decode cX0_readForecast 24 = .ok (.iconst 0, 1) := by decide +kernel
theorem dX0_readForecast_25 : decode cX0_readForecast 25 = .ok (.bipush 20, 2) := by decide +kernel
theorem dX0_readForecast_27 : decode cX0_readForecast 27 = .ok (.invokevirtual 85, 3) := by decide +kernel
theorem dX0_readForecast_30 : decode cX0_readForecast 30 = .ok (.ifCond .eq 7, 3) := by decide +kernel
theorem dX0_readForecast_33 : decode cX0_readForecast 33 = .ok (.iconst 1, 1) := by decide +kernel
theorem dX0_readForecast_34 : decode cX0_readForecast 34 = .ok (.goto 4, 3) := by decide +kernel
theorem dX0_readForecast_37 : decode cX0_readForecast 37 = .ok (.iconst 0, 1) := by decide +kernel
theorem dX0_readForecast_38 : decode cX0_readForecast 38 = .ok (.istore_n 2, 1) := by decide +kernel
theorem dX0_readForecast_39 : decode cX0_readForecast 39 = .ok (.aload_n 1, 1) := by decide +kernel
theorem dX0_readForecast_40 : decode cX0_readForecast 40 = .ok (.aload_n 0, 1) := by decide +kernel
theorem dX0_readForecast_41 : decode cX0_readForecast 41 = .ok (.getfield 89, 3) := by decide +kernel
theorem dX0_readForecast_44 : decode cX0_readForecast 44 = .ok (.putfield 107, 3) := by decide +kernel
theorem dX0_readForecast_47 : decode cX0_readForecast 47 = .ok (.iload_n 2, 1) := by decide +kernel
theorem dX0_readForecast_48 : decode cX0_readForecast 48 = .ok (.ireturn, 1) := by decide +kernel
theorem dX0_readRow_0 : decode cX0_readRow 0 = .ok (.aload_n 0, 1) := by decide +kernel
theorem dX0_readRow_1 : decode cX0_readRow 1 = .ok (.iconst 0, 1) := by decide +kernel
theorem dX0_readRow_2 : decode cX0_readRow 2 = .ok (.putfield 89, 3) := by decide +kernel
theorem dX0_readRow_5 : decode cX0_readRow 5 = .ok (.iconst 0, 1) := by decide +kernel
theorem dX0_readRow_6 : decode cX0_readRow 6 = .ok (.istore 4, 2) := by decide +kernel
theorem dX0_readRow_8 : decode cX0_readRow 8 = .ok (.iload 4, 2) := by decide +kernel
theorem dX0_readRow_10 : decode cX0_readRow 10 = .ok (.aload_n 1, 1) := by decide +kernel
theorem dX0_readRow_11 : decode cX0_readRow 11 = .ok (.arraylength, 1) := by decide +kernel
theorem dX0_readRow_12 : decode cX0_readRow 12 = .ok (.if_icmp .gt 70, 3) := by decide +kernel
theorem dX0_readRow_15 : decode cX0_readRow 15 = .ok (.aload_n 0, 1) := by decide +kernel
theorem dX0_readRow_16 : decode cX0_readRow 16 = .ok (.getfield 12, 3) := by decide +kernel
theorem dX0_readRow_19 : decode cX0_readRow 19 = .ok (.getfield 110, 3) := by decide +kernel
theorem dX0_readRow_22 : decode cX0_readRow 22 = .ok (.iconst 2, 1) := by decide +kernel
theorem dX0_readRow_23 : decode cX0_readRow 23 = .ok (.if_icmp .ne 59, 3) := by decide +kernel
theorem dX0_readRow_26 : decode cX0_readRow 26 = .ok (.aload_n 0, 1) := by decide +kernel
theorem dX0_readRow_27 : decode cX0_readRow 27 = .ok (.iload_n 2, 1) := by decide +kernel
theorem dX0_readRow_28 : decode cX0_readRow 28 = .ok (.iload_n 3, 1) := by decide +kernel
theorem dX0_readRow_29 : decode cX0_readRow 29 = .ok (.invokevirtual 61, 3) := by decide +kernel
theorem dX0_readRow_32 : decode cX0_readRow 32 = .ok (.ifCond .ne 5, 3) := by decide +kernel
theorem dX0_readRow_35 : decode cX0_readRow 35 = .ok (.iconst 0, 1) := by decide +kernel
theorem dX0_readRow_36 : decode cX0_readRow 36 = .ok (.ireturn, 1) := by decide +kernel
theorem dX0_readRow_37 : decode cX0_readRow 37 = .ok (.iload 4, 2) := by decide +kernel
theorem dX0_readRow_39 : decode cX0_readRow 39 = .ok (.aload_n 1, 1) := by decide +kernel
theorem dX0_readRow_40 : decode cX0_readRow 40 = .ok (.arraylength, 1) := by decide +kernel
theorem dX0_readRow_41 : decode cX0_readRow 41 = .ok (.if_icmp .lt 9, 3) := by decide +kernel
theorem dX0_readRow_44 : decode cX0_readRow 44 = .ok (.aload_n 0, 1) := by decide +kernel
theorem dX0_readRow_45 : decode cX0_readRow 45 = .ok (.iconst 3, 1) := by decide +kernel
theorem dX0_readRow_46 : decode cX0_readRow 46 = .ok (.invokevirtual 113, 3) := by decide +kernel
theorem dX0_readRow_49 : decode cX0_readRow 49 = .ok (.ireturn, 1) := by decide +kernel
theorem dX0_readRow_50 : decode cX0_readRow 50 = .ok (.aload_n 1, 1) := by decide +kernel
theorem dX0_readRow_51 : decode cX0_readRow 51 = .ok (.iload 4, 2) := by decide +kernel
theorem dX0_readRow_53 : decode cX0_readRow 53 = .ok (.aload_n 0, 1) := by decide +kernel
theorem dX0_readRow_54 : decode cX0_readRow 54 = .ok (.getfield 12, 3) := by decide +kernel
theorem dX0_readRow_57 : decode cX0_readRow 57 = .ok (.invokevirtual 65, 3) := by decide +kernel
theorem dX0_readRow_60 : decode cX0_readRow 60 = .ok (.iastore, 1) := by decide +kernel
theorem dX0_readRow_61 : decode cX0_readRow 61 = .ok (.aload_n 0, 1) := by decide +kernel
theorem dX0_readRow_62 : decode cX0_readRow 62 = .ok (.iload 4, 2) := by decide +kernel
theorem dX0_readRow_64 : decode cX0_readRow 64 = .ok (.iconst 1, 1) := by decide +kernel
theorem dX0_readRow_65 : decode cX0_readRow 65 = .ok (.iadd, 1) := by decide +kernel
theorem dX0_readRow_66 : decode cX0_readRow 66 = .ok (.putfield 89, 3) := by decide +kernel
theorem dX0_readRow_69 : decode cX0_readRow 69 = .ok (.aload_n 0, 1) := by decide +kernel
theorem dX0_readRow_70 : decode cX0_readRow 70 = .ok (.getfield 12, 3) := by decide +kernel
theorem dX0_readRow_73 : decode cX0_readRow 73 = .ok (.invokevirtual 72, 3) := by decide +kernel
theorem dX0_readRow_76 : decode cX0_readRow 76 = .ok (.iinc 4 1, 3) := by decide +kernel
theorem dX0_readRow_79 : decode cX0_readRow 79 = .ok (.goto (-71), 3) := by decide +kernel
theorem dX0_readRow_82 : decode cX0_readRow 82 = .ok (.aload_n 0, 1) := by decide +kernel
theorem dX0_readRow_83 : decode cX0_readRow 83 = .ok (.invokevirtual 75, 3) := by decide +kernel
theorem dX0_readRow_86 : decode cX0_readRow 86 = .ok (.ireturn, 1) := by decide +kernel
theorem dX0_readHikers_0 : decode cX0_readHikers 0 = .ok (.iconst 0, 1) := by decide +kernel
theorem dX0_readHikers_1 : decode cX0_readHikers 1 = .ok (.istore_n 2, 1) := by decide +kernel
theorem dX0_readHikers_2 : decode cX0_readHikers 2 = .ok (.iload_n 2, 1) := by decide +kernel
theorem dX0_readHikers_3 : decode cX0_readHikers 3 = .ok (.bipush 10, 2) := by decide +kernel
theorem dX0_readHikers_5 : decode cX0_readHikers 5 = .ok (.if_icmp .gt 82, 3) := by decide +kernel
theorem dX0_readHikers_8 : decode cX0_readHikers 8 = .ok (.iload_n 2, 1) := by decide +kernel
theorem dX0_readHikers_9 : decode cX0_readHikers 9 = .ok (.ifCond .le 20, 3) := by decide +kernel
theorem dX0_readHikers_12 : decode cX0_readHikers 12 = .ok (.aload_n 0, 1) := by decide +kernel
theorem dX0_readHikers_13 : decode cX0_readHikers 13 = .ok (.getfield 12, 3) := by decide +kernel
theorem dX0_readHikers_16 : decode cX0_readHikers 16 = .ok (.getfield 110, 3) := by decide +kernel
theorem dX0_readHikers_19 : decode cX0_readHikers 19 = .ok (.ifCond .ne 10, 3) := by decide +kernel
theorem dX0_readHikers_22 : decode cX0_readHikers 22 = .ok (.aload_n 1, 1) := by decide +kernel
theorem dX0_readHikers_23 : decode cX0_readHikers 23 = .ok (.iload_n 2, 1) := by decide +kernel
theorem dX0_readHikers_24 : decode cX0_readHikers 24 = .ok (.putfield 117, 3) := by decide +kernel
theorem dX0_readHikers_27 : decode cX0_readHikers 27 = .ok (.iconst 1, 1) := by decide +kernel
theorem dX0_readHikers_28 : decode cX0_readHikers 28 = .ok (.ireturn, 1) := by decide +kernel
theorem dX0_readHikers_29 : decode cX0_readHikers 29 = .ok (.aload_n 0, 1) := by decide +kernel
theorem dX0_readHikers_30 : decode cX0_readHikers 30 = .ok (.getfield 12, 3) := by decide +kernel
theorem dX0_readHikers_33 : decode cX0_readHikers 33 = .ok (.ldc 120, 2) := by decide +kernel
theorem dX0_readHikers_35 : decode cX0_readHikers 35 = .ok (.invokevirtual 122, 3) := by decide +kernel
theorem dX0_readHikers_38 : decode cX0_readHikers 38 = .ok (.ifCond .ne 9, 3) := by decide +kernel
theorem dX0_readHikers_41 : decode cX0_readHikers 41 = .ok (.aload_n 0, 1) := by decide +kernel
theorem dX0_readHikers_42 : decode cX0_readHikers 42 = .ok (.iconst 1, 1) := by decide +kernel
theorem dX0_readHikers_43 : decode cX0_readHikers 43 = .ok (.invokevirtual 113, 3) := by decide +kernel
theorem dX0_readHikers_46 : decode cX0_readHikers 46 = .ok (.ireturn, 1) := by decide +kernel
theorem dX0_readHikers_47 : decode cX0_readHikers 47 = .ok (.iload_n 2, 1) := by decide +kernel
theorem dX0_readHikers_48 : decode cX0_readHikers 48 = .ok (.bipush 10, 2) := by decide +kernel
theorem dX0_readHikers_50 : decode cX0_readHikers 50 = .ok (.if_icmp .lt 9, 3) := by decide +kernel
theorem dX0_readHikers_53 : decode cX0_readHikers 53 = .ok (.aload_n 0, 1) := by decide +kernel
theorem dX0_readHikers_54 : decode cX0_readHikers 54 = .ok (.iconst 3, 1) := by decide +kernel
theorem dX0_readHikers_55 : decode cX0_readHikers 55 = .ok (.invokevirtual 113, 3) := by decide +kernel
theorem dX0_readHikers_58 : decode cX0_readHikers 58 = .ok (.ireturn, 1) := by decide +kernel
theorem dX0_readHikers_59 : decode cX0_readHikers 59 = .ok (.aload_n 0, 1) := by decide +kernel
theorem dX0_readHikers_60 : decode cX0_readHikers 60 = .ok (.getfield 12, 3) := by decide +kernel
theorem dX0_readHikers_63 : decode cX0_readHikers 63 = .ok (.invokevirtual 72, 3) := by decide +kernel
theorem dX0_readHikers_66 : decode cX0_readHikers 66 = .ok (.aload_n 0, 1) := by decide +kernel
theorem dX0_readHikers_67 : decode cX0_readHikers 67 = .ok (.aload_n 1, 1) := by decide +kernel
theorem dX0_readHikers_68 : decode cX0_readHikers 68 = .ok (.getfield 125, 3) := by decide +kernel
theorem dX0_readHikers_71 : decode cX0_readHikers 71 = .ok (.iload_n 2, 1) := by decide +kernel
theorem dX0_readHikers_72 : decode cX0_readHikers 72 = .ok (.aaload, 1) := by decide +kernel
theorem dX0_readHikers_73 : decode cX0_readHikers 73 = .ok (.invokevirtual 129, 3) := by decide +kernel
theorem dX0_readHikers_76 : decode cX0_readHikers 76 = .ok (.ifCond .ne 5, 3) := by decide +kernel
theorem dX0_readHikers_79 : decode cX0_readHikers 79 = .ok (.iconst 0, 1) := by decide +kernel
theorem dX0_readHikers_80 : decode cX0_readHikers 80 = .ok (.ireturn, 1) := by decide +kernel
theorem dX0_readHikers_81 : decode cX0_readHikers 81 = .ok (.iinc 2 1, 3) := by decide +kernel
theorem dX0_readHikers_84 : decode cX0_readHikers 84 = .ok (.goto (-82), 3) := by decide +kernel
theorem dX0_readHikers_87 : decode cX0_readHikers 87 = .ok (.iconst 0, 1) := by decide +kernel
theorem dX0_readHikers_88 : decode cX0_readHikers 88 = .ok (.ireturn, 1) := by decide +kernel
theorem dX0_readHiker_0 : decode cX0_readHiker 0 = .ok (.aload_n 0, 1) := by decide +kernel
theorem dX0_readHiker_1 : decode cX0_readHiker 1 = .ok (.iconst 1, 1) := by decide +kernel
theorem dX0_readHiker_2 : decode cX0_readHiker 2 = .ok (.bipush 30, 2) := by decide +kernel
theorem dX0_readHiker_4 : decode cX0_readHiker 4 = .ok (.invokevirtual 61, 3) := by decide +kernel
theorem dX0_readHiker_7 : decode cX0_readHiker 7 = .ok (.ifCond .ne 5, 3) := by decide +kernel
theorem dX0_readHiker_10 : decode cX0_readHiker 10 = .ok (.iconst 0, 1) := by decide +kernel
theorem dX0_readHiker_11 : decode cX0_readHiker 11 = .ok (.ireturn, 1) := by decide +kernel
theorem dX0_readHiker_12 : decode cX0_readHiker 12 = .ok (.aload_n 1, 1) := by decide +kernel
theorem dX0_readHiker_13 : decode cX0_readHiker 13 = .ok (.aload_n 0, 1) := by decide +kernel
theorem dX0_readHiker_14 : decode cX0_readHiker 14 = .ok (.getfield 12, 3) := by decide +kernel
theorem dX0_readHiker_17 : decode cX0_readHiker 17 = .ok (.invokevirtual 65, 3) := by decide +kernel
theorem dX0_readHiker_20 : decode cX0_readHiker 20 = .ok (.putfield 133, 3) := by decide +kernel
theorem dX0_readHiker_23 : decode cX0_readHiker 23 = .ok (.aload_n 0, 1) := by decide +kernel
theorem dX0_readHiker_24 : decode cX0_readHiker 24 = .ok (.getfield 12, 3) := by decide +kernel
theorem dX0_readHiker_27 : decode cX0_readHiker 27 = .ok (.invokevirtual 72, 3) := by decide +kernel
theorem dX0_readHiker_30 : decode cX0_readHiker 30 = .ok (.aload_n 0, 1) := by decide +kernel
theorem dX0_readHiker_31 : decode cX0_readHiker 31 = .ok (.iconst 0, 1) := by decide +kernel
theorem dX0_readHiker_32 : decode cX0_readHiker 32 = .ok (.bipush 9, 2) := by decide +kernel
theorem dX0_readHiker_34 : decode cX0_readHiker 34 = .ok (.invokevirtual 61, 3) := by decide +kernel
theorem dX0_readHiker_37 : decode cX0_readHiker 37 = .ok (.ifCond .ne 5, 3) := by decide +kernel
theorem dX0_readHiker_40 : decode cX0_readHiker 40 = .ok (.iconst 0, 1) := by decide +kernel
theorem dX0_readHiker_41 : decode cX0_readHiker 41 = .ok (.ireturn, 1) := by decide +kernel
theorem dX0_readHiker_42 : decode cX0_readHiker 42 = .ok (.aload_n 1, 1) := by decide +kernel
theorem dX0_readHiker_43 : decode cX0_readHiker 43 = .ok (.aload_n 0, 1) := by decide +kernel
theorem dX0_readHiker_44 : decode cX0_readHiker 44 = .ok (.getfield 12, 3) := by decide +kernel
theorem dX0_readHiker_47 : decode cX0_readHiker 47 = .ok (.invokevirtual 65, 3) := by decide +kernel
theorem dX0_readHiker_50 : decode cX0_readHiker 50 = .ok (.putfield 138, 3) := by decide +kernel
theorem dX0_readHiker_53 : decode cX0_readHiker 53 = .ok (.aload_n 0, 1) := by decide +kernel
theorem dX0_readHiker_54 : decode cX0_readHiker 54 = .ok (.getfield 12, 3) := by decide +kernel
theorem dX0_readHiker_57 : decode cX0_readHiker 57 = .ok (.invokevirtual 72, 3) := by decide +kernel
theorem dX0_readHiker_60 : decode cX0_readHiker 60 = .ok (.aload_n 0, 1) := by decide +kernel
theorem dX0_readHiker_61 : decode cX0_readHiker 61 = .ok (.iconst 0, 1) := by decide +kernel
theorem dX0_readHiker_62 : decode cX0_readHiker 62 = .ok (.bipush 99, 2) := by decide +kernel
theorem dX0_readHiker_64 : decode cX0_readHiker 64 = .ok (.invokevirtual 61, 3) := by decide +kernel
theorem dX0_readHiker_67 : decode cX0_readHiker 67 = .ok (.ifCond .ne 5, 3) := by decide +kernel
theorem dX0_readHiker_70 : decode cX0_readHiker 70 = .ok (.iconst 0, 1) := by decide +kernel
theorem dX0_readHiker_71 : decode cX0_readHiker 71 = .ok (.ireturn, 1) := by decide +kernel
theorem dX0_readHiker_72 : decode cX0_readHiker 72 = .ok (.aload_n 1, 1) := by decide +kernel
theorem dX0_readHiker_73 : decode cX0_readHiker 73 = .ok (.aload_n 0, 1) := by decide +kernel
theorem dX0_readHiker_74 : decode cX0_readHiker 74 = .ok (.getfield 12, 3) := by decide +kernel
theorem dX0_readHiker_77 : decode cX0_readHiker 77 = .ok (.invokevirtual 65, 3) := by decide +kernel
theorem dX0_readHiker_80 : decode cX0_readHiker 80 = .ok (.putfield 141, 3) := by decide +kernel
theorem dX0_readHiker_83 : decode cX0_readHiker 83 = .ok (.aload_n 0, 1) := by decide +kernel
theorem dX0_readHiker_84 : decode cX0_readHiker 84 = .ok (.getfield 12, 3) := by decide +kernel
theorem dX0_readHiker_87 : decode cX0_readHiker 87 = .ok (.invokevirtual 72, 3) := by decide +kernel
theorem dX0_readHiker_90 : decode cX0_readHiker 90 = .ok (.aload_n 0, 1) := by decide +kernel
theorem dX0_readHiker_91 : decode cX0_readHiker 91 = .ok (.invokevirtual 75, 3) := by decide +kernel
theorem dX0_readHiker_94 : decode cX0_readHiker 94 = .ok (.ireturn, 1) := by decide +kernel
theorem dX0_readWord_0 : decode cX0_readWord 0 = .ok (.aload_n 0, 1) := by decide +kernel
theorem dX0_readWord_1 : decode cX0_readWord 1 = .ok (.getfield 12, 3) := by decide +kernel
theorem dX0_readWord_4 : decode cX0_readWord 4 = .ok (.aload_n 1, 1) := by decide +kernel
theorem dX0_readWord_5 : decode cX0_readWord 5 = .ok (.invokevirtual 122, 3) := by decide +kernel
theorem dX0_readWord_8 : decode cX0_readWord 8 = .ok (.ifCond .ne 9, 3) := by decide +kernel
theorem dX0_readWord_11 : decode cX0_readWord 11 = .ok (.aload_n 0, 1) := by decide +kernel
theorem dX0_readWord_12 : decode cX0_readWord 12 = .ok (.iconst 1, 1) := by decide +kernel
theorem dX0_readWord_13 : decode cX0_readWord 13 = .ok (.invokevirtual 113, 3) := by decide +kernel
theorem dX0_readWord_16 : decode cX0_readWord 16 = .ok (.ireturn, 1) := by decide +kernel
theorem dX0_readWord_17 : decode cX0_readWord 17 = .ok (.aload_n 0, 1) := by decide +kernel
theorem dX0_readWord_18 : decode cX0_readWord 18 = .ok (.getfield 12, 3) := by decide +kernel
theorem dX0_readWord_21 : decode cX0_readWord 21 = .ok (.invokevirtual 72, 3) := by decide +kernel
theorem dX0_readWord_24 : decode cX0_readWord 24 = .ok (.iconst 1, 1) := by decide +kernel
theorem dX0_readWord_25 : decode cX0_readWord 25 = .ok (.ireturn, 1) := by decide +kernel
theorem dX0_readSemicolon_0 : decode cX0_readSemicolon 0 = .ok (.aload_n 0, 1) := by decide +kernel
theorem dX0_readSemicolon_1 : decode cX0_readSemicolon 1 = .ok (.getfield 12, 3) := by decide +kernel
theorem dX0_readSemicolon_4 : decode cX0_readSemicolon 4 = .ok (.getfield 110, 3) := by decide +kernel
theorem dX0_readSemicolon_7 : decode cX0_readSemicolon 7 = .ok (.iconst 3, 1) := by decide +kernel
theorem dX0_readSemicolon_8 : decode cX0_readSemicolon 8 = .ok (.if_icmp .eq 9, 3) := by decide +kernel
theorem dX0_readSemicolon_11 : decode cX0_readSemicolon 11 = .ok (.aload_n 0, 1) := by decide +kernel
theorem dX0_readSemicolon_12 : decode cX0_readSemicolon 12 = .ok (.iconst 1, 1) := by decide +kernel
theorem dX0_readSemicolon_13 : decode cX0_readSemicolon 13 = .ok (.invokevirtual 113, 3) := by decide +kernel
theorem dX0_readSemicolon_16 : decode cX0_readSemicolon 16 = .ok (.ireturn, 1) := by decide +kernel
theorem dX0_readSemicolon_17 : decode cX0_readSemicolon 17 = .ok (.aload_n 0, 1) := by decide +kernel
theorem dX0_readSemicolon_18 : decode cX0_readSemicolon 18 = .ok (.getfield 12, 3) := by decide +kernel
theorem dX0_readSemicolon_21 : decode cX0_readSemicolon 21 = .ok (.invokevirtual 72, 3) := by decide +kernel
theorem dX0_readSemicolon_24 : decode cX0_readSemicolon 24 = .ok (.iconst 1, 1) := by decide +kernel
theorem dX0_readSemicolon_25 : decode cX0_readSemicolon 25 = .ok (.ireturn, 1) := by decide +kernel
theorem dX0_isNumber_0 : decode cX0_isNumber 0 = .ok (.aload_n 0, 1) := by decide +kernel
theorem dX0_isNumber_1 : decode cX0_isNumber 1 = .ok (.getfield 12, 3) := by decide +kernel
theorem dX0_isNumber_4 : decode cX0_isNumber 4 = .ok (.getfield 110, 3) := by decide +kernel
theorem dX0_isNumber_7 : decode cX0_isNumber 7 = .ok (.iconst 2, 1) := by decide +kernel
theorem dX0_isNumber_8 : decode cX0_isNumber 8 = .ok (.if_icmp .eq 9, 3) := by decide +kernel
theorem dX0_isNumber_11 : decode cX0_isNumber 11 = .ok (.aload_n 0, 1) := by decide +kernel
theorem dX0_isNumber_12 : decode cX0_isNumber 12 = .ok (.iconst 1, 1) := by decide +kernel
theorem dX0_isNumber_13 : decode cX0_isNumber 13 = .ok (.invokevirtual 113, 3) := by decide +kernel
theorem dX0_isNumber_16 : decode cX0_isNumber 16 = .ok (.ireturn, 1) := by decide +kernel
theorem dX0_isNumber_17 : decode cX0_isNumber 17 = .ok (.aload_n 0, 1) := by decide +kernel
theorem dX0_isNumber_18 : decode cX0_isNumber 18 = .ok (.getfield 12, 3) := by decide +kernel
theorem dX0_isNumber_21 : decode cX0_isNumber 21 = .ok (.invokevirtual 65, 3) := by decide +kernel
theorem dX0_isNumber_24 : decode cX0_isNumber 24 = .ok (.iload_n 1, 1) := by decide +kernel
theorem dX0_isNumber_25 : decode cX0_isNumber 25 = .ok (.iload_n 2, 1) := by decide +kernel
theorem dX0_isNumber_26 : decode cX0_isNumber 26 = .ok (.invokestatic 144, 3) := by decide +kernel
theorem dX0_isNumber_29 : decode cX0_isNumber 29 = .ok (.ifCond .ne 11, 3) := by decide +kernel
theorem dX0_isNumber_32 : decode cX0_isNumber 32 = .ok (.aload_n 0, 1) := by decide +kernel
theorem dX0_isNumber_33 : decode cX0_isNumber 33 = .ok (.iconst 2, 1) := by decide +kernel
theorem dX0_isNumber_34 : decode cX0_isNumber 34 = .ok (.invokevirtual 113, 3) := by decide +kernel
theorem dX0_isNumber_37 : decode cX0_isNumber 37 = .ok (.ifCond .eq 7, 3) := by decide +kernel
theorem dX0_isNumber_40 : decode cX0_isNumber 40 = .ok (.iconst 1, 1) := by decide +kernel
theorem dX0_isNumber_41 : decode cX0_isNumber 41 = .ok (.goto 4, 3) := by decide +kernel
theorem dX0_isNumber_44 : decode cX0_isNumber 44 = .ok (.iconst 0, 1) := by decide +kernel
theorem dX0_isNumber_45 : decode cX0_isNumber 45 = .ok (.ireturn, 1) := by decide +kernel
theorem dX1_init_0 : decode cX1_init 0 = .ok (.aload_n 0, 1) := by decide +kernel
theorem dX1_init_1 : decode cX1_init 1 = .ok (.invokespecial 3, 3) := by decide +kernel
theorem dX1_init_4 : decode cX1_init 4 = .ok (.aload_n 0, 1) := by decide +kernel
theorem dX1_init_5 : decode cX1_init 5 = .ok (.iconst (-1), 1) := by decide +kernel
theorem dX1_init_6 : decode cX1_init 6 = .ok (.putfield 9, 3) := by decide +kernel
theorem dX1_init_9 : decode cX1_init 9 = .ok (.aload_n 0, 1) := by decide +kernel
theorem dX1_init_10 : decode cX1_init 10 = .ok (.iconst (-1), 1) := by decide +kernel
theorem dX1_init_11 : decode cX1_init 11 = .ok (.putfield 15, 3) := by decide +kernel
theorem dX1_init_14 : decode cX1_init 14 = .ok (.aload_n 0, 1) := by decide +kernel
theorem dX1_init_15 : decode cX1_init 15 = .ok (.iconst 4, 1) := by decide +kernel
theorem dX1_init_16 : decode cX1_init 16 = .ok (.newarray .int, 2) := by decide +kernel
theorem dX1_init_18 : decode cX1_init 18 = .ok (.putfield 18, 3) := by decide +kernel
theorem dX1_init_21 : decode cX1_init 21 = .ok (.return_, 1) := by decide +kernel
theorem dX1_copyFrom_0 : decode cX1_copyFrom 0 = .ok (.aload_n 0, 1) := by decide +kernel
theorem dX1_copyFrom_1 : decode cX1_copyFrom 1 = .ok (.aload_n 1, 1) := by decide +kernel
theorem dX1_copyFrom_2 : decode cX1_copyFrom 2 = .ok (.getfield 22, 3) := by decide +kernel
theorem dX1_copyFrom_5 : decode cX1_copyFrom 5 = .ok (.putfield 22, 3) := by decide +kernel
theorem dX1_copyFrom_8 : decode cX1_copyFrom 8 = .ok (.aload_n 0, 1) := by decide +kernel
theorem dX1_copyFrom_9 : decode cX1_copyFrom 9 = .ok (.aload_n 1, 1) := by decide +kernel
theorem dX1_copyFrom_10 : decode cX1_copyFrom 10 = .ok (.getfield 25, 3) := by decide +kernel
theorem dX1_copyFrom_13 : decode cX1_copyFrom 13 = .ok (.putfield 25, 3) := by decide +kernel
theorem dX1_copyFrom_16 : decode cX1_copyFrom 16 = .ok (.aload_n 0, 1) := by decide +kernel
theorem dX1_copyFrom_17 : decode cX1_copyFrom 17 = .ok (.aload_n 1, 1) := by decide +kernel
theorem dX1_copyFrom_18 : decode cX1_copyFrom 18 = .ok (.getfield 28, 3) := by decide +kernel
theorem dX1_copyFrom_21 : decode cX1_copyFrom 21 = .ok (.putfield 28, 3) := by decide +kernel
theorem dX1_copyFrom_24 : decode cX1_copyFrom 24 = .ok (.aload_n 0, 1) := by decide +kernel
theorem dX1_copyFrom_25 : decode cX1_copyFrom 25 = .ok (.aload_n 1, 1) := by decide +kernel
theorem dX1_copyFrom_26 : decode cX1_copyFrom 26 = .ok (.getfield 31, 3) := by decide +kernel
theorem dX1_copyFrom_29 : decode cX1_copyFrom 29 = .ok (.putfield 31, 3) := by decide +kernel
theorem dX1_copyFrom_32 : decode cX1_copyFrom 32 = .ok (.aload_n 0, 1) := by decide +kernel
theorem dX1_copyFrom_33 : decode cX1_copyFrom 33 = .ok (.aload_n 1, 1) := by decide +kernel
theorem dX1_copyFrom_34 : decode cX1_copyFrom 34 = .ok (.getfield 9, 3) := by decide +kernel
theorem dX1_copyFrom_37 : decode cX1_copyFrom 37 = .ok (.putfield 9, 3) := by decide +kernel
theorem dX1_copyFrom_40 : decode cX1_copyFrom 40 = .ok (.aload_n 0, 1) := by decide +kernel
theorem dX1_copyFrom_41 : decode cX1_copyFrom 41 = .ok (.aload_n 1, 1) := by decide +kernel
theorem dX1_copyFrom_42 : decode cX1_copyFrom 42 = .ok (.getfield 15, 3) := by decide +kernel
theorem dX1_copyFrom_45 : decode cX1_copyFrom 45 = .ok (.putfield 15, 3) := by decide +kernel
theorem dX1_copyFrom_48 : decode cX1_copyFrom 48 = .ok (.aload_n 0, 1) := by decide +kernel
theorem dX1_copyFrom_49 : decode cX1_copyFrom 49 = .ok (.aload_n 1, 1) := by decide +kernel
theorem dX1_copyFrom_50 : decode cX1_copyFrom 50 = .ok (.getfield 34, 3) := by decide +kernel
theorem dX1_copyFrom_53 : decode cX1_copyFrom 53 = .ok (.putfield 34, 3) := by decide +kernel
theorem dX1_copyFrom_56 : decode cX1_copyFrom 56 = .ok (.aload_n 0, 1) := by decide +kernel
theorem dX1_copyFrom_57 : decode cX1_copyFrom 57 = .ok (.aload_n 1, 1) := by decide +kernel
theorem dX1_copyFrom_58 : decode cX1_copyFrom 58 = .ok (.getfield 37, 3) := by decide +kernel
theorem dX1_copyFrom_61 : decode cX1_copyFrom 61 = .ok (.putfield 37, 3) := by decide +kernel
theorem dX1_copyFrom_64 : decode cX1_copyFrom 64 = .ok (.aload_n 1, 1) := by decide +kernel
theorem dX1_copyFrom_65 : decode cX1_copyFrom 65 = .ok (.getfield 18, 3) := by decide +kernel
theorem dX1_copyFrom_68 : decode cX1_copyFrom 68 = .ok (.iconst 0, 1) := by decide +kernel
theorem dX1_copyFrom_69 : decode cX1_copyFrom 69 = .ok (.aload_n 0, 1) := by decide +kernel
theorem dX1_copyFrom_70 : decode cX1_copyFrom 70 = .ok (.getfield 18, 3) := by decide +kernel
theorem dX1_copyFrom_73 : decode cX1_copyFrom 73 = .ok (.iconst 0, 1) := by decide +kernel
theorem dX1_copyFrom_74 : decode cX1_copyFrom 74 = .ok (.iconst 4, 1) := by decide +kernel
theorem dX1_copyFrom_75 : decode cX1_copyFrom 75 = .ok (.invokestatic 40, 3) := by decide +kernel
theorem dX1_copyFrom_78 : decode cX1_copyFrom 78 = .ok (.return_, 1) := by decide +kernel
theorem dX1_isCold_0 : decode cX1_isCold 0 = .ok (.aload_n 0, 1) := by decide +kernel
theorem dX1_isCold_1 : decode cX1_isCold 1 = .ok (.getfield 37, 3) := by decide +kernel
theorem dX1_isCold_4 : decode cX1_isCold 4 = .ok (.aload_n 0, 1) := by decide +kernel
theorem dX1_isCold_5 : decode cX1_isCold 5 = .ok (.getfield 22, 3) := by decide +kernel
theorem dX1_isCold_8 : decode cX1_isCold 8 = .ok (.if_icmp .ge 7, 3) := by decide +kernel
theorem dX1_isCold_11 : decode cX1_isCold 11 = .ok (.iconst 1, 1) := by decide +kernel
theorem dX1_isCold_12 : decode cX1_isCold 12 = .ok (.goto 4, 3) := by decide +kernel
theorem dX1_isCold_15 : decode cX1_isCold 15 = .ok (.iconst 0, 1) := by decide +kernel
theorem dX1_isCold_16 : decode cX1_isCold 16 = .ok (.ireturn, 1) := by decide +kernel
theorem dX1_payOut_0 : decode cX1_payOut 0 = .ok (.iload_n 1, 1) := by decide +kernel
theorem dX1_payOut_1 : decode cX1_payOut 1 = .ok (.aload_n 0, 1) := by decide +kernel
theorem dX1_payOut_2 : decode cX1_payOut 2 = .ok (.getfield 28, 3) := by decide +kernel
theorem dX1_payOut_5 : decode cX1_payOut 5 = .ok (.if_icmp .ge 7, 3) := by decide +kernel
theorem dX1_payOut_8 : decode cX1_payOut 8 = .ok (.iload_n 1, 1) := by decide +kernel
theorem dX1_payOut_9 : decode cX1_payOut 9 = .ok (.goto 7, 3) := by decide +kernel
theorem dX1_payOut_12 : decode cX1_payOut 12 = .ok (.aload_n 0, 1) := by decide +kernel
theorem dX1_payOut_13 : decode cX1_payOut 13 = .ok (.getfield 28, 3) := by decide +kernel
theorem dX1_payOut_16 : decode cX1_payOut 16 = .ok (.istore_n 2, 1) := by decide +kernel
theorem dX1_payOut_17 : decode cX1_payOut 17 = .ok (.aload_n 0, 1) := by decide +kernel
theorem dX1_payOut_18 : decode cX1_payOut 18 = .ok (.dup, 1) := by decide +kernel
theorem dX1_payOut_19 : decode cX1_payOut 19 = .ok (.getfield 28, 3) := by decide +kernel
theorem dX1_payOut_22 : decode cX1_payOut 22 = .ok (.iload_n 2, 1) := by decide +kernel
theorem dX1_payOut_23 : decode cX1_payOut 23 = .ok (.isub, 1) := by decide +kernel
theorem dX1_payOut_24 : decode cX1_payOut 24 = .ok (.putfield 28, 3) := by decide +kernel
theorem dX1_payOut_27 : decode cX1_payOut 27 = .ok (.aload_n 0, 1) := by decide +kernel
theorem dX1_payOut_28 : decode cX1_payOut 28 = .ok (.dup, 1) := by decide +kernel
theorem dX1_payOut_29 : decode cX1_payOut 29 = .ok (.getfield 31, 3) := by decide +kernel
theorem dX1_payOut_32 : decode cX1_payOut 32 = .ok (.iload_n 1, 1) := by decide +kernel
theorem dX1_payOut_33 : decode cX1_payOut 33 = .ok (.iload_n 2, 1) := by decide +kernel
theorem dX1_payOut_34 : decode cX1_payOut 34 = .ok (.isub, 1) := by decide +kernel
theorem dX1_payOut_35 : decode cX1_payOut 35 = .ok (.iadd, 1) := by decide +kernel
theorem dX1_payOut_36 : decode cX1_payOut 36 = .ok (.putfield 31, 3) := by decide +kernel
theorem dX1_payOut_39 : decode cX1_payOut 39 = .ok (.iload_n 2, 1) := by decide +kernel
theorem dX1_payOut_40 : decode cX1_payOut 40 = .ok (.ireturn, 1) := by decide +kernel
theorem dX1_feeForBlanket_0 : decode cX1_feeForBlanket 0 = .ok (.aload_n 0, 1) := by decide +kernel
theorem dX1_feeForBlanket_1 : decode cX1_feeForBlanket 1 = .ok (.getfield 34, 3) := by decide +kernel
theorem dX1_feeForBlanket_4 : decode cX1_feeForBlanket 4 = .ok (.iconst 2, 1) := by decide +kernel
theorem dX1_feeForBlanket_5 : decode cX1_feeForBlanket 5 = .ok (.iadd, 1) := by decide +kernel
theorem dX1_feeForBlanket_6 : decode cX1_feeForBlanket 6 = .ok (.iconst 3, 1) := by decide +kernel
theorem dX1_feeForBlanket_7 : decode cX1_feeForBlanket 7 = .ok (.idiv, 1) := by decide +kernel
theorem dX1_feeForBlanket_8 : decode cX1_feeForBlanket 8 = .ok (.ireturn, 1) := by decide +kernel
theorem dX1_ranksBefore_0 : decode cX1_ranksBefore 0 = .ok (.aload_n 0, 1) := by decide +kernel
theorem dX1_ranksBefore_1 : decode cX1_ranksBefore 1 = .ok (.getfield 18, 3) := by decide +kernel
theorem dX1_ranksBefore_4 : decode cX1_ranksBefore 4 = .ok (.iconst 2, 1) := by decide +kernel
theorem dX1_ranksBefore_5 : decode cX1_ranksBefore 5 = .ok (.iaload, 1) := by decide +kernel
theorem dX1_ranksBefore_6 : decode cX1_ranksBefore 6 = .ok (.aload_n 1, 1) := by decide +kernel
theorem dX1_ranksBefore_7 : decode cX1_ranksBefore 7 = .ok (.getfield 18, 3) := by decide +kernel
theorem dX1_ranksBefore_10 : decode cX1_ranksBefore 10 = .ok (.iconst 2, 1) := by decide +kernel
theorem dX1_ranksBefore_11 : decode cX1_ranksBefore 11 = .ok (.iaload, 1) := by decide +kernel
theorem dX1_ranksBefore_12 : decode cX1_ranksBefore 12 = .ok (.if_icmp .eq 24, 3) := by decide +kernel
theorem dX1_ranksBefore_15 : decode cX1_ranksBefore 15 = .ok (.aload_n 0, 1) := by decide +kernel
theorem dX1_ranksBefore_16 : decode cX1_ranksBefore 16 = .ok (.getfield 18, 3) := by decide +kernel
theorem dX1_ranksBefore_19 : decode cX1_ranksBefore 19 = .ok (.iconst 2, 1) := by decide +kernel
theorem dX1_ranksBefore_20 : decode cX1_ranksBefore 20 = .ok (.iaload, 1) := by decide +kernel
theorem dX1_ranksBefore_21 : decode cX1_ranksBefore 21 = .ok (.aload_n 1, 1) := by decide +kernel
theorem dX1_ranksBefore_22 : decode cX1_ranksBefore 22 = .ok (.getfield 18, 3) := by decide +kernel
theorem dX1_ranksBefore_25 : decode cX1_ranksBefore 25 = .ok (.iconst 2, 1) := by decide +kernel
theorem dX1_ranksBefore_26 : decode cX1_ranksBefore 26 = .ok (.iaload, 1) := by decide +kernel
theorem dX1_ranksBefore_27 : decode cX1_ranksBefore 27 = .ok (.if_icmp .le 7, 3) := by decide +kernel
theorem dX1_ranksBefore_30 : decode cX1_ranksBefore 30 = .ok (.iconst 1, 1) := by decide +kernel
theorem dX1_ranksBefore_31 : decode cX1_ranksBefore 31 = .ok (.goto 4, 3) := by decide +kernel
theorem dX1_ranksBefore_34 : decode cX1_ranksBefore 34 = .ok (.iconst 0, 1) := by decide +kernel
theorem dX1_ranksBefore_35 : decode cX1_ranksBefore 35 = .ok (.ireturn, 1) := by decide +kernel
theorem dX1_ranksBefore_36 : decode cX1_ranksBefore 36 = .ok (.aload_n 0, 1) := by decide +kernel
theorem dX1_ranksBefore_37 : decode cX1_ranksBefore 37 = .ok (.getfield 18, 3) := by decide +kernel
theorem dX1_ranksBefore_40 : decode cX1_ranksBefore 40 = .ok (.iconst 0, 1) := by decide +kernel
theorem dX1_ranksBefore_41 : decode cX1_ranksBefore 41 = .ok (.iaload, 1) := by decide +kernel
theorem dX1_ranksBefore_42 : decode cX1_ranksBefore 42 = .ok (.aload_n 1, 1) := by decide +kernel
theorem dX1_ranksBefore_43 : decode cX1_ranksBefore 43 = .ok (.getfield 18, 3) := by decide +kernel
theorem dX1_ranksBefore_46 : decode cX1_ranksBefore 46 = .ok (.iconst 0, 1) := by decide +kernel
theorem dX1_ranksBefore_47 : decode cX1_ranksBefore 47 = .ok (.iaload, 1) := by decide +kernel
theorem dX1_ranksBefore_48 : decode cX1_ranksBefore 48 = .ok (.if_icmp .ge 7, 3) := by decide +kernel
theorem dX1_ranksBefore_51 : decode cX1_ranksBefore 51 = .ok (.iconst 1, 1) := by decide +kernel
theorem dX1_ranksBefore_52 : decode cX1_ranksBefore 52 = .ok (.goto 4, 3) := by decide +kernel
theorem dX1_ranksBefore_55 : decode cX1_ranksBefore 55 = .ok (.iconst 0, 1) := by decide +kernel
theorem dX1_ranksBefore_56 : decode cX1_ranksBefore 56 = .ok (.ireturn, 1) := by decide +kernel
theorem dX2_init_0 : decode cX2_init 0 = .ok (.aload_n 0, 1) := by decide +kernel
theorem dX2_init_1 : decode cX2_init 1 = .ok (.invokespecial 3, 3) := by decide +kernel
theorem dX2_init_4 : decode cX2_init 4 = .ok (.aload_n 0, 1) := by decide +kernel
theorem dX2_init_5 : decode cX2_init 5 = .ok (.bipush 6, 2) := by decide +kernel
theorem dX2_init_7 : decode cX2_init 7 = .ok (.invokestatic 9, 3) := by decide +kernel
theorem dX2_init_10 : decode cX2_init 10 = .ok (.putfield 13, 3) := by decide +kernel
theorem dX2_init_13 : decode cX2_init 13 = .ok (.return_, 1) := by decide +kernel
theorem dX2_keep_0 : decode cX2_keep 0 = .ok (.aload_n 0, 1) := by decide +kernel
theorem dX2_keep_1 : decode cX2_keep 1 = .ok (.getfield 13, 3) := by decide +kernel
theorem dX2_keep_4 : decode cX2_keep 4 = .ok (.aload_n 0, 1) := by decide +kernel
theorem dX2_keep_5 : decode cX2_keep 5 = .ok (.getfield 19, 3) := by decide +kernel
theorem dX2_keep_8 : decode cX2_keep 8 = .ok (.aaload, 1) := by decide +kernel
theorem dX2_keep_9 : decode cX2_keep 9 = .ok (.aload_n 1, 1) := by decide +kernel
theorem dX2_keep_10 : decode cX2_keep 10 = .ok (.invokevirtual 23, 3) := by decide +kernel
theorem dX2_keep_13 : decode cX2_keep 13 = .ok (.aload_n 0, 1) := by decide +kernel
theorem dX2_keep_14 : decode cX2_keep 14 = .ok (.aload_n 0, 1) := by decide +kernel
theorem dX2_keep_15 : decode cX2_keep 15 = .ok (.getfield 19, 3) := by decide +kernel
theorem dX2_keep_18 : decode cX2_keep 18 = .ok (.iconst 1, 1) := by decide +kernel
theorem dX2_keep_19 : decode cX2_keep 19 = .ok (.iadd, 1) := by decide +kernel
theorem dX2_keep_20 : decode cX2_keep 20 = .ok (.bipush 6, 2) := by decide +kernel
theorem dX2_keep_22 : decode cX2_keep 22 = .ok (.irem, 1) := by decide +kernel
theorem dX2_keep_23 : decode cX2_keep 23 = .ok (.putfield 19, 3) := by decide +kernel
theorem dX2_keep_26 : decode cX2_keep 26 = .ok (.aload_n 0, 1) := by decide +kernel
theorem dX2_keep_27 : decode cX2_keep 27 = .ok (.aload_n 0, 1) := by decide +kernel
theorem dX2_keep_28 : decode cX2_keep 28 = .ok (.getfield 29, 3) := by decide +kernel
theorem dX2_keep_31 : decode cX2_keep 31 = .ok (.iconst 1, 1) := by decide +kernel
theorem dX2_keep_32 : decode cX2_keep 32 = .ok (.iadd, 1) := by decide +kernel
theorem dX2_keep_33 : decode cX2_keep 33 = .ok (.bipush 6, 2) := by decide +kernel
theorem dX2_keep_35 : decode cX2_keep 35 = .ok (.invokestatic 32, 3) := by decide +kernel
theorem dX2_keep_38 : decode cX2_keep 38 = .ok (.putfield 29, 3) := by decide +kernel
theorem dX2_keep_41 : decode cX2_keep 41 = .ok (.return_, 1) := by decide +kernel
theorem dX2_takeBack_0 : decode cX2_takeBack 0 = .ok (.aload_n 0, 1) := by decide +kernel
theorem dX2_takeBack_1 : decode cX2_takeBack 1 = .ok (.aload_n 0, 1) := by decide +kernel
theorem dX2_takeBack_2 : decode cX2_takeBack 2 = .ok (.getfield 19, 3) := by decide +kernel
theorem dX2_takeBack_5 : decode cX2_takeBack 5 = .ok (.bipush 6, 2) := by decide +kernel
theorem dX2_takeBack_7 : decode cX2_takeBack 7 = .ok (.iadd, 1) := by decide +kernel
theorem dX2_takeBack_8 : decode cX2_takeBack 8 = .ok (.iconst 1, 1) := by decide +kernel
theorem dX2_takeBack_9 : decode cX2_takeBack 9 = .ok (.isub, 1) := by decide +kernel
theorem dX2_takeBack_10 : decode cX2_takeBack 10 = .ok (.bipush 6, 2) := by decide +kernel
theorem dX2_takeBack_12 : decode cX2_takeBack 12 = .ok (.irem, 1) := by decide +kernel
theorem dX2_takeBack_13 : decode cX2_takeBack 13 = .ok (.putfield 19, 3) := by decide +kernel
theorem dX2_takeBack_16 : decode cX2_takeBack 16 = .ok (.aload_n 0, 1) := by decide +kernel
theorem dX2_takeBack_17 : decode cX2_takeBack 17 = .ok (.dup, 1) := by decide +kernel
theorem dX2_takeBack_18 : decode cX2_takeBack 18 = .ok (.getfield 29, 3) := by decide +kernel
theorem dX2_takeBack_21 : decode cX2_takeBack 21 = .ok (.iconst 1, 1) := by decide +kernel
theorem dX2_takeBack_22 : decode cX2_takeBack 22 = .ok (.isub, 1) := by decide +kernel
theorem dX2_takeBack_23 : decode cX2_takeBack 23 = .ok (.putfield 29, 3) := by decide +kernel
theorem dX2_takeBack_26 : decode cX2_takeBack 26 = .ok (.aload_n 1, 1) := by decide +kernel
theorem dX2_takeBack_27 : decode cX2_takeBack 27 = .ok (.aload_n 0, 1) := by decide +kernel
theorem dX2_takeBack_28 : decode cX2_takeBack 28 = .ok (.getfield 13, 3) := by decide +kernel
theorem dX2_takeBack_31 : decode cX2_takeBack 31 = .ok (.aload_n 0, 1) := by decide +kernel
theorem dX2_takeBack_32 : decode cX2_takeBack 32 = .ok (.getfield 19, 3) := by decide +kernel
theorem dX2_takeBack_35 : decode cX2_takeBack 35 = .ok (.aaload, 1) := by decide +kernel
theorem dX2_takeBack_36 : decode cX2_takeBack 36 = .ok (.invokevirtual 23, 3) := by decide +kernel
theorem dX2_takeBack_39 : decode cX2_takeBack 39 = .ok (.return_, 1) := by decide +kernel
theorem dX2_forget_0 : decode cX2_forget 0 = .ok (.aload_n 0, 1) := by decide +kernel
theorem dX2_forget_1 : decode cX2_forget 1 = .ok (.iconst 0, 1) := by decide +kernel
theorem dX2_forget_2 : decode cX2_forget 2 = .ok (.putfield 29, 3) := by decide +kernel
theorem dX2_forget_5 : decode cX2_forget 5 = .ok (.return_, 1) := by decide +kernel
theorem dX3_init_0 : decode cX3_init 0 = .ok (.aload_n 0, 1) := by decide +kernel
theorem dX3_init_1 : decode cX3_init 1 = .ok (.invokespecial 3, 3) := by decide +kernel
theorem dX3_init_4 : decode cX3_init 4 = .ok (.aload_n 0, 1) := by decide +kernel
theorem dX3_init_5 : decode cX3_init 5 = .ok (.bipush 12, 2) := by decide +kernel
theorem dX3_init_7 : decode cX3_init 7 = .ok (.newarray .int, 2) := by decide +kernel
theorem dX3_init_9 : decode cX3_init 9 = .ok (.putfield 9, 3) := by decide +kernel
theorem dX3_init_12 : decode cX3_init 12 = .ok (.aload_n 0, 1) := by decide +kernel
theorem dX3_init_13 : decode cX3_init 13 = .ok (.bipush 12, 2) := by decide +kernel
theorem dX3_init_15 : decode cX3_init 15 = .ok (.newarray .int, 2) := by decide +kernel
theorem dX3_init_17 : decode cX3_init 17 = .ok (.putfield 15, 3) := by decide +kernel
theorem dX3_init_20 : decode cX3_init 20 = .ok (.aload_n 0, 1) := by decide +kernel
theorem dX3_init_21 : decode cX3_init 21 = .ok (.bipush 12, 2) := by decide +kernel
theorem dX3_init_23 : decode cX3_init 23 = .ok (.newarray .int, 2) := by decide +kernel
theorem dX3_init_25 : decode cX3_init 25 = .ok (.putfield 18, 3) := by decide +kernel
theorem dX3_init_28 : decode cX3_init 28 = .ok (.aload_n 0, 1) := by decide +kernel
theorem dX3_init_29 : decode cX3_init 29 = .ok (.bipush 16, 2) := by decide +kernel
theorem dX3_init_31 : decode cX3_init 31 = .ok (.newarray .int, 2) := by decide +kernel
theorem dX3_init_33 : decode cX3_init 33 = .ok (.putfield 21, 3) := by decide +kernel
theorem dX3_init_36 : decode cX3_init 36 = .ok (.aload_n 0, 1) := by decide +kernel
theorem dX3_init_37 : decode cX3_init 37 = .ok (.bipush 16, 2) := by decide +kernel
theorem dX3_init_39 : decode cX3_init 39 = .ok (.newarray .int, 2) := by decide +kernel
theorem dX3_init_41 : decode cX3_init 41 = .ok (.putfield 24, 3) := by decide +kernel
theorem dX3_init_44 : decode cX3_init 44 = .ok (.aload_n 0, 1) := by decide +kernel
theorem dX3_init_45 : decode cX3_init 45 = .ok (.bipush 10, 2) := by decide +kernel
theorem dX3_init_47 : decode cX3_init 47 = .ok (.anewarray 27, 3) := by decide +kernel
theorem dX3_init_50 : decode cX3_init 50 = .ok (.putfield 29, 3) := by decide +kernel
theorem dX3_init_53 : decode cX3_init 53 = .ok (.iconst 0, 1) := by decide +kernel
theorem dX3_init_54 : decode cX3_init 54 = .ok (.istore_n 1, 1) := by decide +kernel
theorem dX3_init_55 : decode cX3_init 55 = .ok (.iload_n 1, 1) := by decide +kernel
theorem dX3_init_56 : decode cX3_init 56 = .ok (.aload_n 0, 1) := by decide +kernel
theorem dX3_init_57 : decode cX3_init 57 = .ok (.getfield 29, 3) := by decide +kernel
theorem dX3_init_60 : decode cX3_init 60 = .ok (.arraylength, 1) := by decide +kernel
theorem dX3_init_61 : decode cX3_init 61 = .ok (.if_icmp .ge 22, 3) := by decide +kernel
theorem dX3_init_64 : decode cX3_init 64 = .ok (.aload_n 0, 1) := by decide +kernel
theorem dX3_init_65 : decode cX3_init 65 = .ok (.getfield 29, 3) := by decide +kernel
theorem dX3_init_68 : decode cX3_init 68 = .ok (.iload_n 1, 1) := by decide +kernel
theorem dX3_init_69 : decode cX3_init 69 = .ok (.new 27, 3) := by decide +kernel
theorem dX3_init_72 : decode cX3_init 72 = .ok (.dup, 1) := by decide +kernel
theorem dX3_init_73 : decode cX3_init 73 = .ok (.invokespecial 33, 3) := by decide +kernel
theorem dX3_init_76 : decode cX3_init 76 = .ok (.aastore, 1) := by decide +kernel
theorem dX3_init_77 : decode cX3_init 77 = .ok (.iinc 1 1, 3) := by decide +kernel
theorem dX3_init_80 : decode cX3_init 80 = .ok (.goto (-25), 3) := by decide +kernel
theorem dX3_init_83 : decode cX3_init 83 = .ok (.iconst 0, 1) := by decide +kernel
theorem dX3_init_84 : decode cX3_init 84 = .ok (.istore_n 1, 1) := by decide +kernel
theorem dX3_init_85 : decode cX3_init 85 = .ok (.iload_n 1, 1) := by decide +kernel
theorem dX3_init_86 : decode cX3_init 86 = .ok (.aload_n 0, 1) := by decide +kernel
theorem dX3_init_87 : decode cX3_init 87 = .ok (.getfield 21, 3) := by decide +kernel
theorem dX3_init_90 : decode cX3_init 90 = .ok (.arraylength, 1) := by decide +kernel
theorem dX3_init_91 : decode cX3_init 91 = .ok (.if_icmp .ge 16, 3) := by decide +kernel
theorem dX3_init_94 : decode cX3_init 94 = .ok (.aload_n 0, 1) := by decide +kernel
theorem dX3_init_95 : decode cX3_init 95 = .ok (.getfield 21, 3) := by decide +kernel
theorem dX3_init_98 : decode cX3_init 98 = .ok (.iload_n 1, 1) := by decide +kernel
theorem dX3_init_99 : decode cX3_init 99 = .ok (.iconst (-1), 1) := by decide +kernel
theorem dX3_init_100 : decode cX3_init 100 = .ok (.iastore, 1) := by decide +kernel
theorem dX3_init_101 : decode cX3_init 101 = .ok (.iinc 1 1, 3) := by decide +kernel
theorem dX3_init_104 : decode cX3_init 104 = .ok (.goto (-19), 3) := by decide +kernel
theorem dX3_init_107 : decode cX3_init 107 = .ok (.return_, 1) := by decide +kernel
theorem dX3_open_0 : decode cX3_open 0 = .ok (.aload_n 0, 1) := by decide +kernel
theorem dX3_open_1 : decode cX3_open 1 = .ok (.aload_n 0, 1) := by decide +kernel
theorem dX3_open_2 : decode cX3_open 2 = .ok (.getfield 34, 3) := by decide +kernel
theorem dX3_open_5 : decode cX3_open 5 = .ok (.putfield 38, 3) := by decide +kernel
theorem dX3_open_8 : decode cX3_open 8 = .ok (.aload_n 0, 1) := by decide +kernel
theorem dX3_open_9 : decode cX3_open 9 = .ok (.aload_n 0, 1) := by decide +kernel
theorem dX3_open_10 : decode cX3_open 10 = .ok (.invokevirtual 41, 3) := by decide +kernel
theorem dX3_open_13 : decode cX3_open 13 = .ok (.putfield 45, 3) := by decide +kernel
theorem dX3_open_16 : decode cX3_open 16 = .ok (.aload_n 0, 1) := by decide +kernel
theorem dX3_open_17 : decode cX3_open 17 = .ok (.invokevirtual 48, 3) := by decide +kernel
theorem dX3_open_20 : decode cX3_open 20 = .ok (.return_, 1) := by decide +kernel
theorem dX3_copyFrom_0 : decode cX3_copyFrom 0 = .ok (.aload_n 0, 1) := by decide +kernel
theorem dX3_copyFrom_1 : decode cX3_copyFrom 1 = .ok (.aload_n 1, 1) := by decide +kernel
theorem dX3_copyFrom_2 : decode cX3_copyFrom 2 = .ok (.getfield 51, 3) := by decide +kernel
theorem dX3_copyFrom_5 : decode cX3_copyFrom 5 = .ok (.putfield 51, 3) := by decide +kernel
theorem dX3_copyFrom_8 : decode cX3_copyFrom 8 = .ok (.aload_n 0, 1) := by decide +kernel
theorem dX3_copyFrom_9 : decode cX3_copyFrom 9 = .ok (.aload_n 1, 1) := by decide +kernel
theorem dX3_copyFrom_10 : decode cX3_copyFrom 10 = .ok (.getfield 34, 3) := by decide +kernel
theorem dX3_copyFrom_13 : decode cX3_copyFrom 13 = .ok (.putfield 34, 3) := by decide +kernel
theorem dX3_copyFrom_16 : decode cX3_copyFrom 16 = .ok (.aload_n 0, 1) := by decide +kernel
theorem dX3_copyFrom_17 : decode cX3_copyFrom 17 = .ok (.aload_n 1, 1) := by decide +kernel
theorem dX3_copyFrom_18 : decode cX3_copyFrom 18 = .ok (.getfield 54, 3) := by decide +kernel
theorem dX3_copyFrom_21 : decode cX3_copyFrom 21 = .ok (.putfield 54, 3) := by decide +kernel
theorem dX3_copyFrom_24 : decode cX3_copyFrom 24 = .ok (.aload_n 0, 1) := by decide +kernel
theorem dX3_copyFrom_25 : decode cX3_copyFrom 25 = .ok (.aload_n 1, 1) := by decide +kernel
theorem dX3_copyFrom_26 : decode cX3_copyFrom 26 = .ok (.getfield 57, 3) := by decide +kernel
theorem dX3_copyFrom_29 : decode cX3_copyFrom 29 = .ok (.putfield 57, 3) := by decide +kernel
theorem dX3_copyFrom_32 : decode cX3_copyFrom 32 = .ok (.aload_n 0, 1) := by decide +kernel
theorem dX3_copyFrom_33 : decode cX3_copyFrom 33 = .ok (.aload_n 1, 1) := by decide +kernel
theorem dX3_copyFrom_34 : decode cX3_copyFrom 34 = .ok (.getfield 60, 3) := by decide +kernel
theorem dX3_copyFrom_37 : decode cX3_copyFrom 37 = .ok (.putfield 60, 3) := by decide +kernel
theorem dX3_copyFrom_40 : decode cX3_copyFrom 40 = .ok (.aload_n 0, 1) := by decide +kernel
theorem dX3_copyFrom_41 : decode cX3_copyFrom 41 = .ok (.aload_n 1, 1) := by decide +kernel
theorem dX3_copyFrom_42 : decode cX3_copyFrom 42 = .ok (.getfield 63, 3) := by decide +kernel
theorem dX3_copyFrom_45 : decode cX3_copyFrom 45 = .ok (.putfield 63, 3) := by decide +kernel
theorem dX3_copyFrom_48 : decode cX3_copyFrom 48 = .ok (.aload_n 0, 1) := by decide +kernel
theorem dX3_copyFrom_49 : decode cX3_copyFrom 49 = .ok (.aload_n 1, 1) := by decide +kernel
theorem dX3_copyFrom_50 : decode cX3_copyFrom 50 = .ok (.getfield 66, 3) := by decide +kernel
theorem dX3_copyFrom_53 : decode cX3_copyFrom 53 = .ok (.putfield 66, 3) := by decide +kernel
theorem dX3_copyFrom_56 : decode cX3_copyFrom 56 = .ok (.aload_n 0, 1) := by decide +kernel
theorem dX3_copyFrom_57 : decode cX3_copyFrom 57 = .ok (.aload_n 1, 1) := by decide +kernel
theorem dX3_copyFrom_58 : decode cX3_copyFrom 58 = .ok (.getfield 45, 3) := by decide +kernel
theorem dX3_copyFrom_61 : decode cX3_copyFrom 61 = .ok (.putfield 45, 3) := by decide +kernel
theorem dX3_copyFrom_64 : decode cX3_copyFrom 64 = .ok (.aload_n 0, 1) := by decide +kernel
theorem dX3_copyFrom_65 : decode cX3_copyFrom 65 = .ok (.aload_n 1, 1) := by decide +kernel
theorem dX3_copyFrom_66 : decode cX3_copyFrom 66 = .ok (.getfield 38, 3) := by decide +kernel
theorem dX3_copyFrom_69 : decode cX3_copyFrom 69 = .ok (.putfield 38, 3) := by decide +kernel
theorem dX3_copyFrom_72 : decode cX3_copyFrom 72 = .ok (.aload_n 0, 1) := by decide +kernel
theorem dX3_copyFrom_73 : decode cX3_copyFrom 73 = .ok (.aload_n 1, 1) := by decide +kernel
theorem dX3_copyFrom_74 : decode cX3_copyFrom 74 = .ok (.getfield 69, 3) := by decide +kernel
theorem dX3_copyFrom_77 : decode cX3_copyFrom 77 = .ok (.putfield 69, 3) := by decide +kernel
theorem dX3_copyFrom_80 : decode cX3_copyFrom 80 = .ok (.aload_n 0, 1) := by decide +kernel
theorem dX3_copyFrom_81 : decode cX3_copyFrom 81 = .ok (.aload_n 1, 1) := by decide +kernel
theorem dX3_copyFrom_82 : decode cX3_copyFrom 82 = .ok (.getfield 72, 3) := by decide +kernel
theorem dX3_copyFrom_85 : decode cX3_copyFrom 85 = .ok (.putfield 72, 3) := by decide +kernel
theorem dX3_copyFrom_88 : decode cX3_copyFrom 88 = .ok (.aload_n 0, 1) := by decide +kernel
theorem dX3_copyFrom_89 : decode cX3_copyFrom 89 = .ok (.aload_n 1, 1) := by decide +kernel
theorem dX3_copyFrom_90 : decode cX3_copyFrom 90 = .ok (.getfield 75, 3) := by decide +kernel
theorem dX3_copyFrom_93 : decode cX3_copyFrom 93 = .ok (.putfield 75, 3) := by decide +kernel
theorem dX3_copyFrom_96 : decode cX3_copyFrom 96 = .ok (.aload_n 0, 1) := by decide +kernel
theorem dX3_copyFrom_97 : decode cX3_copyFrom 97 = .ok (.aload_n 1, 1) := by decide +kernel
theorem dX3_copyFrom_98 : decode cX3_copyFrom 98 = .ok (.getfield 78, 3) := by decide +kernel
theorem dX3_copyFrom_101 : decode cX3_copyFrom 101 = .ok (.putfield 78, 3) := by decide +kernel
theorem dX3_copyFrom_104 : decode cX3_copyFrom 104 = .ok (.aload_n 1, 1) := by decide +kernel
theorem dX3_copyFrom_105 : decode cX3_copyFrom 105 = .ok (.getfield 9, 3) := by decide +kernel
theorem dX3_copyFrom_108 : decode cX3_copyFrom 108 = .ok (.iconst 0, 1) := by decide +kernel
theorem dX3_copyFrom_109 : decode cX3_copyFrom 109 = .ok (.aload_n 0, 1) := by decide +kernel
theorem dX3_copyFrom_110 : decode cX3_copyFrom 110 = .ok (.getfield 9, 3) := by decide +kernel
theorem dX3_copyFrom_113 : decode cX3_copyFrom 113 = .ok (.iconst 0, 1) := by decide +kernel
theorem dX3_copyFrom_114 : decode cX3_copyFrom 114 = .ok (.bipush 12, 2) := by decide +kernel
theorem dX3_copyFrom_116 : decode cX3_copyFrom 116 = .ok (.invokestatic 81, 3) := by decide +kernel
theorem dX3_copyFrom_119 : decode cX3_copyFrom 119 = .ok (.aload_n 1, 1) := by decide +kernel
theorem dX3_copyFrom_120 : decode cX3_copyFrom 120 = .ok (.getfield 15, 3) := by decide +kernel
theorem dX3_copyFrom_123 : decode cX3_copyFrom 123 = .ok (.iconst 0, 1) := by decide +kernel
theorem dX3_copyFrom_124 : decode cX3_copyFrom 124 = .ok (.aload_n 0, 1) := by decide +kernel
theorem dX3_copyFrom_125 : decode cX3_copyFrom 125 = .ok (.getfield 15, 3) := by decide +kernel
theorem dX3_copyFrom_128 : decode cX3_copyFrom 128 = .ok (.iconst 0, 1) := by decide +kernel
theorem dX3_copyFrom_129 : decode cX3_copyFrom 129 = .ok (.bipush 12, 2) := by decide +kernel
theorem dX3_copyFrom_131 : decode cX3_copyFrom 131 = .ok (.invokestatic 81, 3) := by decide +kernel
theorem dX3_copyFrom_134 : decode cX3_copyFrom 134 = .ok (.aload_n 1, 1) := by decide +kernel
theorem dX3_copyFrom_135 : decode cX3_copyFrom 135 = .ok (.getfield 18, 3) := by decide +kernel
theorem dX3_copyFrom_138 : decode cX3_copyFrom 138 = .ok (.iconst 0, 1) := by decide +kernel
theorem dX3_copyFrom_139 : decode cX3_copyFrom 139 = .ok (.aload_n 0, 1) := by decide +kernel
theorem dX3_copyFrom_140 : decode cX3_copyFrom 140 = .ok (.getfield 18, 3) := by decide +kernel
theorem dX3_copyFrom_143 : decode cX3_copyFrom 143 = .ok (.iconst 0, 1) := by decide +kernel
theorem dX3_copyFrom_144 : decode cX3_copyFrom 144 = .ok (.bipush 12, 2) := by decide +kernel
theorem dX3_copyFrom_146 : decode cX3_copyFrom 146 = .ok (.invokestatic 81, 3) := by decide +kernel
theorem dX3_copyFrom_149 : decode cX3_copyFrom 149 = .ok (.aload_n 1, 1) := by decide +kernel
theorem dX3_copyFrom_150 : decode cX3_copyFrom 150 = .ok (.getfield 21, 3) := by decide +kernel
theorem dX3_copyFrom_153 : decode cX3_copyFrom 153 = .ok (.iconst 0, 1) := by decide +kernel
theorem dX3_copyFrom_154 : decode cX3_copyFrom 154 = .ok (.aload_n 0, 1) := by decide +kernel
theorem dX3_copyFrom_155 : decode cX3_copyFrom 155 = .ok (.getfield 21, 3) := by decide +kernel
theorem dX3_copyFrom_158 : decode cX3_copyFrom 158 = .ok (.iconst 0, 1) := by decide +kernel
theorem dX3_copyFrom_159 : decode cX3_copyFrom 159 = .ok (.bipush 16, 2) := by decide +kernel
theorem dX3_copyFrom_161 : decode cX3_copyFrom 161 = .ok (.invokestatic 81, 3) := by decide +kernel
theorem dX3_copyFrom_164 : decode cX3_copyFrom 164 = .ok (.aload_n 1, 1) := by decide +kernel
theorem dX3_copyFrom_165 : decode cX3_copyFrom 165 = .ok (.getfield 24, 3) := by decide +kernel
theorem dX3_copyFrom_168 : decode cX3_copyFrom 168 = .ok (.iconst 0, 1) := by decide +kernel
theorem dX3_copyFrom_169 : decode cX3_copyFrom 169 = .ok (.aload_n 0, 1) := by decide +kernel
theorem dX3_copyFrom_170 : decode cX3_copyFrom 170 = .ok (.getfield 24, 3) := by decide +kernel
theorem dX3_copyFrom_173 : decode cX3_copyFrom 173 = .ok (.iconst 0, 1) := by decide +kernel
theorem dX3_copyFrom_174 : decode cX3_copyFrom 174 = .ok (.bipush 16, 2) := by decide +kernel
theorem dX3_copyFrom_176 : decode cX3_copyFrom 176 = .ok (.invokestatic 81, 3) := by decide +kernel
theorem dX3_copyFrom_179 : decode cX3_copyFrom 179 = .ok (.iconst 0, 1) := by decide +kernel
theorem dX3_copyFrom_180 : decode cX3_copyFrom 180 = .ok (.istore_n 2, 1) := by decide +kernel
theorem dX3_copyFrom_181 : decode cX3_copyFrom 181 = .ok (.iload_n 2, 1) := by decide +kernel
theorem dX3_copyFrom_182 : decode cX3_copyFrom 182 = .ok (.aload_n 0, 1) := by decide +kernel
theorem dX3_copyFrom_183 : decode cX3_copyFrom 183 = .ok (.getfield 78, 3) := by decide +kernel
theorem dX3_copyFrom_186 : decode cX3_copyFrom 186 = .ok (.if_icmp .ge 24, 3) := by decide +kernel
theorem dX3_copyFrom_189 : decode cX3_copyFrom 189 = .ok (.aload_n 0, 1) := by decide +kernel
theorem dX3_copyFrom_190 : decode cX3_copyFrom 190 = .ok (.getfield 29, 3) := by decide +kernel
theorem dX3_copyFrom_193 : decode cX3_copyFrom 193 = .ok (.iload_n 2, 1) := by decide +kernel
theorem dX3_copyFrom_194 : decode cX3_copyFrom 194 = .ok (.aaload, 1) := by decide +kernel
theorem dX3_copyFrom_195 : decode cX3_copyFrom 195 = .ok (.aload_n 1, 1) := by decide +kernel
theorem dX3_copyFrom_196 : decode cX3_copyFrom 196 = .ok (.getfield 29, 3) := by decide +kernel
theorem dX3_copyFrom_199 : decode cX3_copyFrom 199 = .ok (.iload_n 2, 1) := by decide +kernel
theorem dX3_copyFrom_200 : decode cX3_copyFrom 200 = .ok (.aaload, 1) := by decide +kernel
theorem dX3_copyFrom_201 : decode cX3_copyFrom 201 = .ok (.invokevirtual 87, 3) := by decide +kernel
theorem dX3_copyFrom_204 : decode cX3_copyFrom 204 = .ok (.iinc 2 1, 3) := by decide +kernel
theorem dX3_copyFrom_207 : decode cX3_copyFrom 207 = .ok (.goto (-26), 3) := by decide +kernel
theorem dX3_copyFrom_210 : decode cX3_copyFrom 210 = .ok (.return_, 1) := by decide +kernel
theorem dX3_hasBunk_0 : decode cX3_hasBunk 0 = .ok (.iconst 0, 1) := by decide +kernel
theorem dX3_hasBunk_1 : decode cX3_hasBunk 1 = .ok (.iload_n 1, 1) := by decide +kernel
theorem dX3_hasBunk_2 : decode cX3_hasBunk 2 = .ok (.if_icmp .gt 15, 3) := by decide +kernel
theorem dX3_hasBunk_5 : decode cX3_hasBunk 5 = .ok (.iload_n 1, 1) := by decide +kernel
theorem dX3_hasBunk_6 : decode cX3_hasBunk 6 = .ok (.aload_n 0, 1) := by decide +kernel
theorem dX3_hasBunk_7 : decode cX3_hasBunk 7 = .ok (.getfield 69, 3) := by decide +kernel
theorem dX3_hasBunk_10 : decode cX3_hasBunk 10 = .ok (.if_icmp .ge 7, 3) := by decide +kernel
theorem dX3_hasBunk_13 : decode cX3_hasBunk 13 = .ok (.iconst 1, 1) := by decide +kernel
theorem dX3_hasBunk_14 : decode cX3_hasBunk 14 = .ok (.goto 4, 3) := by decide +kernel
theorem dX3_hasBunk_17 : decode cX3_hasBunk 17 = .ok (.iconst 0, 1) := by decide +kernel
theorem dX3_hasBunk_18 : decode cX3_hasBunk 18 = .ok (.ireturn, 1) := by decide +kernel
theorem dX3_hasBlanket_0 : decode cX3_hasBlanket 0 = .ok (.iconst 0, 1) := by decide +kernel
theorem dX3_hasBlanket_1 : decode cX3_hasBlanket 1 = .ok (.iload_n 1, 1) := by decide +kernel
theorem dX3_hasBlanket_2 : decode cX3_hasBlanket 2 = .ok (.if_icmp .gt 15, 3) := by decide +kernel
theorem dX3_hasBlanket_5 : decode cX3_hasBlanket 5 = .ok (.iload_n 1, 1) := by decide +kernel
theorem dX3_hasBlanket_6 : decode cX3_hasBlanket 6 = .ok (.aload_n 0, 1) := by decide +kernel
theorem dX3_hasBlanket_7 : decode cX3_hasBlanket 7 = .ok (.getfield 72, 3) := by decide +kernel
theorem dX3_hasBlanket_10 : decode cX3_hasBlanket 10 = .ok (.if_icmp .ge 7, 3) := by decide +kernel
theorem dX3_hasBlanket_13 : decode cX3_hasBlanket 13 = .ok (.iconst 1, 1) := by decide +kernel
theorem dX3_hasBlanket_14 : decode cX3_hasBlanket 14 = .ok (.goto 4, 3) := by decide +kernel
theorem dX3_hasBlanket_17 : decode cX3_hasBlanket 17 = .ok (.iconst 0, 1) := by decide +kernel
theorem dX3_hasBlanket_18 : decode cX3_hasBlanket 18 = .ok (.ireturn, 1) := by decide +kernel
theorem dX3_hasHiker_0 : decode cX3_hasHiker 0 = .ok (.iconst 0, 1) := by decide +kernel
theorem dX3_hasHiker_1 : decode cX3_hasHiker 1 = .ok (.iload_n 1, 1) := by decide +kernel
theorem dX3_hasHiker_2 : decode cX3_hasHiker 2 = .ok (.if_icmp .gt 15, 3) := by decide +kernel
theorem dX3_hasHiker_5 : decode cX3_hasHiker 5 = .ok (.iload_n 1, 1) := by decide +kernel
theorem dX3_hasHiker_6 : decode cX3_hasHiker 6 = .ok (.aload_n 0, 1) := by decide +kernel
theorem dX3_hasHiker_7 : decode cX3_hasHiker 7 = .ok (.getfield 78, 3) := by decide +kernel
theorem dX3_hasHiker_10 : decode cX3_hasHiker 10 = .ok (.if_icmp .ge 7, 3) := by decide +kernel
theorem dX3_hasHiker_13 : decode cX3_hasHiker 13 = .ok (.iconst 1, 1) := by decide +kernel
theorem dX3_hasHiker_14 : decode cX3_hasHiker 14 = .ok (.goto 4, 3) := by decide +kernel
theorem dX3_hasHiker_17 : decode cX3_hasHiker 17 = .ok (.iconst 0, 1) := by decide +kernel
theorem dX3_hasHiker_18 : decode cX3_hasHiker 18 = .ok (.ireturn, 1) := by decide +kernel
theorem dX3_temperatureInside_0 : decode cX3_temperatureInside 0 = .ok (.aload_n 0, 1) := by decide +kernel
theorem dX3_temperatureInside_1 : decode cX3_temperatureInside 1 = .ok (.getfield 75, 3) := by decide +kernel
theorem dX3_temperatureInside_4 : decode cX3_temperatureInside 4 = .ok (.iconst 1, 1) := by decide +kernel
theorem dX3_temperatureInside_5 : decode cX3_temperatureInside 5 = .ok (.if_icmp .ge 7, 3) := by decide +kernel
theorem dX3_temperatureInside_8 : decode cX3_temperatureInside 8 = .ok (.iconst 0, 1) := by decide +kernel
theorem dX3_temperatureInside_9 : decode cX3_temperatureInside 9 = .ok (.goto 17, 3) := by decide +kernel
theorem dX3_temperatureInside_12 : decode cX3_temperatureInside 12 = .ok (.aload_n 0, 1) := by decide +kernel
theorem dX3_temperatureInside_13 : decode cX3_temperatureInside 13 = .ok (.getfield 18, 3) := by decide +kernel
theorem dX3_temperatureInside_16 : decode cX3_temperatureInside 16 = .ok (.aload_n 0, 1) := by decide +kernel
theorem dX3_temperatureInside_17 : decode cX3_temperatureInside 17 = .ok (.getfield 51, 3) := by decide +kernel
theorem dX3_temperatureInside_20 : decode cX3_temperatureInside 20 = .ok (.aload_n 0, 1) := by decide +kernel
theorem dX3_temperatureInside_21 : decode cX3_temperatureInside 21 = .ok (.getfield 75, 3) := by decide +kernel
theorem dX3_temperatureInside_24 : decode cX3_temperatureInside 24 = .ok (.irem, 1) := by decide +kernel
theorem dX3_temperatureInside_25 : decode cX3_temperatureInside 25 = .ok (.iaload, 1) := by decide +kernel
theorem dX3_temperatureInside_26 : decode cX3_temperatureInside 26 = .ok (.istore_n 1, 1) := by decide +kernel
theorem dX3_temperatureInside_27 : decode cX3_temperatureInside 27 = .ok (.iload_n 1, 1) := by decide +kernel
theorem dX3_temperatureInside_28 : decode cX3_temperatureInside 28 = .ok (.aload_n 0, 1) := by decide +kernel
theorem dX3_temperatureInside_29 : decode cX3_temperatureInside 29 = .ok (.getfield 54, 3) := by decide +kernel
theorem dX3_temperatureInside_32 : decode cX3_temperatureInside 32 = .ok (.iadd, 1) := by decide +kernel
theorem dX3_temperatureInside_33 : decode cX3_temperatureInside 33 = .ok (.ireturn, 1) := by decide +kernel
theorem dX3_measure_0 : decode cX3_measure 0 = .ok (.aload_n 0, 1) := by decide +kernel
theorem dX3_measure_1 : decode cX3_measure 1 = .ok (.invokevirtual 91, 3) := by decide +kernel
theorem dX3_measure_4 : decode cX3_measure 4 = .ok (.istore_n 1, 1) := by decide +kernel
theorem dX3_measure_5 : decode cX3_measure 5 = .ok (.iconst 0, 1) := by decide +kernel
theorem dX3_measure_6 : decode cX3_measure 6 = .ok (.istore_n 2, 1) := by decide +kernel
theorem dX3_measure_7 : decode cX3_measure 7 = .ok (.iload_n 2, 1) := by decide +kernel
theorem dX3_measure_8 : decode cX3_measure 8 = .ok (.aload_n 0, 1) := by decide +kernel
theorem dX3_measure_9 : decode cX3_measure 9 = .ok (.getfield 24, 3) := by decide +kernel
theorem dX3_measure_12 : decode cX3_measure 12 = .ok (.arraylength, 1) := by decide +kernel
theorem dX3_measure_13 : decode cX3_measure 13 = .ok (.if_icmp .ge 16, 3) := by decide +kernel
theorem dX3_measure_16 : decode cX3_measure 16 = .ok (.aload_n 0, 1) := by decide +kernel
theorem dX3_measure_17 : decode cX3_measure 17 = .ok (.getfield 24, 3) := by decide +kernel
theorem dX3_measure_20 : decode cX3_measure 20 = .ok (.iload_n 2, 1) := by decide +kernel
theorem dX3_measure_21 : decode cX3_measure 21 = .ok (.iconst 0, 1) := by decide +kernel
theorem dX3_measure_22 : decode cX3_measure 22 = .ok (.iastore, 1) := by decide +kernel
theorem dX3_measure_23 : decode cX3_measure 23 = .ok (.iinc 2 1, 3) := by decide +kernel
theorem dX3_measure_26 : decode cX3_measure 26 = .ok (.goto (-19), 3) := by decide +kernel
theorem dX3_measure_29 : decode cX3_measure 29 = .ok (.iconst 0, 1) := by decide +kernel
theorem dX3_measure_30 : decode cX3_measure 30 = .ok (.istore_n 2, 1) := by decide +kernel
theorem dX3_measure_31 : decode cX3_measure 31 = .ok (.iload_n 2, 1) := by decide +kernel
theorem dX3_measure_32 : decode cX3_measure 32 = .ok (.aload_n 0, 1) := by decide +kernel
theorem dX3_measure_33 : decode cX3_measure 33 = .ok (.getfield 78, 3) := by decide +kernel
theorem dX3_measure_36 : decode cX3_measure 36 = .ok (.if_icmp .ge 96, 3) := by decide +kernel
theorem dX3_measure_39 : decode cX3_measure 39 = .ok (.aload_n 0, 1) := by decide +kernel
theorem dX3_measure_40 : decode cX3_measure 40 = .ok (.getfield 29, 3) := by decide +kernel
theorem dX3_measure_43 : decode cX3_measure 43 = .ok (.iload_n 2, 1) := by decide +kernel
theorem dX3_measure_44 : decode cX3_measure 44 = .ok (.aaload, 1) := by decide +kernel
theorem dX3_measure_45 : decode cX3_measure 45 = .ok (.astore_n 3, 1) := by decide +kernel
theorem dX3_measure_46 : decode cX3_measure 46 = .ok (.aload_n 3, 1) := by decide +kernel
theorem dX3_measure_47 : decode cX3_measure 47 = .ok (.aload_n 0, 1) := by decide +kernel
theorem dX3_measure_48 : decode cX3_measure 48 = .ok (.aload_n 3, 1) := by decide +kernel
theorem dX3_measure_49 : decode cX3_measure 49 = .ok (.getfield 94, 3) := by decide +kernel
theorem dX3_measure_52 : decode cX3_measure 52 = .ok (.invokevirtual 97, 3) := by decide +kernel
theorem dX3_measure_55 : decode cX3_measure 55 = .ok (.ifCond .eq 15, 3) := by decide +kernel
theorem dX3_measure_58 : decode cX3_measure 58 = .ok (.aload_n 0, 1) := by decide +kernel
theorem dX3_measure_59 : decode cX3_measure 59 = .ok (.getfield 15, 3) := by decide +kernel
theorem dX3_measure_62 : decode cX3_measure 62 = .ok (.aload_n 3, 1) := by decide +kernel
theorem dX3_measure_63 : decode cX3_measure 63 = .ok (.getfield 94, 3) := by decide +kernel
theorem dX3_measure_66 : decode cX3_measure 66 = .ok (.iaload, 1) := by decide +kernel
theorem dX3_measure_67 : decode cX3_measure 67 = .ok (.goto 4, 3) := by decide +kernel
theorem dX3_measure_70 : decode cX3_measure 70 = .ok (.iconst 0, 1) := by decide +kernel
theorem dX3_measure_71 : decode cX3_measure 71 = .ok (.putfield 101, 3) := by decide +kernel
theorem dX3_measure_74 : decode cX3_measure 74 = .ok (.aload_n 3, 1) := by decide +kernel
theorem dX3_measure_75 : decode cX3_measure 75 = .ok (.iload_n 1, 1) := by decide +kernel
theorem dX3_measure_76 : decode cX3_measure 76 = .ok (.aload_n 3, 1) := by decide +kernel
theorem dX3_measure_77 : decode cX3_measure 77 = .ok (.getfield 101, 3) := by decide +kernel
theorem dX3_measure_80 : decode cX3_measure 80 = .ok (.iadd, 1) := by decide +kernel
theorem dX3_measure_81 : decode cX3_measure 81 = .ok (.aload_n 0, 1) := by decide +kernel
theorem dX3_measure_82 : decode cX3_measure 82 = .ok (.aload_n 3, 1) := by decide +kernel
theorem dX3_measure_83 : decode cX3_measure 83 = .ok (.getfield 104, 3) := by decide +kernel
theorem dX3_measure_86 : decode cX3_measure 86 = .ok (.invokevirtual 107, 3) := by decide +kernel
theorem dX3_measure_89 : decode cX3_measure 89 = .ok (.iadd, 1) := by decide +kernel
theorem dX3_measure_90 : decode cX3_measure 90 = .ok (.putfield 111, 3) := by decide +kernel
theorem dX3_measure_93 : decode cX3_measure 93 = .ok (.aload_n 0, 1) := by decide +kernel
theorem dX3_measure_94 : decode cX3_measure 94 = .ok (.aload_n 3, 1) := by decide +kernel
theorem dX3_measure_95 : decode cX3_measure 95 = .ok (.getfield 104, 3) := by decide +kernel
theorem dX3_measure_98 : decode cX3_measure 98 = .ok (.invokevirtual 114, 3) := by decide +kernel
theorem dX3_measure_101 : decode cX3_measure 101 = .ok (.ifCond .eq 25, 3) := by decide +kernel
theorem dX3_measure_104 : decode cX3_measure 104 = .ok (.aload_n 3, 1) := by decide +kernel
theorem dX3_measure_105 : decode cX3_measure 105 = .ok (.invokevirtual 117, 3) := by decide +kernel
theorem dX3_measure_108 : decode cX3_measure 108 = .ok (.ifCond .ne 18, 3) := by decide +kernel
theorem dX3_measure_111 : decode cX3_measure 111 = .ok (.aload_n 0, 1) := by decide +kernel
theorem dX3_measure_112 : decode cX3_measure 112 = .ok (.getfield 24, 3) := by decide +kernel
theorem dX3_measure_115 : decode cX3_measure 115 = .ok (.aload_n 3, 1) := by decide +kernel
theorem dX3_measure_116 : decode cX3_measure 116 = .ok (.getfield 104, 3) := by decide +kernel
theorem dX3_measure_119 : decode cX3_measure 119 = .ok (.iconst 2, 1) := by decide +kernel
theorem dX3_measure_120 : decode cX3_measure 120 = .ok (.iadd, 1) := by decide +kernel
theorem dX3_measure_121 : decode cX3_measure 121 = .ok (.aload_n 3, 1) := by decide +kernel
theorem dX3_measure_122 : decode cX3_measure 122 = .ok (.getfield 121, 3) := by decide +kernel
theorem dX3_measure_125 : decode cX3_measure 125 = .ok (.iastore, 1) := by decide +kernel
theorem dX3_measure_126 : decode cX3_measure 126 = .ok (.iinc 2 1, 3) := by decide +kernel
theorem dX3_measure_129 : decode cX3_measure 129 = .ok (.goto (-98), 3) := by decide +kernel
theorem dX3_measure_132 : decode cX3_measure 132 = .ok (.return_, 1) := by decide +kernel
theorem dX3_warmthOfBunk_0 : decode cX3_warmthOfBunk 0 = .ok (.aload_n 0, 1) := by decide +kernel
theorem dX3_warmthOfBunk_1 : decode cX3_warmthOfBunk 1 = .ok (.iload_n 1, 1) := by decide +kernel
theorem dX3_warmthOfBunk_2 : decode cX3_warmthOfBunk 2 = .ok (.invokevirtual 114, 3) := by decide +kernel
theorem dX3_warmthOfBunk_5 : decode cX3_warmthOfBunk 5 = .ok (.ifCond .ne 5, 3) := by decide +kernel
theorem dX3_warmthOfBunk_8 : decode cX3_warmthOfBunk 8 = .ok (.iconst 0, 1) := by decide +kernel
theorem dX3_warmthOfBunk_9 : decode cX3_warmthOfBunk 9 = .ok (.ireturn, 1) := by decide +kernel
theorem dX3_warmthOfBunk_10 : decode cX3_warmthOfBunk 10 = .ok (.iload_n 1, 1) := by decide +kernel
theorem dX3_warmthOfBunk_11 : decode cX3_warmthOfBunk 11 = .ok (.iconst 2, 1) := by decide +kernel
theorem dX3_warmthOfBunk_12 : decode cX3_warmthOfBunk 12 = .ok (.iadd, 1) := by decide +kernel
theorem dX3_warmthOfBunk_13 : decode cX3_warmthOfBunk 13 = .ok (.istore_n 2, 1) := by decide +kernel
theorem dX3_warmthOfBunk_14 : decode cX3_warmthOfBunk 14 = .ok (.aload_n 0, 1) := by decide +kernel
theorem dX3_warmthOfBunk_15 : decode cX3_warmthOfBunk 15 = .ok (.getfield 21, 3) := by decide +kernel
theorem dX3_warmthOfBunk_18 : decode cX3_warmthOfBunk 18 = .ok (.iload_n 2, 1) := by decide +kernel
theorem dX3_warmthOfBunk_19 : decode cX3_warmthOfBunk 19 = .ok (.iconst 1, 1) := by decide +kernel
theorem dX3_warmthOfBunk_20 : decode cX3_warmthOfBunk 20 = .ok (.isub, 1) := by decide +kernel
theorem dX3_warmthOfBunk_21 : decode cX3_warmthOfBunk 21 = .ok (.iaload, 1) := by decide +kernel
theorem dX3_warmthOfBunk_22 : decode cX3_warmthOfBunk 22 = .ok (.iconst (-1), 1) := by decide +kernel
theorem dX3_warmthOfBunk_23 : decode cX3_warmthOfBunk 23 = .ok (.if_icmp .ne 7, 3) := by decide +kernel
theorem dX3_warmthOfBunk_26 : decode cX3_warmthOfBunk 26 = .ok (.iconst 0, 1) := by decide +kernel
theorem dX3_warmthOfBunk_27 : decode cX3_warmthOfBunk 27 = .ok (.goto 4, 3) := by decide +kernel
theorem dX3_warmthOfBunk_30 : decode cX3_warmthOfBunk 30 = .ok (.iconst 1, 1) := by decide +kernel
theorem dX3_warmthOfBunk_31 : decode cX3_warmthOfBunk 31 = .ok (.istore_n 3, 1) := by decide +kernel
theorem dX3_warmthOfBunk_32 : decode cX3_warmthOfBunk 32 = .ok (.aload_n 0, 1) := by decide +kernel
theorem dX3_warmthOfBunk_33 : decode cX3_warmthOfBunk 33 = .ok (.getfield 21, 3) := by decide +kernel
theorem dX3_warmthOfBunk_36 : decode cX3_warmthOfBunk 36 = .ok (.iload_n 2, 1) := by decide +kernel
theorem dX3_warmthOfBunk_37 : decode cX3_warmthOfBunk 37 = .ok (.iconst 1, 1) := by decide +kernel
theorem dX3_warmthOfBunk_38 : decode cX3_warmthOfBunk 38 = .ok (.iadd, 1) := by decide +kernel
theorem dX3_warmthOfBunk_39 : decode cX3_warmthOfBunk 39 = .ok (.iaload, 1) := by decide +kernel
theorem dX3_warmthOfBunk_40 : decode cX3_warmthOfBunk 40 = .ok (.iconst (-1), 1) := by decide +kernel
theorem dX3_warmthOfBunk_41 : decode cX3_warmthOfBunk 41 = .ok (.if_icmp .ne 7, 3) := by decide +kernel
theorem dX3_warmthOfBunk_44 : decode cX3_warmthOfBunk 44 = .ok (.iconst 0, 1) := by decide +kernel
theorem dX3_warmthOfBunk_45 : decode cX3_warmthOfBunk 45 = .ok (.goto 4, 3) := by decide +kernel
theorem dX3_warmthOfBunk_48 : decode cX3_warmthOfBunk 48 = .ok (.iconst 1, 1) := by decide +kernel
theorem dX3_warmthOfBunk_49 : decode cX3_warmthOfBunk 49 = .ok (.istore 4, 2) := by decide +kernel
theorem dX3_warmthOfBunk_51 : decode cX3_warmthOfBunk 51 = .ok (.aload_n 0, 1) := by decide +kernel
theorem dX3_warmthOfBunk_52 : decode cX3_warmthOfBunk 52 = .ok (.getfield 9, 3) := by decide +kernel
theorem dX3_warmthOfBunk_55 : decode cX3_warmthOfBunk 55 = .ok (.iload_n 1, 1) := by decide +kernel
theorem dX3_warmthOfBunk_56 : decode cX3_warmthOfBunk 56 = .ok (.iaload, 1) := by decide +kernel
theorem dX3_warmthOfBunk_57 : decode cX3_warmthOfBunk 57 = .ok (.iload_n 3, 1) := by decide +kernel
theorem dX3_warmthOfBunk_58 : decode cX3_warmthOfBunk 58 = .ok (.iadd, 1) := by decide +kernel
theorem dX3_warmthOfBunk_59 : decode cX3_warmthOfBunk 59 = .ok (.iload 4, 2) := by decide +kernel
theorem dX3_warmthOfBunk_61 : decode cX3_warmthOfBunk 61 = .ok (.iadd, 1) := by decide +kernel
theorem dX3_warmthOfBunk_62 : decode cX3_warmthOfBunk 62 = .ok (.ireturn, 1) := by decide +kernel
theorem dX3_sleeperIn_0 : decode cX3_sleeperIn 0 = .ok (.aload_n 0, 1) := by decide +kernel
theorem dX3_sleeperIn_1 : decode cX3_sleeperIn 1 = .ok (.iload_n 1, 1) := by decide +kernel
theorem dX3_sleeperIn_2 : decode cX3_sleeperIn 2 = .ok (.invokevirtual 114, 3) := by decide +kernel
theorem dX3_sleeperIn_5 : decode cX3_sleeperIn 5 = .ok (.ifCond .eq 14, 3) := by decide +kernel
theorem dX3_sleeperIn_8 : decode cX3_sleeperIn 8 = .ok (.aload_n 0, 1) := by decide +kernel
theorem dX3_sleeperIn_9 : decode cX3_sleeperIn 9 = .ok (.getfield 21, 3) := by decide +kernel
theorem dX3_sleeperIn_12 : decode cX3_sleeperIn 12 = .ok (.iload_n 1, 1) := by decide +kernel
theorem dX3_sleeperIn_13 : decode cX3_sleeperIn 13 = .ok (.iconst 2, 1) := by decide +kernel
theorem dX3_sleeperIn_14 : decode cX3_sleeperIn 14 = .ok (.iadd, 1) := by decide +kernel
theorem dX3_sleeperIn_15 : decode cX3_sleeperIn 15 = .ok (.iaload, 1) := by decide +kernel
theorem dX3_sleeperIn_16 : decode cX3_sleeperIn 16 = .ok (.goto 4, 3) := by decide +kernel
theorem dX3_sleeperIn_19 : decode cX3_sleeperIn 19 = .ok (.iconst (-1), 1) := by decide +kernel
theorem dX3_sleeperIn_20 : decode cX3_sleeperIn 20 = .ok (.ireturn, 1) := by decide +kernel
theorem dX3_noiseAt_0 : decode cX3_noiseAt 0 = .ok (.iload_n 1, 1) := by decide +kernel
theorem dX3_noiseAt_1 : decode cX3_noiseAt 1 = .ok (.ifCond .lt 11, 3) := by decide +kernel
theorem dX3_noiseAt_4 : decode cX3_noiseAt 4 = .ok (.iload_n 1, 1) := by decide +kernel
theorem dX3_noiseAt_5 : decode cX3_noiseAt 5 = .ok (.aload_n 0, 1) := by decide +kernel
theorem dX3_noiseAt_6 : decode cX3_noiseAt 6 = .ok (.getfield 69, 3) := by decide +kernel
theorem dX3_noiseAt_9 : decode cX3_noiseAt 9 = .ok (.if_icmp .lt 5, 3) := by decide +kernel
theorem dX3_noiseAt_12 : decode cX3_noiseAt 12 = .ok (.iconst 0, 1) := by decide +kernel
theorem dX3_noiseAt_13 : decode cX3_noiseAt 13 = .ok (.ireturn, 1) := by decide +kernel
theorem dX3_noiseAt_14 : decode cX3_noiseAt 14 = .ok (.iload_n 1, 1) := by decide +kernel
theorem dX3_noiseAt_15 : decode cX3_noiseAt 15 = .ok (.iconst 2, 1) := by decide +kernel
theorem dX3_noiseAt_16 : decode cX3_noiseAt 16 = .ok (.iadd, 1) := by decide +kernel
theorem dX3_noiseAt_17 : decode cX3_noiseAt 17 = .ok (.istore_n 2, 1) := by decide +kernel
theorem dX3_noiseAt_18 : decode cX3_noiseAt 18 = .ok (.aload_n 0, 1) := by decide +kernel
theorem dX3_noiseAt_19 : decode cX3_noiseAt 19 = .ok (.getfield 24, 3) := by decide +kernel
theorem dX3_noiseAt_22 : decode cX3_noiseAt 22 = .ok (.iload_n 2, 1) := by decide +kernel
theorem dX3_noiseAt_23 : decode cX3_noiseAt 23 = .ok (.iconst 1, 1) := by decide +kernel
theorem dX3_noiseAt_24 : decode cX3_noiseAt 24 = .ok (.isub, 1) := by decide +kernel
theorem dX3_noiseAt_25 : decode cX3_noiseAt 25 = .ok (.iaload, 1) := by decide +kernel
theorem dX3_noiseAt_26 : decode cX3_noiseAt 26 = .ok (.aload_n 0, 1) := by decide +kernel
theorem dX3_noiseAt_27 : decode cX3_noiseAt 27 = .ok (.getfield 24, 3) := by decide +kernel
theorem dX3_noiseAt_30 : decode cX3_noiseAt 30 = .ok (.iload_n 2, 1) := by decide +kernel
theorem dX3_noiseAt_31 : decode cX3_noiseAt 31 = .ok (.iconst 1, 1) := by decide +kernel
theorem dX3_noiseAt_32 : decode cX3_noiseAt 32 = .ok (.iadd, 1) := by decide +kernel
theorem dX3_noiseAt_33 : decode cX3_noiseAt 33 = .ok (.iaload, 1) := by decide +kernel
theorem dX3_noiseAt_34 : decode cX3_noiseAt 34 = .ok (.iadd, 1) := by decide +kernel
theorem dX3_noiseAt_35 : decode cX3_noiseAt 35 = .ok (.istore_n 3, 1) := by decide +kernel
theorem dX3_noiseAt_36 : decode cX3_noiseAt 36 = .ok (.aload_n 0, 1) := by decide +kernel
theorem dX3_noiseAt_37 : decode cX3_noiseAt 37 = .ok (.getfield 24, 3) := by decide +kernel
theorem dX3_noiseAt_40 : decode cX3_noiseAt 40 = .ok (.iload_n 2, 1) := by decide +kernel
theorem dX3_noiseAt_41 : decode cX3_noiseAt 41 = .ok (.iconst 2, 1) := by decide +kernel
theorem dX3_noiseAt_42 : decode cX3_noiseAt 42 = .ok (.isub, 1) := by decide +kernel
theorem dX3_noiseAt_43 : decode cX3_noiseAt 43 = .ok (.iaload, 1) := by decide +kernel
theorem dX3_noiseAt_44 : decode cX3_noiseAt 44 = .ok (.aload_n 0, 1) := by decide +kernel
theorem dX3_noiseAt_45 : decode cX3_noiseAt 45 = .ok (.getfield 24, 3) := by decide +kernel
theorem dX3_noiseAt_48 : decode cX3_noiseAt 48 = .ok (.iload_n 2, 1) := by decide +kernel
theorem dX3_noiseAt_49 : decode cX3_noiseAt 49 = .ok (.iconst 2, 1) := by decide +kernel
theorem dX3_noiseAt_50 : decode cX3_noiseAt 50 = .ok (.iadd, 1) := by decide +kernel
theorem dX3_noiseAt_51 : decode cX3_noiseAt 51 = .ok (.iaload, 1) := by decide +kernel
theorem dX3_noiseAt_52 : decode cX3_noiseAt 52 = .ok (.iadd, 1) := by decide +kernel
theorem dX3_noiseAt_53 : decode cX3_noiseAt 53 = .ok (.istore 4, 2) := by decide +kernel
theorem dX3_noiseAt_55 : decode cX3_noiseAt 55 = .ok (.iload_n 3, 1) := by decide +kernel
theorem dX3_noiseAt_56 : decode cX3_noiseAt 56 = .ok (.iload 4, 2) := by decide +kernel
theorem dX3_noiseAt_58 : decode cX3_noiseAt 58 = .ok (.iconst 2, 1) := by decide +kernel
theorem dX3_noiseAt_59 : decode cX3_noiseAt 59 = .ok (.idiv, 1) := by decide +kernel
theorem dX3_noiseAt_60 : decode cX3_noiseAt 60 = .ok (.iadd, 1) := by decide +kernel
theorem dX3_noiseAt_61 : decode cX3_noiseAt 61 = .ok (.ireturn, 1) := by decide +kernel
theorem dX3_activityNow_0 : decode cX3_activityNow 0 = .ok (.aload_n 0, 1) := by decide +kernel
theorem dX3_activityNow_1 : decode cX3_activityNow 1 = .ok (.getfield 29, 3) := by decide +kernel
theorem dX3_activityNow_4 : decode cX3_activityNow 4 = .ok (.iload_n 1, 1) := by decide +kernel
theorem dX3_activityNow_5 : decode cX3_activityNow 5 = .ok (.aaload, 1) := by decide +kernel
theorem dX3_activityNow_6 : decode cX3_activityNow 6 = .ok (.astore_n 2, 1) := by decide +kernel
theorem dX3_activityNow_7 : decode cX3_activityNow 7 = .ok (.aload_n 2, 1) := by decide +kernel
theorem dX3_activityNow_8 : decode cX3_activityNow 8 = .ok (.invokevirtual 117, 3) := by decide +kernel
theorem dX3_activityNow_11 : decode cX3_activityNow 11 = .ok (.ifCond .eq 5, 3) := by decide +kernel
theorem dX3_activityNow_14 : decode cX3_activityNow 14 = .ok (.iconst 0, 1) := by decide +kernel
theorem dX3_activityNow_15 : decode cX3_activityNow 15 = .ok (.ireturn, 1) := by decide +kernel
theorem dX3_activityNow_16 : decode cX3_activityNow 16 = .ok (.aload_n 2, 1) := by decide +kernel
theorem dX3_activityNow_17 : decode cX3_activityNow 17 = .ok (.getfield 104, 3) := by decide +kernel
theorem dX3_activityNow_20 : decode cX3_activityNow 20 = .ok (.iconst (-1), 1) := by decide +kernel
theorem dX3_activityNow_21 : decode cX3_activityNow 21 = .ok (.if_icmp .ne 5, 3) := by decide +kernel
theorem dX3_activityNow_24 : decode cX3_activityNow 24 = .ok (.iconst 3, 1) := by decide +kernel
theorem dX3_activityNow_25 : decode cX3_activityNow 25 = .ok (.ireturn, 1) := by decide +kernel
theorem dX3_activityNow_26 : decode cX3_activityNow 26 = .ok (.aload_n 0, 1) := by decide +kernel
theorem dX3_activityNow_27 : decode cX3_activityNow 27 = .ok (.aload_n 2, 1) := by decide +kernel
theorem dX3_activityNow_28 : decode cX3_activityNow 28 = .ok (.getfield 104, 3) := by decide +kernel
theorem dX3_activityNow_31 : decode cX3_activityNow 31 = .ok (.invokevirtual 124, 3) := by decide +kernel
theorem dX3_activityNow_34 : decode cX3_activityNow 34 = .ok (.bipush 6, 2) := by decide +kernel
theorem dX3_activityNow_36 : decode cX3_activityNow 36 = .ok (.if_icmp .le 7, 3) := by decide +kernel
theorem dX3_activityNow_39 : decode cX3_activityNow 39 = .ok (.iconst 1, 1) := by decide +kernel
theorem dX3_activityNow_40 : decode cX3_activityNow 40 = .ok (.goto 4, 3) := by decide +kernel
theorem dX3_activityNow_43 : decode cX3_activityNow 43 = .ok (.iconst 2, 1) := by decide +kernel
theorem dX3_activityNow_44 : decode cX3_activityNow 44 = .ok (.ireturn, 1) := by decide +kernel
theorem dX3_userOfBlanket_0 : decode cX3_userOfBlanket 0 = .ok (.iconst 0, 1) := by decide +kernel
theorem dX3_userOfBlanket_1 : decode cX3_userOfBlanket 1 = .ok (.istore_n 2, 1) := by decide +kernel
theorem dX3_userOfBlanket_2 : decode cX3_userOfBlanket 2 = .ok (.iload_n 2, 1) := by decide +kernel
theorem dX3_userOfBlanket_3 : decode cX3_userOfBlanket 3 = .ok (.aload_n 0, 1) := by decide +kernel
theorem dX3_userOfBlanket_4 : decode cX3_userOfBlanket 4 = .ok (.getfield 78, 3) := by decide +kernel
theorem dX3_userOfBlanket_7 : decode cX3_userOfBlanket 7 = .ok (.if_icmp .ge 24, 3) := by decide +kernel
theorem dX3_userOfBlanket_10 : decode cX3_userOfBlanket 10 = .ok (.aload_n 0, 1) := by decide +kernel
theorem dX3_userOfBlanket_11 : decode cX3_userOfBlanket 11 = .ok (.getfield 29, 3) := by decide +kernel
theorem dX3_userOfBlanket_14 : decode cX3_userOfBlanket 14 = .ok (.iload_n 2, 1) := by decide +kernel
theorem dX3_userOfBlanket_15 : decode cX3_userOfBlanket 15 = .ok (.aaload, 1) := by decide +kernel
theorem dX3_userOfBlanket_16 : decode cX3_userOfBlanket 16 = .ok (.getfield 94, 3) := by decide +kernel
theorem dX3_userOfBlanket_19 : decode cX3_userOfBlanket 19 = .ok (.iload_n 1, 1) := by decide +kernel
theorem dX3_userOfBlanket_20 : decode cX3_userOfBlanket 20 = .ok (.if_icmp .ne 5, 3) := by decide +kernel
theorem dX3_userOfBlanket_23 : decode cX3_userOfBlanket 23 = .ok (.iload_n 2, 1) := by decide +kernel
theorem dX3_userOfBlanket_24 : decode cX3_userOfBlanket 24 = .ok (.ireturn, 1) := by decide +kernel
theorem dX3_userOfBlanket_25 : decode cX3_userOfBlanket 25 = .ok (.iinc 2 1, 3) := by decide +kernel
theorem dX3_userOfBlanket_28 : decode cX3_userOfBlanket 28 = .ok (.goto (-26), 3) := by decide +kernel
theorem dX3_userOfBlanket_31 : decode cX3_userOfBlanket 31 = .ok (.iconst (-1), 1) := by decide +kernel
theorem dX3_userOfBlanket_32 : decode cX3_userOfBlanket 32 = .ok (.ireturn, 1) := by decide +kernel
theorem dX3_hikersWithoutBlanket_0 : decode cX3_hikersWithoutBlanket 0 = .ok (.iconst 0, 1) := by decide +kernel
theorem dX3_hikersWithoutBlanket_1 : decode cX3_hikersWithoutBlanket 1 = .ok (.istore_n 1, 1) := by decide +kernel
theorem dX3_hikersWithoutBlanket_2 : decode cX3_hikersWithoutBlanket 2 = .ok (.iconst 0, 1) := by decide +kernel
theorem dX3_hikersWithoutBlanket_3 : decode cX3_hikersWithoutBlanket 3 = .ok (.istore_n 2, 1) := by decide +kernel
theorem dX3_hikersWithoutBlanket_4 : decode cX3_hikersWithoutBlanket 4 = .ok (.iload_n 2, 1) := by decide +kernel
theorem dX3_hikersWithoutBlanket_5 : decode cX3_hikersWithoutBlanket 5 = .ok (.aload_n 0, 1) := by decide +kernel
theorem dX3_hikersWithoutBlanket_6 : decode cX3_hikersWithoutBlanket 6 = .ok (.getfield 78, 3) := by decide +kernel
theorem dX3_hikersWithoutBlanket_9 : decode cX3_hikersWithoutBlanket 9 = .ok (.if_icmp .ge 25, 3) := by decide +kernel
theorem dX3_hikersWithoutBlanket_12 : decode cX3_hikersWithoutBlanket 12 = .ok (.aload_n 0, 1) := by decide +kernel
theorem dX3_hikersWithoutBlanket_13 : decode cX3_hikersWithoutBlanket 13 = .ok (.getfield 29, 3) := by decide +kernel
theorem dX3_hikersWithoutBlanket_16 : decode cX3_hikersWithoutBlanket 16 = .ok (.iload_n 2, 1) := by decide +kernel
theorem dX3_hikersWithoutBlanket_17 : decode cX3_hikersWithoutBlanket 17 = .ok (.aaload, 1) := by decide +kernel
theorem dX3_hikersWithoutBlanket_18 : decode cX3_hikersWithoutBlanket 18 = .ok (.getfield 94, 3) := by decide +kernel
theorem dX3_hikersWithoutBlanket_21 : decode cX3_hikersWithoutBlanket 21 = .ok (.iconst (-1), 1) := by decide +kernel
theorem dX3_hikersWithoutBlanket_22 : decode cX3_hikersWithoutBlanket 22 = .ok (.if_icmp .ne 6, 3) := by decide +kernel
theorem dX3_hikersWithoutBlanket_25 : decode cX3_hikersWithoutBlanket 25 = .ok (.iinc 1 1, 3) := by decide +kernel
theorem dX3_hikersWithoutBlanket_28 : decode cX3_hikersWithoutBlanket 28 = .ok (.iinc 2 1, 3) := by decide +kernel
theorem dX3_hikersWithoutBlanket_31 : decode cX3_hikersWithoutBlanket 31 = .ok (.goto (-27), 3) := by decide +kernel
theorem dX3_hikersWithoutBlanket_34 : decode cX3_hikersWithoutBlanket 34 = .ok (.iload_n 1, 1) := by decide +kernel
theorem dX3_hikersWithoutBlanket_35 : decode cX3_hikersWithoutBlanket 35 = .ok (.ireturn, 1) := by decide +kernel
theorem dX3_coldCount_0 : decode cX3_coldCount 0 = .ok (.aload_n 0, 1) := by decide +kernel
theorem dX3_coldCount_1 : decode cX3_coldCount 1 = .ok (.iconst 0, 1) := by decide +kernel
theorem dX3_coldCount_2 : decode cX3_coldCount 2 = .ok (.invokevirtual 172, 3) := by decide +kernel
theorem dX3_coldCount_5 : decode cX3_coldCount 5 = .ok (.ireturn, 1) := by decide +kernel
theorem dX3_countOf_0 : decode cX3_countOf 0 = .ok (.iconst 0, 1) := by decide +kernel
theorem dX3_countOf_1 : decode cX3_countOf 1 = .ok (.istore_n 2, 1) := by decide +kernel
theorem dX3_countOf_2 : decode cX3_countOf 2 = .ok (.iconst 0, 1) := by decide +kernel
theorem dX3_countOf_3 : decode cX3_countOf 3 = .ok (.istore_n 3, 1) := by decide +kernel
theorem dX3_countOf_4 : decode cX3_countOf 4 = .ok (.iload_n 3, 1) := by decide +kernel
theorem dX3_countOf_5 : decode cX3_countOf 5 = .ok (.aload_n 0, 1) := by decide +kernel
theorem dX3_countOf_6 : decode cX3_countOf 6 = .ok (.getfield 78, 3) := by decide +kernel
theorem dX3_countOf_9 : decode cX3_countOf 9 = .ok (.if_icmp .ge 21, 3) := by decide +kernel
theorem dX3_countOf_12 : decode cX3_countOf 12 = .ok (.aload_n 0, 1) := by decide +kernel
theorem dX3_countOf_13 : decode cX3_countOf 13 = .ok (.iload_n 3, 1) := by decide +kernel
theorem dX3_countOf_14 : decode cX3_countOf 14 = .ok (.invokevirtual 175, 3) := by decide +kernel
theorem dX3_countOf_17 : decode cX3_countOf 17 = .ok (.iload_n 1, 1) := by decide +kernel
theorem dX3_countOf_18 : decode cX3_countOf 18 = .ok (.if_icmp .ne 6, 3) := by decide +kernel
theorem dX3_countOf_21 : decode cX3_countOf 21 = .ok (.iinc 2 1, 3) := by decide +kernel
theorem dX3_countOf_24 : decode cX3_countOf 24 = .ok (.iinc 3 1, 3) := by decide +kernel
theorem dX3_countOf_27 : decode cX3_countOf 27 = .ok (.goto (-23), 3) := by decide +kernel
theorem dX3_countOf_30 : decode cX3_countOf 30 = .ok (.iload_n 2, 1) := by decide +kernel
theorem dX3_countOf_31 : decode cX3_countOf 31 = .ok (.ireturn, 1) := by decide +kernel
theorem dX3_hikerOfRank_0 : decode cX3_hikerOfRank 0 = .ok (.iconst 0, 1) := by decide +kernel
theorem dX3_hikerOfRank_1 : decode cX3_hikerOfRank 1 = .ok (.istore_n 2, 1) := by decide +kernel
theorem dX3_hikerOfRank_2 : decode cX3_hikerOfRank 2 = .ok (.iload_n 2, 1) := by decide +kernel
theorem dX3_hikerOfRank_3 : decode cX3_hikerOfRank 3 = .ok (.aload_n 0, 1) := by decide +kernel
theorem dX3_hikerOfRank_4 : decode cX3_hikerOfRank 4 = .ok (.getfield 78, 3) := by decide +kernel
theorem dX3_hikerOfRank_7 : decode cX3_hikerOfRank 7 = .ok (.if_icmp .ge 20, 3) := by decide +kernel
theorem dX3_hikerOfRank_10 : decode cX3_hikerOfRank 10 = .ok (.aload_n 0, 1) := by decide +kernel
theorem dX3_hikerOfRank_11 : decode cX3_hikerOfRank 11 = .ok (.iload_n 2, 1) := by decide +kernel
theorem dX3_hikerOfRank_12 : decode cX3_hikerOfRank 12 = .ok (.invokevirtual 181, 3) := by decide +kernel
theorem dX3_hikerOfRank_15 : decode cX3_hikerOfRank 15 = .ok (.iload_n 1, 1) := by decide +kernel
theorem dX3_hikerOfRank_16 : decode cX3_hikerOfRank 16 = .ok (.if_icmp .ne 5, 3) := by decide +kernel
theorem dX3_hikerOfRank_19 : decode cX3_hikerOfRank 19 = .ok (.iload_n 2, 1) := by decide +kernel
theorem dX3_hikerOfRank_20 : decode cX3_hikerOfRank 20 = .ok (.ireturn, 1) := by decide +kernel
theorem dX3_hikerOfRank_21 : decode cX3_hikerOfRank 21 = .ok (.iinc 2 1, 3) := by decide +kernel
theorem dX3_hikerOfRank_24 : decode cX3_hikerOfRank 24 = .ok (.goto (-22), 3) := by decide +kernel
theorem dX3_hikerOfRank_27 : decode cX3_hikerOfRank 27 = .ok (.iconst (-1), 1) := by decide +kernel
theorem dX3_hikerOfRank_28 : decode cX3_hikerOfRank 28 = .ok (.ireturn, 1) := by decide +kernel
theorem dX3_rankOfHiker_0 : decode cX3_rankOfHiker 0 = .ok (.iconst 0, 1) := by decide +kernel
theorem dX3_rankOfHiker_1 : decode cX3_rankOfHiker 1 = .ok (.istore_n 2, 1) := by decide +kernel
theorem dX3_rankOfHiker_2 : decode cX3_rankOfHiker 2 = .ok (.iconst 0, 1) := by decide +kernel
theorem dX3_rankOfHiker_3 : decode cX3_rankOfHiker 3 = .ok (.istore_n 3, 1) := by decide +kernel
theorem dX3_rankOfHiker_4 : decode cX3_rankOfHiker 4 = .ok (.iload_n 3, 1) := by decide +kernel
theorem dX3_rankOfHiker_5 : decode cX3_rankOfHiker 5 = .ok (.aload_n 0, 1) := by decide +kernel
theorem dX3_rankOfHiker_6 : decode cX3_rankOfHiker 6 = .ok (.getfield 78, 3) := by decide +kernel
theorem dX3_rankOfHiker_9 : decode cX3_rankOfHiker 9 = .ok (.if_icmp .ge 65, 3) := by decide +kernel
theorem dX3_rankOfHiker_12 : decode cX3_rankOfHiker 12 = .ok (.iload_n 3, 1) := by decide +kernel
theorem dX3_rankOfHiker_13 : decode cX3_rankOfHiker 13 = .ok (.iload_n 1, 1) := by decide +kernel
theorem dX3_rankOfHiker_14 : decode cX3_rankOfHiker 14 = .ok (.if_icmp .ge 25, 3) := by decide +kernel
theorem dX3_rankOfHiker_17 : decode cX3_rankOfHiker 17 = .ok (.aload_n 0, 1) := by decide +kernel
theorem dX3_rankOfHiker_18 : decode cX3_rankOfHiker 18 = .ok (.getfield 29, 3) := by decide +kernel
theorem dX3_rankOfHiker_21 : decode cX3_rankOfHiker 21 = .ok (.iload_n 1, 1) := by decide +kernel
theorem dX3_rankOfHiker_22 : decode cX3_rankOfHiker 22 = .ok (.aaload, 1) := by decide +kernel
theorem dX3_rankOfHiker_23 : decode cX3_rankOfHiker 23 = .ok (.aload_n 0, 1) := by decide +kernel
theorem dX3_rankOfHiker_24 : decode cX3_rankOfHiker 24 = .ok (.getfield 29, 3) := by decide +kernel
theorem dX3_rankOfHiker_27 : decode cX3_rankOfHiker 27 = .ok (.iload_n 3, 1) := by decide +kernel
theorem dX3_rankOfHiker_28 : decode cX3_rankOfHiker 28 = .ok (.aaload, 1) := by decide +kernel
theorem dX3_rankOfHiker_29 : decode cX3_rankOfHiker 29 = .ok (.invokevirtual 184, 3) := by decide +kernel
theorem dX3_rankOfHiker_32 : decode cX3_rankOfHiker 32 = .ok (.ifCond .ne 7, 3) := by decide +kernel
theorem dX3_rankOfHiker_35 : decode cX3_rankOfHiker 35 = .ok (.iconst 1, 1) := by decide +kernel
theorem dX3_rankOfHiker_36 : decode cX3_rankOfHiker 36 = .ok (.goto 4, 3) := by decide +kernel
theorem dX3_rankOfHiker_39 : decode cX3_rankOfHiker 39 = .ok (.iconst 0, 1) := by decide +kernel
theorem dX3_rankOfHiker_40 : decode cX3_rankOfHiker 40 = .ok (.istore 4, 2) := by decide +kernel
theorem dX3_rankOfHiker_42 : decode cX3_rankOfHiker 42 = .ok (.iload 4, 2) := by decide +kernel
theorem dX3_rankOfHiker_44 : decode cX3_rankOfHiker 44 = .ok (.ifCond .ne 21, 3) := by decide +kernel
theorem dX3_rankOfHiker_47 : decode cX3_rankOfHiker 47 = .ok (.aload_n 0, 1) := by decide +kernel
theorem dX3_rankOfHiker_48 : decode cX3_rankOfHiker 48 = .ok (.getfield 29, 3) := by decide +kernel
theorem dX3_rankOfHiker_51 : decode cX3_rankOfHiker 51 = .ok (.iload_n 3, 1) := by decide +kernel
theorem dX3_rankOfHiker_52 : decode cX3_rankOfHiker 52 = .ok (.aaload, 1) := by decide +kernel
theorem dX3_rankOfHiker_53 : decode cX3_rankOfHiker 53 = .ok (.aload_n 0, 1) := by decide +kernel
theorem dX3_rankOfHiker_54 : decode cX3_rankOfHiker 54 = .ok (.getfield 29, 3) := by decide +kernel
theorem dX3_rankOfHiker_57 : decode cX3_rankOfHiker 57 = .ok (.iload_n 1, 1) := by decide +kernel
theorem dX3_rankOfHiker_58 : decode cX3_rankOfHiker 58 = .ok (.aaload, 1) := by decide +kernel
theorem dX3_rankOfHiker_59 : decode cX3_rankOfHiker 59 = .ok (.invokevirtual 184, 3) := by decide +kernel
theorem dX3_rankOfHiker_62 : decode cX3_rankOfHiker 62 = .ok (.ifCond .eq 6, 3) := by decide +kernel
theorem dX3_rankOfHiker_65 : decode cX3_rankOfHiker 65 = .ok (.iinc 2 1, 3) := by decide +kernel
theorem dX3_rankOfHiker_68 : decode cX3_rankOfHiker 68 = .ok (.iinc 3 1, 3) := by decide +kernel
theorem dX3_rankOfHiker_71 : decode cX3_rankOfHiker 71 = .ok (.goto (-67), 3) := by decide +kernel
theorem dX3_rankOfHiker_74 : decode cX3_rankOfHiker 74 = .ok (.iload_n 2, 1) := by decide +kernel
theorem dX3_rankOfHiker_75 : decode cX3_rankOfHiker 75 = .ok (.ireturn, 1) := by decide +kernel
theorem dX3_sumOfCoins_0 : decode cX3_sumOfCoins 0 = .ok (.iconst 0, 1) := by decide +kernel
theorem dX3_sumOfCoins_1 : decode cX3_sumOfCoins 1 = .ok (.istore_n 1, 1) := by decide +kernel
theorem dX3_sumOfCoins_2 : decode cX3_sumOfCoins 2 = .ok (.iconst 0, 1) := by decide +kernel
theorem dX3_sumOfCoins_3 : decode cX3_sumOfCoins 3 = .ok (.istore_n 2, 1) := by decide +kernel
theorem dX3_sumOfCoins_4 : decode cX3_sumOfCoins 4 = .ok (.iload_n 2, 1) := by decide +kernel
theorem dX3_sumOfCoins_5 : decode cX3_sumOfCoins 5 = .ok (.aload_n 0, 1) := by decide +kernel
theorem dX3_sumOfCoins_6 : decode cX3_sumOfCoins 6 = .ok (.getfield 78, 3) := by decide +kernel
theorem dX3_sumOfCoins_9 : decode cX3_sumOfCoins 9 = .ok (.if_icmp .ge 21, 3) := by decide +kernel
theorem dX3_sumOfCoins_12 : decode cX3_sumOfCoins 12 = .ok (.iload_n 1, 1) := by decide +kernel
theorem dX3_sumOfCoins_13 : decode cX3_sumOfCoins 13 = .ok (.aload_n 0, 1) := by decide +kernel
theorem dX3_sumOfCoins_14 : decode cX3_sumOfCoins 14 = .ok (.getfield 29, 3) := by decide +kernel
theorem dX3_sumOfCoins_17 : decode cX3_sumOfCoins 17 = .ok (.iload_n 2, 1) := by decide +kernel
theorem dX3_sumOfCoins_18 : decode cX3_sumOfCoins 18 = .ok (.aaload, 1) := by decide +kernel
theorem dX3_sumOfCoins_19 : decode cX3_sumOfCoins 19 = .ok (.getfield 188, 3) := by decide +kernel
theorem dX3_sumOfCoins_22 : decode cX3_sumOfCoins 22 = .ok (.iadd, 1) := by decide +kernel
theorem dX3_sumOfCoins_23 : decode cX3_sumOfCoins 23 = .ok (.istore_n 1, 1) := by decide +kernel
theorem dX3_sumOfCoins_24 : decode cX3_sumOfCoins 24 = .ok (.iinc 2 1, 3) := by decide +kernel
theorem dX3_sumOfCoins_27 : decode cX3_sumOfCoins 27 = .ok (.goto (-23), 3) := by decide +kernel
theorem dX3_sumOfCoins_30 : decode cX3_sumOfCoins 30 = .ok (.iload_n 1, 1) := by decide +kernel
theorem dX3_sumOfCoins_31 : decode cX3_sumOfCoins 31 = .ok (.ireturn, 1) := by decide +kernel
theorem dX3_sumOfDebts_0 : decode cX3_sumOfDebts 0 = .ok (.iconst 0, 1) := by decide +kernel
theorem dX3_sumOfDebts_1 : decode cX3_sumOfDebts 1 = .ok (.istore_n 1, 1) := by decide +kernel
theorem dX3_sumOfDebts_2 : decode cX3_sumOfDebts 2 = .ok (.iconst 0, 1) := by decide +kernel
theorem dX3_sumOfDebts_3 : decode cX3_sumOfDebts 3 = .ok (.istore_n 2, 1) := by decide +kernel
theorem dX3_sumOfDebts_4 : decode cX3_sumOfDebts 4 = .ok (.iload_n 2, 1) := by decide +kernel
theorem dX3_sumOfDebts_5 : decode cX3_sumOfDebts 5 = .ok (.aload_n 0, 1) := by decide +kernel
theorem dX3_sumOfDebts_6 : decode cX3_sumOfDebts 6 = .ok (.getfield 78, 3) := by decide +kernel
theorem dX3_sumOfDebts_9 : decode cX3_sumOfDebts 9 = .ok (.if_icmp .ge 21, 3) := by decide +kernel
theorem dX3_sumOfDebts_12 : decode cX3_sumOfDebts 12 = .ok (.iload_n 1, 1) := by decide +kernel
theorem dX3_sumOfDebts_13 : decode cX3_sumOfDebts 13 = .ok (.aload_n 0, 1) := by decide +kernel
theorem dX3_sumOfDebts_14 : decode cX3_sumOfDebts 14 = .ok (.getfield 29, 3) := by decide +kernel
theorem dX3_sumOfDebts_17 : decode cX3_sumOfDebts 17 = .ok (.iload_n 2, 1) := by decide +kernel
theorem dX3_sumOfDebts_18 : decode cX3_sumOfDebts 18 = .ok (.aaload, 1) := by decide +kernel
theorem dX3_sumOfDebts_19 : decode cX3_sumOfDebts 19 = .ok (.getfield 191, 3) := by decide +kernel
theorem dX3_sumOfDebts_22 : decode cX3_sumOfDebts 22 = .ok (.iadd, 1) := by decide +kernel
theorem dX3_sumOfDebts_23 : decode cX3_sumOfDebts 23 = .ok (.istore_n 1, 1) := by decide +kernel
theorem dX3_sumOfDebts_24 : decode cX3_sumOfDebts 24 = .ok (.iinc 2 1, 3) := by decide +kernel
theorem dX3_sumOfDebts_27 : decode cX3_sumOfDebts 27 = .ok (.goto (-23), 3) := by decide +kernel
theorem dX3_sumOfDebts_30 : decode cX3_sumOfDebts 30 = .ok (.iload_n 1, 1) := by decide +kernel
theorem dX3_sumOfDebts_31 : decode cX3_sumOfDebts 31 = .ok (.ireturn, 1) := by decide +kernel
theorem dX3_sumOfWarmths_0 : decode cX3_sumOfWarmths 0 = .ok (.iconst 0, 1) := by decide +kernel
theorem dX3_sumOfWarmths_1 : decode cX3_sumOfWarmths 1 = .ok (.istore_n 1, 1) := by decide +kernel
theorem dX3_sumOfWarmths_2 : decode cX3_sumOfWarmths 2 = .ok (.iconst 0, 1) := by decide +kernel
theorem dX3_sumOfWarmths_3 : decode cX3_sumOfWarmths 3 = .ok (.istore_n 2, 1) := by decide +kernel
theorem dX3_sumOfWarmths_4 : decode cX3_sumOfWarmths 4 = .ok (.iload_n 2, 1) := by decide +kernel
theorem dX3_sumOfWarmths_5 : decode cX3_sumOfWarmths 5 = .ok (.aload_n 0, 1) := by decide +kernel
theorem dX3_sumOfWarmths_6 : decode cX3_sumOfWarmths 6 = .ok (.getfield 78, 3) := by decide +kernel
theorem dX3_sumOfWarmths_9 : decode cX3_sumOfWarmths 9 = .ok (.if_icmp .ge 21, 3) := by decide +kernel
theorem dX3_sumOfWarmths_12 : decode cX3_sumOfWarmths 12 = .ok (.iload_n 1, 1) := by decide +kernel
theorem dX3_sumOfWarmths_13 : decode cX3_sumOfWarmths 13 = .ok (.aload_n 0, 1) := by decide +kernel
theorem dX3_sumOfWarmths_14 : decode cX3_sumOfWarmths 14 = .ok (.getfield 29, 3) := by decide +kernel
theorem dX3_sumOfWarmths_17 : decode cX3_sumOfWarmths 17 = .ok (.iload_n 2, 1) := by decide +kernel
theorem dX3_sumOfWarmths_18 : decode cX3_sumOfWarmths 18 = .ok (.aaload, 1) := by decide +kernel
theorem dX3_sumOfWarmths_19 : decode cX3_sumOfWarmths 19 = .ok (.getfield 111, 3) := by decide +kernel
theorem dX3_sumOfWarmths_22 : decode cX3_sumOfWarmths 22 = .ok (.iadd, 1) := by decide +kernel
theorem dX3_sumOfWarmths_23 : decode cX3_sumOfWarmths 23 = .ok (.istore_n 1, 1) := by decide +kernel
theorem dX3_sumOfWarmths_24 : decode cX3_sumOfWarmths 24 = .ok (.iinc 2 1, 3) := by decide +kernel
theorem dX3_sumOfWarmths_27 : decode cX3_sumOfWarmths 27 = .ok (.goto (-23), 3) := by decide +kernel
theorem dX3_sumOfWarmths_30 : decode cX3_sumOfWarmths 30 = .ok (.iload_n 1, 1) := by decide +kernel
theorem dX3_sumOfWarmths_31 : decode cX3_sumOfWarmths 31 = .ok (.ireturn, 1) := by decide +kernel
theorem dX3_sumOfHours_0 : decode cX3_sumOfHours 0 = .ok (.iconst 0, 1) := by decide +kernel
theorem dX3_sumOfHours_1 : decode cX3_sumOfHours 1 = .ok (.istore_n 2, 1) := by decide +kernel
theorem dX3_sumOfHours_2 : decode cX3_sumOfHours 2 = .ok (.iconst 0, 1) := by decide +kernel
theorem dX3_sumOfHours_3 : decode cX3_sumOfHours 3 = .ok (.istore_n 3, 1) := by decide +kernel
theorem dX3_sumOfHours_4 : decode cX3_sumOfHours 4 = .ok (.iload_n 3, 1) := by decide +kernel
theorem dX3_sumOfHours_5 : decode cX3_sumOfHours 5 = .ok (.aload_n 0, 1) := by decide +kernel
theorem dX3_sumOfHours_6 : decode cX3_sumOfHours 6 = .ok (.getfield 78, 3) := by decide +kernel
theorem dX3_sumOfHours_9 : decode cX3_sumOfHours 9 = .ok (.if_icmp .ge 23, 3) := by decide +kernel
theorem dX3_sumOfHours_12 : decode cX3_sumOfHours 12 = .ok (.iload_n 2, 1) := by decide +kernel
theorem dX3_sumOfHours_13 : decode cX3_sumOfHours 13 = .ok (.aload_n 0, 1) := by decide +kernel
theorem dX3_sumOfHours_14 : decode cX3_sumOfHours 14 = .ok (.getfield 29, 3) := by decide +kernel
theorem dX3_sumOfHours_17 : decode cX3_sumOfHours 17 = .ok (.iload_n 3, 1) := by decide +kernel
theorem dX3_sumOfHours_18 : decode cX3_sumOfHours 18 = .ok (.aaload, 1) := by decide +kernel
theorem dX3_sumOfHours_19 : decode cX3_sumOfHours 19 = .ok (.getfield 194, 3) := by decide +kernel
theorem dX3_sumOfHours_22 : decode cX3_sumOfHours 22 = .ok (.iload_n 1, 1) := by decide +kernel
theorem dX3_sumOfHours_23 : decode cX3_sumOfHours 23 = .ok (.iaload, 1) := by decide +kernel
theorem dX3_sumOfHours_24 : decode cX3_sumOfHours 24 = .ok (.iadd, 1) := by decide +kernel
theorem dX3_sumOfHours_25 : decode cX3_sumOfHours 25 = .ok (.istore_n 2, 1) := by decide +kernel
theorem dX3_sumOfHours_26 : decode cX3_sumOfHours 26 = .ok (.iinc 3 1, 3) := by decide +kernel
theorem dX3_sumOfHours_29 : decode cX3_sumOfHours 29 = .ok (.goto (-25), 3) := by decide +kernel
theorem dX3_sumOfHours_32 : decode cX3_sumOfHours 32 = .ok (.iload_n 2, 1) := by decide +kernel
theorem dX3_sumOfHours_33 : decode cX3_sumOfHours 33 = .ok (.ireturn, 1) := by decide +kernel
theorem dX3_thingsUsedTwice_0 : decode cX3_thingsUsedTwice 0 = .ok (.iconst 0, 1) := by decide +kernel
theorem dX3_thingsUsedTwice_1 : decode cX3_thingsUsedTwice 1 = .ok (.istore_n 1, 1) := by decide +kernel
theorem dX3_thingsUsedTwice_2 : decode cX3_thingsUsedTwice 2 = .ok (.iconst 0, 1) := by decide +kernel
theorem dX3_thingsUsedTwice_3 : decode cX3_thingsUsedTwice 3 = .ok (.istore_n 2, 1) := by decide +kernel
theorem dX3_thingsUsedTwice_4 : decode cX3_thingsUsedTwice 4 = .ok (.iload_n 2, 1) := by decide +kernel
theorem dX3_thingsUsedTwice_5 : decode cX3_thingsUsedTwice 5 = .ok (.aload_n 0, 1) := by decide +kernel
theorem dX3_thingsUsedTwice_6 : decode cX3_thingsUsedTwice 6 = .ok (.getfield 78, 3) := by decide +kernel
theorem dX3_thingsUsedTwice_9 : decode cX3_thingsUsedTwice 9 = .ok (.if_icmp .ge 111, 3) := by decide +kernel
theorem dX3_thingsUsedTwice_12 : decode cX3_thingsUsedTwice 12 = .ok (.iload_n 2, 1) := by decide +kernel
theorem dX3_thingsUsedTwice_13 : decode cX3_thingsUsedTwice 13 = .ok (.iconst 1, 1) := by decide +kernel
theorem dX3_thingsUsedTwice_14 : decode cX3_thingsUsedTwice 14 = .ok (.iadd, 1) := by decide +kernel
theorem dX3_thingsUsedTwice_15 : decode cX3_thingsUsedTwice 15 = .ok (.istore_n 3, 1) := by decide +kernel
theorem dX3_thingsUsedTwice_16 : decode cX3_thingsUsedTwice 16 = .ok (.iload_n 3, 1) := by decide +kernel
theorem dX3_thingsUsedTwice_17 : decode cX3_thingsUsedTwice 17 = .ok (.aload_n 0, 1) := by decide +kernel
theorem dX3_thingsUsedTwice_18 : decode cX3_thingsUsedTwice 18 = .ok (.getfield 78, 3) := by decide +kernel
theorem dX3_thingsUsedTwice_21 : decode cX3_thingsUsedTwice 21 = .ok (.if_icmp .ge 93, 3) := by decide +kernel
theorem dX3_thingsUsedTwice_24 : decode cX3_thingsUsedTwice 24 = .ok (.iload_n 1, 1) := by decide +kernel
theorem dX3_thingsUsedTwice_25 : decode cX3_thingsUsedTwice 25 = .ok (.aload_n 0, 1) := by decide +kernel
theorem dX3_thingsUsedTwice_26 : decode cX3_thingsUsedTwice 26 = .ok (.getfield 29, 3) := by decide +kernel
theorem dX3_thingsUsedTwice_29 : decode cX3_thingsUsedTwice 29 = .ok (.iload_n 2, 1) := by decide +kernel
theorem dX3_thingsUsedTwice_30 : decode cX3_thingsUsedTwice 30 = .ok (.aaload, 1) := by decide +kernel
theorem dX3_thingsUsedTwice_31 : decode cX3_thingsUsedTwice 31 = .ok (.getfield 104, 3) := by decide +kernel
theorem dX3_thingsUsedTwice_34 : decode cX3_thingsUsedTwice 34 = .ok (.iconst (-1), 1) := by decide +kernel
theorem dX3_thingsUsedTwice_35 : decode cX3_thingsUsedTwice 35 = .ok (.if_icmp .eq 28, 3) := by decide +kernel
theorem dX3_thingsUsedTwice_38 : decode cX3_thingsUsedTwice 38 = .ok (.aload_n 0, 1) := by decide +kernel
theorem dX3_thingsUsedTwice_39 : decode cX3_thingsUsedTwice 39 = .ok (.getfield 29, 3) := by decide +kernel
theorem dX3_thingsUsedTwice_42 : decode cX3_thingsUsedTwice 42 = .ok (.iload_n 2, 1) := by decide +kernel
theorem dX3_thingsUsedTwice_43 : decode cX3_thingsUsedTwice 43 = .ok (.aaload, 1) := by decide +kernel
theorem dX3_thingsUsedTwice_44 : decode cX3_thingsUsedTwice 44 = .ok (.getfield 104, 3) := by decide +kernel
theorem dX3_thingsUsedTwice_47 : decode cX3_thingsUsedTwice 47 = .ok (.aload_n 0, 1) := by decide +kernel
theorem dX3_thingsUsedTwice_48 : decode cX3_thingsUsedTwice 48 = .ok (.getfield 29, 3) := by decide +kernel
theorem dX3_thingsUsedTwice_51 : decode cX3_thingsUsedTwice 51 = .ok (.iload_n 3, 1) := by decide +kernel
theorem dX3_thingsUsedTwice_52 : decode cX3_thingsUsedTwice 52 = .ok (.aaload, 1) := by decide +kernel
theorem dX3_thingsUsedTwice_53 : decode cX3_thingsUsedTwice 53 = .ok (.getfield 104, 3) := by decide +kernel
theorem dX3_thingsUsedTwice_56 : decode cX3_thingsUsedTwice 56 = .ok (.if_icmp .ne 7, 3) := by decide +kernel
theorem dX3_thingsUsedTwice_59 : decode cX3_thingsUsedTwice 59 = .ok (.iconst 1, 1) := by decide +kernel
theorem dX3_thingsUsedTwice_60 : decode cX3_thingsUsedTwice 60 = .ok (.goto 4, 3) := by decide +kernel
theorem dX3_thingsUsedTwice_63 : decode cX3_thingsUsedTwice 63 = .ok (.iconst 0, 1) := by decide +kernel
theorem dX3_thingsUsedTwice_64 : decode cX3_thingsUsedTwice 64 = .ok (.iadd, 1) := by decide +kernel
theorem dX3_thingsUsedTwice_65 : decode cX3_thingsUsedTwice 65 = .ok (.istore_n 1, 1) := by decide +kernel
theorem dX3_thingsUsedTwice_66 : decode cX3_thingsUsedTwice 66 = .ok (.iload_n 1, 1) := by decide +kernel
theorem dX3_thingsUsedTwice_67 : decode cX3_thingsUsedTwice 67 = .ok (.aload_n 0, 1) := by decide +kernel
theorem dX3_thingsUsedTwice_68 : decode cX3_thingsUsedTwice 68 = .ok (.getfield 29, 3) := by decide +kernel
theorem dX3_thingsUsedTwice_71 : decode cX3_thingsUsedTwice 71 = .ok (.iload_n 2, 1) := by decide +kernel
theorem dX3_thingsUsedTwice_72 : decode cX3_thingsUsedTwice 72 = .ok (.aaload, 1) := by decide +kernel
theorem dX3_thingsUsedTwice_73 : decode cX3_thingsUsedTwice 73 = .ok (.getfield 94, 3) := by decide +kernel
theorem dX3_thingsUsedTwice_76 : decode cX3_thingsUsedTwice 76 = .ok (.iconst (-1), 1) := by decide +kernel
theorem dX3_thingsUsedTwice_77 : decode cX3_thingsUsedTwice 77 = .ok (.if_icmp .eq 28, 3) := by decide +kernel
theorem dX3_thingsUsedTwice_80 : decode cX3_thingsUsedTwice 80 = .ok (.aload_n 0, 1) := by decide +kernel
theorem dX3_thingsUsedTwice_81 : decode cX3_thingsUsedTwice 81 = .ok (.getfield 29, 3) := by decide +kernel
theorem dX3_thingsUsedTwice_84 : decode cX3_thingsUsedTwice 84 = .ok (.iload_n 2, 1) := by decide +kernel
theorem dX3_thingsUsedTwice_85 : decode cX3_thingsUsedTwice 85 = .ok (.aaload, 1) := by decide +kernel
theorem dX3_thingsUsedTwice_86 : decode cX3_thingsUsedTwice 86 = .ok (.getfield 94, 3) := by decide +kernel
theorem dX3_thingsUsedTwice_89 : decode cX3_thingsUsedTwice 89 = .ok (.aload_n 0, 1) := by decide +kernel
theorem dX3_thingsUsedTwice_90 : decode cX3_thingsUsedTwice 90 = .ok (.getfield 29, 3) := by decide +kernel
theorem dX3_thingsUsedTwice_93 : decode cX3_thingsUsedTwice 93 = .ok (.iload_n 3, 1) := by decide +kernel
theorem dX3_thingsUsedTwice_94 : decode cX3_thingsUsedTwice 94 = .ok (.aaload, 1) := by decide +kernel
theorem dX3_thingsUsedTwice_95 : decode cX3_thingsUsedTwice 95 = .ok (.getfield 94, 3) := by decide +kernel
theorem dX3_thingsUsedTwice_98 : decode cX3_thingsUsedTwice 98 = .ok (.if_icmp .ne 7, 3) := by decide +kernel
theorem dX3_thingsUsedTwice_101 : decode cX3_thingsUsedTwice 101 = .ok (.iconst 1, 1) := by decide +kernel
theorem dX3_thingsUsedTwice_102 : decode cX3_thingsUsedTwice 102 = .ok (.goto 4, 3) := by decide +kernel
theorem dX3_thingsUsedTwice_105 : decode cX3_thingsUsedTwice 105 = .ok (.iconst 0, 1) := by decide +kernel
theorem dX3_thingsUsedTwice_106 : decode cX3_thingsUsedTwice 106 = .ok (.iadd, 1) := by decide +kernel
theorem dX3_thingsUsedTwice_107 : decode cX3_thingsUsedTwice 107 = .ok (.istore_n 1, 1) := by decide +kernel
theorem dX3_thingsUsedTwice_108 : decode cX3_thingsUsedTwice 108 = .ok (.iinc 3 1, 3) := by decide +kernel
theorem dX3_thingsUsedTwice_111 : decode cX3_thingsUsedTwice 111 = .ok (.goto (-95), 3) := by decide +kernel
theorem dX3_thingsUsedTwice_114 : decode cX3_thingsUsedTwice 114 = .ok (.iinc 2 1, 3) := by decide +kernel
theorem dX3_thingsUsedTwice_117 : decode cX3_thingsUsedTwice 117 = .ok (.goto (-113), 3) := by decide +kernel
theorem dX3_thingsUsedTwice_120 : decode cX3_thingsUsedTwice 120 = .ok (.iload_n 1, 1) := by decide +kernel
theorem dX3_thingsUsedTwice_121 : decode cX3_thingsUsedTwice 121 = .ok (.ireturn, 1) := by decide +kernel
theorem dX3_passTime_0 : decode cX3_passTime 0 = .ok (.aload_n 0, 1) := by decide +kernel
theorem dX3_passTime_1 : decode cX3_passTime 1 = .ok (.getfield 60, 3) := by decide +kernel
theorem dX3_passTime_4 : decode cX3_passTime 4 = .ok (.istore_n 2, 1) := by decide +kernel
theorem dX3_passTime_5 : decode cX3_passTime 5 = .ok (.iconst 0, 1) := by decide +kernel
theorem dX3_passTime_6 : decode cX3_passTime 6 = .ok (.istore_n 3, 1) := by decide +kernel
theorem dX3_passTime_7 : decode cX3_passTime 7 = .ok (.iload_n 3, 1) := by decide +kernel
theorem dX3_passTime_8 : decode cX3_passTime 8 = .ok (.iload_n 1, 1) := by decide +kernel
theorem dX3_passTime_9 : decode cX3_passTime 9 = .ok (.if_icmp .ge 25, 3) := by decide +kernel
theorem dX3_passTime_12 : decode cX3_passTime 12 = .ok (.aload_n 0, 1) := by decide +kernel
theorem dX3_passTime_13 : decode cX3_passTime 13 = .ok (.invokevirtual 197, 3) := by decide +kernel
theorem dX3_passTime_16 : decode cX3_passTime 16 = .ok (.aload_n 0, 1) := by decide +kernel
theorem dX3_passTime_17 : decode cX3_passTime 17 = .ok (.invokevirtual 48, 3) := by decide +kernel
theorem dX3_passTime_20 : decode cX3_passTime 20 = .ok (.aload_n 0, 1) := by decide +kernel
theorem dX3_passTime_21 : decode cX3_passTime 21 = .ok (.invokevirtual 200, 3) := by decide +kernel
theorem dX3_passTime_24 : decode cX3_passTime 24 = .ok (.aload_n 0, 1) := by decide +kernel
theorem dX3_passTime_25 : decode cX3_passTime 25 = .ok (.invokevirtual 203, 3) := by decide +kernel
theorem dX3_passTime_28 : decode cX3_passTime 28 = .ok (.iinc 3 1, 3) := by decide +kernel
theorem dX3_passTime_31 : decode cX3_passTime 31 = .ok (.goto (-24), 3) := by decide +kernel
theorem dX3_passTime_34 : decode cX3_passTime 34 = .ok (.aload_n 0, 1) := by decide +kernel
theorem dX3_passTime_35 : decode cX3_passTime 35 = .ok (.invokevirtual 48, 3) := by decide +kernel
theorem dX3_passTime_38 : decode cX3_passTime 38 = .ok (.aload_n 0, 1) := by decide +kernel
theorem dX3_passTime_39 : decode cX3_passTime 39 = .ok (.getfield 60, 3) := by decide +kernel
theorem dX3_passTime_42 : decode cX3_passTime 42 = .ok (.iload_n 2, 1) := by decide +kernel
theorem dX3_passTime_43 : decode cX3_passTime 43 = .ok (.isub, 1) := by decide +kernel
theorem dX3_passTime_44 : decode cX3_passTime 44 = .ok (.ireturn, 1) := by decide +kernel
theorem dX3_burnLogs_0 : decode cX3_burnLogs 0 = .ok (.aload_n 0, 1) := by decide +kernel
theorem dX3_burnLogs_1 : decode cX3_burnLogs 1 = .ok (.getfield 57, 3) := by decide +kernel
theorem dX3_burnLogs_4 : decode cX3_burnLogs 4 = .ok (.aload_n 0, 1) := by decide +kernel
theorem dX3_burnLogs_5 : decode cX3_burnLogs 5 = .ok (.getfield 34, 3) := by decide +kernel
theorem dX3_burnLogs_8 : decode cX3_burnLogs 8 = .ok (.if_icmp .ge 10, 3) := by decide +kernel
theorem dX3_burnLogs_11 : decode cX3_burnLogs 11 = .ok (.aload_n 0, 1) := by decide +kernel
theorem dX3_burnLogs_12 : decode cX3_burnLogs 12 = .ok (.getfield 57, 3) := by decide +kernel
theorem dX3_burnLogs_15 : decode cX3_burnLogs 15 = .ok (.goto 7, 3) := by decide +kernel
theorem dX3_burnLogs_18 : decode cX3_burnLogs 18 = .ok (.aload_n 0, 1) := by decide +kernel
theorem dX3_burnLogs_19 : decode cX3_burnLogs 19 = .ok (.getfield 34, 3) := by decide +kernel
theorem dX3_burnLogs_22 : decode cX3_burnLogs 22 = .ok (.istore_n 1, 1) := by decide +kernel
theorem dX3_burnLogs_23 : decode cX3_burnLogs 23 = .ok (.aload_n 0, 1) := by decide +kernel
theorem dX3_burnLogs_24 : decode cX3_burnLogs 24 = .ok (.dup, 1) := by decide +kernel
theorem dX3_burnLogs_25 : decode cX3_burnLogs 25 = .ok (.getfield 34, 3) := by decide +kernel
theorem dX3_burnLogs_28 : decode cX3_burnLogs 28 = .ok (.iload_n 1, 1) := by decide +kernel
theorem dX3_burnLogs_29 : decode cX3_burnLogs 29 = .ok (.isub, 1) := by decide +kernel
theorem dX3_burnLogs_30 : decode cX3_burnLogs 30 = .ok (.putfield 34, 3) := by decide +kernel
theorem dX3_burnLogs_33 : decode cX3_burnLogs 33 = .ok (.aload_n 0, 1) := by decide +kernel
theorem dX3_burnLogs_34 : decode cX3_burnLogs 34 = .ok (.dup, 1) := by decide +kernel
theorem dX3_burnLogs_35 : decode cX3_burnLogs 35 = .ok (.getfield 63, 3) := by decide +kernel
theorem dX3_burnLogs_38 : decode cX3_burnLogs 38 = .ok (.iload_n 1, 1) := by decide +kernel
theorem dX3_burnLogs_39 : decode cX3_burnLogs 39 = .ok (.iadd, 1) := by decide +kernel
theorem dX3_burnLogs_40 : decode cX3_burnLogs 40 = .ok (.putfield 63, 3) := by decide +kernel
theorem dX3_burnLogs_43 : decode cX3_burnLogs 43 = .ok (.aload_n 0, 1) := by decide +kernel
theorem dX3_burnLogs_44 : decode cX3_burnLogs 44 = .ok (.dup, 1) := by decide +kernel
theorem dX3_burnLogs_45 : decode cX3_burnLogs 45 = .ok (.getfield 66, 3) := by decide +kernel
theorem dX3_burnLogs_48 : decode cX3_burnLogs 48 = .ok (.iload_n 1, 1) := by decide +kernel
theorem dX3_burnLogs_49 : decode cX3_burnLogs 49 = .ok (.iadd, 1) := by decide +kernel
theorem dX3_burnLogs_50 : decode cX3_burnLogs 50 = .ok (.putfield 66, 3) := by decide +kernel
theorem dX3_burnLogs_53 : decode cX3_burnLogs 53 = .ok (.aload_n 0, 1) := by decide +kernel
theorem dX3_burnLogs_54 : decode cX3_burnLogs 54 = .ok (.aload_n 0, 1) := by decide +kernel
theorem dX3_burnLogs_55 : decode cX3_burnLogs 55 = .ok (.getfield 54, 3) := by decide +kernel
theorem dX3_burnLogs_58 : decode cX3_burnLogs 58 = .ok (.iconst 2, 1) := by decide +kernel
theorem dX3_burnLogs_59 : decode cX3_burnLogs 59 = .ok (.idiv, 1) := by decide +kernel
theorem dX3_burnLogs_60 : decode cX3_burnLogs 60 = .ok (.iconst 4, 1) := by decide +kernel
theorem dX3_burnLogs_61 : decode cX3_burnLogs 61 = .ok (.iload_n 1, 1) := by decide +kernel
theorem dX3_burnLogs_62 : decode cX3_burnLogs 62 = .ok (.imul, 1) := by decide +kernel
theorem dX3_burnLogs_63 : decode cX3_burnLogs 63 = .ok (.iadd, 1) := by decide +kernel
theorem dX3_burnLogs_64 : decode cX3_burnLogs 64 = .ok (.putfield 54, 3) := by decide +kernel
theorem dX3_burnLogs_67 : decode cX3_burnLogs 67 = .ok (.return_, 1) := by decide +kernel
theorem dX3_noteWhatHappens_0 : decode cX3_noteWhatHappens 0 = .ok (.iconst 0, 1) := by decide +kernel
theorem dX3_noteWhatHappens_1 : decode cX3_noteWhatHappens 1 = .ok (.istore_n 1, 1) := by decide +kernel
theorem dX3_noteWhatHappens_2 : decode cX3_noteWhatHappens 2 = .ok (.iload_n 1, 1) := by decide +kernel
theorem dX3_noteWhatHappens_3 : decode cX3_noteWhatHappens 3 = .ok (.aload_n 0, 1) := by decide +kernel
theorem dX3_noteWhatHappens_4 : decode cX3_noteWhatHappens 4 = .ok (.getfield 78, 3) := by decide +kernel
theorem dX3_noteWhatHappens_7 : decode cX3_noteWhatHappens 7 = .ok (.if_icmp .ge 28, 3) := by decide +kernel
theorem dX3_noteWhatHappens_10 : decode cX3_noteWhatHappens 10 = .ok (.aload_n 0, 1) := by decide +kernel
theorem dX3_noteWhatHappens_11 : decode cX3_noteWhatHappens 11 = .ok (.getfield 29, 3) := by decide +kernel
theorem dX3_noteWhatHappens_14 : decode cX3_noteWhatHappens 14 = .ok (.iload_n 1, 1) := by decide +kernel
theorem dX3_noteWhatHappens_15 : decode cX3_noteWhatHappens 15 = .ok (.aaload, 1) := by decide +kernel
theorem dX3_noteWhatHappens_16 : decode cX3_noteWhatHappens 16 = .ok (.getfield 194, 3) := by decide +kernel
theorem dX3_noteWhatHappens_19 : decode cX3_noteWhatHappens 19 = .ok (.aload_n 0, 1) := by decide +kernel
theorem dX3_noteWhatHappens_20 : decode cX3_noteWhatHappens 20 = .ok (.iload_n 1, 1) := by decide +kernel
theorem dX3_noteWhatHappens_21 : decode cX3_noteWhatHappens 21 = .ok (.invokevirtual 175, 3) := by decide +kernel
theorem dX3_noteWhatHappens_24 : decode cX3_noteWhatHappens 24 = .ok (.dup2, 1) := by decide +kernel
theorem dX3_noteWhatHappens_25 : decode cX3_noteWhatHappens 25 = .ok (.iaload, 1) := by decide +kernel
theorem dX3_noteWhatHappens_26 : decode cX3_noteWhatHappens 26 = .ok (.iconst 1, 1) := by decide +kernel
theorem dX3_noteWhatHappens_27 : decode cX3_noteWhatHappens 27 = .ok (.iadd, 1) := by decide +kernel
theorem dX3_noteWhatHappens_28 : decode cX3_noteWhatHappens 28 = .ok (.iastore, 1) := by decide +kernel
theorem dX3_noteWhatHappens_29 : decode cX3_noteWhatHappens 29 = .ok (.iinc 1 1, 3) := by decide +kernel
theorem dX3_noteWhatHappens_32 : decode cX3_noteWhatHappens 32 = .ok (.goto (-30), 3) := by decide +kernel
theorem dX3_noteWhatHappens_35 : decode cX3_noteWhatHappens 35 = .ok (.return_, 1) := by decide +kernel
theorem dX3_endHour_0 : decode cX3_endHour 0 = .ok (.aload_n 0, 1) := by decide +kernel
theorem dX3_endHour_1 : decode cX3_endHour 1 = .ok (.dup, 1) := by decide +kernel
theorem dX3_endHour_2 : decode cX3_endHour 2 = .ok (.getfield 51, 3) := by decide +kernel
theorem dX3_endHour_5 : decode cX3_endHour 5 = .ok (.iconst 1, 1) := by decide +kernel
theorem dX3_endHour_6 : decode cX3_endHour 6 = .ok (.iadd, 1) := by decide +kernel
theorem dX3_endHour_7 : decode cX3_endHour 7 = .ok (.putfield 51, 3) := by decide +kernel
theorem dX3_endHour_10 : decode cX3_endHour 10 = .ok (.aload_n 0, 1) := by decide +kernel
theorem dX3_endHour_11 : decode cX3_endHour 11 = .ok (.getfield 51, 3) := by decide +kernel
theorem dX3_endHour_14 : decode cX3_endHour 14 = .ok (.bipush 8, 2) := by decide +kernel
theorem dX3_endHour_16 : decode cX3_endHour 16 = .ok (.irem, 1) := by decide +kernel
theorem dX3_endHour_17 : decode cX3_endHour 17 = .ok (.ifCond .ne 15, 3) := by decide +kernel
theorem dX3_endHour_20 : decode cX3_endHour 20 = .ok (.aload_n 0, 1) := by decide +kernel
theorem dX3_endHour_21 : decode cX3_endHour 21 = .ok (.invokevirtual 206, 3) := by decide +kernel
theorem dX3_endHour_24 : decode cX3_endHour 24 = .ok (.aload_n 0, 1) := by decide +kernel
theorem dX3_endHour_25 : decode cX3_endHour 25 = .ok (.invokevirtual 209, 3) := by decide +kernel
theorem dX3_endHour_28 : decode cX3_endHour 28 = .ok (.aload_n 0, 1) := by decide +kernel
theorem dX3_endHour_29 : decode cX3_endHour 29 = .ok (.invokevirtual 212, 3) := by decide +kernel
theorem dX3_endHour_32 : decode cX3_endHour 32 = .ok (.return_, 1) := by decide +kernel
theorem dX3_payForNight_0 : decode cX3_payForNight 0 = .ok (.iconst 0, 1) := by decide +kernel
theorem dX3_payForNight_1 : decode cX3_payForNight 1 = .ok (.istore_n 1, 1) := by decide +kernel
theorem dX3_payForNight_2 : decode cX3_payForNight 2 = .ok (.iload_n 1, 1) := by decide +kernel
theorem dX3_payForNight_3 : decode cX3_payForNight 3 = .ok (.aload_n 0, 1) := by decide +kernel
theorem dX3_payForNight_4 : decode cX3_payForNight 4 = .ok (.getfield 78, 3) := by decide +kernel
theorem dX3_payForNight_7 : decode cX3_payForNight 7 = .ok (.if_icmp .ge 28, 3) := by decide +kernel
theorem dX3_payForNight_10 : decode cX3_payForNight 10 = .ok (.aload_n 0, 1) := by decide +kernel
theorem dX3_payForNight_11 : decode cX3_payForNight 11 = .ok (.dup, 1) := by decide +kernel
theorem dX3_payForNight_12 : decode cX3_payForNight 12 = .ok (.getfield 60, 3) := by decide +kernel
theorem dX3_payForNight_15 : decode cX3_payForNight 15 = .ok (.aload_n 0, 1) := by decide +kernel
theorem dX3_payForNight_16 : decode cX3_payForNight 16 = .ok (.getfield 29, 3) := by decide +kernel
theorem dX3_payForNight_19 : decode cX3_payForNight 19 = .ok (.iload_n 1, 1) := by decide +kernel
theorem dX3_payForNight_20 : decode cX3_payForNight 20 = .ok (.aaload, 1) := by decide +kernel
theorem dX3_payForNight_21 : decode cX3_payForNight 21 = .ok (.iconst 3, 1) := by decide +kernel
theorem dX3_payForNight_22 : decode cX3_payForNight 22 = .ok (.invokevirtual 215, 3) := by decide +kernel
theorem dX3_payForNight_25 : decode cX3_payForNight 25 = .ok (.iadd, 1) := by decide +kernel
theorem dX3_payForNight_26 : decode cX3_payForNight 26 = .ok (.putfield 60, 3) := by decide +kernel
theorem dX3_payForNight_29 : decode cX3_payForNight 29 = .ok (.iinc 1 1, 3) := by decide +kernel
theorem dX3_payForNight_32 : decode cX3_payForNight 32 = .ok (.goto (-30), 3) := by decide +kernel
theorem dX3_payForNight_35 : decode cX3_payForNight 35 = .ok (.return_, 1) := by decide +kernel
theorem dX3_payForLogs_0 : decode cX3_payForLogs 0 = .ok (.iconst 0, 1) := by decide +kernel
theorem dX3_payForLogs_1 : decode cX3_payForLogs 1 = .ok (.istore_n 1, 1) := by decide +kernel
theorem dX3_payForLogs_2 : decode cX3_payForLogs 2 = .ok (.iload_n 1, 1) := by decide +kernel
theorem dX3_payForLogs_3 : decode cX3_payForLogs 3 = .ok (.aload_n 0, 1) := by decide +kernel
theorem dX3_payForLogs_4 : decode cX3_payForLogs 4 = .ok (.getfield 78, 3) := by decide +kernel
theorem dX3_payForLogs_7 : decode cX3_payForLogs 7 = .ok (.if_icmp .ge 32, 3) := by decide +kernel
theorem dX3_payForLogs_10 : decode cX3_payForLogs 10 = .ok (.aload_n 0, 1) := by decide +kernel
theorem dX3_payForLogs_11 : decode cX3_payForLogs 11 = .ok (.dup, 1) := by decide +kernel
theorem dX3_payForLogs_12 : decode cX3_payForLogs 12 = .ok (.getfield 60, 3) := by decide +kernel
theorem dX3_payForLogs_15 : decode cX3_payForLogs 15 = .ok (.aload_n 0, 1) := by decide +kernel
theorem dX3_payForLogs_16 : decode cX3_payForLogs 16 = .ok (.getfield 29, 3) := by decide +kernel
theorem dX3_payForLogs_19 : decode cX3_payForLogs 19 = .ok (.iload_n 1, 1) := by decide +kernel
theorem dX3_payForLogs_20 : decode cX3_payForLogs 20 = .ok (.aaload, 1) := by decide +kernel
theorem dX3_payForLogs_21 : decode cX3_payForLogs 21 = .ok (.aload_n 0, 1) := by decide +kernel
theorem dX3_payForLogs_22 : decode cX3_payForLogs 22 = .ok (.iload_n 1, 1) := by decide +kernel
theorem dX3_payForLogs_23 : decode cX3_payForLogs 23 = .ok (.invokevirtual 218, 3) := by decide +kernel
theorem dX3_payForLogs_26 : decode cX3_payForLogs 26 = .ok (.invokevirtual 215, 3) := by decide +kernel
theorem dX3_payForLogs_29 : decode cX3_payForLogs 29 = .ok (.iadd, 1) := by decide +kernel
theorem dX3_payForLogs_30 : decode cX3_payForLogs 30 = .ok (.putfield 60, 3) := by decide +kernel
theorem dX3_payForLogs_33 : decode cX3_payForLogs 33 = .ok (.iinc 1 1, 3) := by decide +kernel
theorem dX3_payForLogs_36 : decode cX3_payForLogs 36 = .ok (.goto (-34), 3) := by decide +kernel
theorem dX3_payForLogs_39 : decode cX3_payForLogs 39 = .ok (.aload_n 0, 1) := by decide +kernel
theorem dX3_payForLogs_40 : decode cX3_payForLogs 40 = .ok (.iconst 0, 1) := by decide +kernel
theorem dX3_payForLogs_41 : decode cX3_payForLogs 41 = .ok (.putfield 66, 3) := by decide +kernel
theorem dX3_payForLogs_44 : decode cX3_payForLogs 44 = .ok (.return_, 1) := by decide +kernel
theorem dX3_partOfLogs_0 : decode cX3_partOfLogs 0 = .ok (.aload_n 0, 1) := by decide +kernel
theorem dX3_partOfLogs_1 : decode cX3_partOfLogs 1 = .ok (.getfield 78, 3) := by decide +kernel
theorem dX3_partOfLogs_4 : decode cX3_partOfLogs 4 = .ok (.iconst 1, 1) := by decide +kernel
theorem dX3_partOfLogs_5 : decode cX3_partOfLogs 5 = .ok (.if_icmp .ge 5, 3) := by decide +kernel
theorem dX3_partOfLogs_8 : decode cX3_partOfLogs 8 = .ok (.iconst 0, 1) := by decide +kernel
theorem dX3_partOfLogs_9 : decode cX3_partOfLogs 9 = .ok (.ireturn, 1) := by decide +kernel
theorem dX3_partOfLogs_10 : decode cX3_partOfLogs 10 = .ok (.iconst 2, 1) := by decide +kernel
theorem dX3_partOfLogs_11 : decode cX3_partOfLogs 11 = .ok (.aload_n 0, 1) := by decide +kernel
theorem dX3_partOfLogs_12 : decode cX3_partOfLogs 12 = .ok (.getfield 66, 3) := by decide +kernel
theorem dX3_partOfLogs_15 : decode cX3_partOfLogs 15 = .ok (.imul, 1) := by decide +kernel
theorem dX3_partOfLogs_16 : decode cX3_partOfLogs 16 = .ok (.istore_n 2, 1) := by decide +kernel
theorem dX3_partOfLogs_17 : decode cX3_partOfLogs 17 = .ok (.iload_n 1, 1) := by decide +kernel
theorem dX3_partOfLogs_18 : decode cX3_partOfLogs 18 = .ok (.iload_n 2, 1) := by decide +kernel
theorem dX3_partOfLogs_19 : decode cX3_partOfLogs 19 = .ok (.aload_n 0, 1) := by decide +kernel
theorem dX3_partOfLogs_20 : decode cX3_partOfLogs 20 = .ok (.getfield 78, 3) := by decide +kernel
theorem dX3_partOfLogs_23 : decode cX3_partOfLogs 23 = .ok (.irem, 1) := by decide +kernel
theorem dX3_partOfLogs_24 : decode cX3_partOfLogs 24 = .ok (.if_icmp .ge 7, 3) := by decide +kernel
theorem dX3_partOfLogs_27 : decode cX3_partOfLogs 27 = .ok (.iconst 1, 1) := by decide +kernel
theorem dX3_partOfLogs_28 : decode cX3_partOfLogs 28 = .ok (.goto 4, 3) := by decide +kernel
theorem dX3_partOfLogs_31 : decode cX3_partOfLogs 31 = .ok (.iconst 0, 1) := by decide +kernel
theorem dX3_partOfLogs_32 : decode cX3_partOfLogs 32 = .ok (.istore_n 3, 1) := by decide +kernel
theorem dX3_partOfLogs_33 : decode cX3_partOfLogs 33 = .ok (.iload_n 2, 1) := by decide +kernel
theorem dX3_partOfLogs_34 : decode cX3_partOfLogs 34 = .ok (.aload_n 0, 1) := by decide +kernel
theorem dX3_partOfLogs_35 : decode cX3_partOfLogs 35 = .ok (.getfield 78, 3) := by decide +kernel
theorem dX3_partOfLogs_38 : decode cX3_partOfLogs 38 = .ok (.idiv, 1) := by decide +kernel
theorem dX3_partOfLogs_39 : decode cX3_partOfLogs 39 = .ok (.iload_n 3, 1) := by decide +kernel
theorem dX3_partOfLogs_40 : decode cX3_partOfLogs 40 = .ok (.iadd, 1) := by decide +kernel
theorem dX3_partOfLogs_41 : decode cX3_partOfLogs 41 = .ok (.ireturn, 1) := by decide +kernel
theorem dX3_payForBlankets_0 : decode cX3_payForBlankets 0 = .ok (.iconst 0, 1) := by decide +kernel
theorem dX3_payForBlankets_1 : decode cX3_payForBlankets 1 = .ok (.istore_n 1, 1) := by decide +kernel
theorem dX3_payForBlankets_2 : decode cX3_payForBlankets 2 = .ok (.iconst 0, 1) := by decide +kernel
theorem dX3_payForBlankets_3 : decode cX3_payForBlankets 3 = .ok (.istore_n 2, 1) := by decide +kernel
theorem dX3_payForBlankets_4 : decode cX3_payForBlankets 4 = .ok (.iload_n 2, 1) := by decide +kernel
theorem dX3_payForBlankets_5 : decode cX3_payForBlankets 5 = .ok (.aload_n 0, 1) := by decide +kernel
theorem dX3_payForBlankets_6 : decode cX3_payForBlankets 6 = .ok (.getfield 78, 3) := by decide +kernel
theorem dX3_payForBlankets_9 : decode cX3_payForBlankets 9 = .ok (.if_icmp .ge 30, 3) := by decide +kernel
theorem dX3_payForBlankets_12 : decode cX3_payForBlankets 12 = .ok (.iload_n 1, 1) := by decide +kernel
theorem dX3_payForBlankets_13 : decode cX3_payForBlankets 13 = .ok (.aload_n 0, 1) := by decide +kernel
theorem dX3_payForBlankets_14 : decode cX3_payForBlankets 14 = .ok (.getfield 29, 3) := by decide +kernel
theorem dX3_payForBlankets_17 : decode cX3_payForBlankets 17 = .ok (.iload_n 2, 1) := by decide +kernel
theorem dX3_payForBlankets_18 : decode cX3_payForBlankets 18 = .ok (.aaload, 1) := by decide +kernel
theorem dX3_payForBlankets_19 : decode cX3_payForBlankets 19 = .ok (.aload_n 0, 1) := by decide +kernel
theorem dX3_payForBlankets_20 : decode cX3_payForBlankets 20 = .ok (.getfield 29, 3) := by decide +kernel
theorem dX3_payForBlankets_23 : decode cX3_payForBlankets 23 = .ok (.iload_n 2, 1) := by decide +kernel
theorem dX3_payForBlankets_24 : decode cX3_payForBlankets 24 = .ok (.aaload, 1) := by decide +kernel
theorem dX3_payForBlankets_25 : decode cX3_payForBlankets 25 = .ok (.invokevirtual 221, 3) := by decide +kernel
theorem dX3_payForBlankets_28 : decode cX3_payForBlankets 28 = .ok (.invokevirtual 215, 3) := by decide +kernel
theorem dX3_payForBlankets_31 : decode cX3_payForBlankets 31 = .ok (.iadd, 1) := by decide +kernel
theorem dX3_payForBlankets_32 : decode cX3_payForBlankets 32 = .ok (.istore_n 1, 1) := by decide +kernel
theorem dX3_payForBlankets_33 : decode cX3_payForBlankets 33 = .ok (.iinc 2 1, 3) := by decide +kernel
theorem dX3_payForBlankets_36 : decode cX3_payForBlankets 36 = .ok (.goto (-32), 3) := by decide +kernel
theorem dX3_payForBlankets_39 : decode cX3_payForBlankets 39 = .ok (.aload_n 0, 1) := by decide +kernel
theorem dX3_payForBlankets_40 : decode cX3_payForBlankets 40 = .ok (.invokevirtual 140, 3) := by decide +kernel
theorem dX3_payForBlankets_43 : decode cX3_payForBlankets 43 = .ok (.istore_n 2, 1) := by decide +kernel
theorem dX3_payForBlankets_44 : decode cX3_payForBlankets 44 = .ok (.iload_n 2, 1) := by decide +kernel
theorem dX3_payForBlankets_45 : decode cX3_payForBlankets 45 = .ok (.iconst 1, 1) := by decide +kernel
theorem dX3_payForBlankets_46 : decode cX3_payForBlankets 46 = .ok (.if_icmp .ge 7, 3) := by decide +kernel
theorem dX3_payForBlankets_49 : decode cX3_payForBlankets 49 = .ok (.iconst 0, 1) := by decide +kernel
theorem dX3_payForBlankets_50 : decode cX3_payForBlankets 50 = .ok (.goto 6, 3) := by decide +kernel
theorem dX3_payForBlankets_53 : decode cX3_payForBlankets 53 = .ok (.iload_n 1, 1) := by decide +kernel
theorem dX3_payForBlankets_54 : decode cX3_payForBlankets 54 = .ok (.iload_n 2, 1) := by decide +kernel
theorem dX3_payForBlankets_55 : decode cX3_payForBlankets 55 = .ok (.idiv, 1) := by decide +kernel
theorem dX3_payForBlankets_56 : decode cX3_payForBlankets 56 = .ok (.istore_n 3, 1) := by decide +kernel
theorem dX3_payForBlankets_57 : decode cX3_payForBlankets 57 = .ok (.iconst 0, 1) := by decide +kernel
theorem dX3_payForBlankets_58 : decode cX3_payForBlankets 58 = .ok (.istore 4, 2) := by decide +kernel
theorem dX3_payForBlankets_60 : decode cX3_payForBlankets 60 = .ok (.iload 4, 2) := by decide +kernel
theorem dX3_payForBlankets_62 : decode cX3_payForBlankets 62 = .ok (.aload_n 0, 1) := by decide +kernel
theorem dX3_payForBlankets_63 : decode cX3_payForBlankets 63 = .ok (.getfield 78, 3) := by decide +kernel
theorem dX3_payForBlankets_66 : decode cX3_payForBlankets 66 = .ok (.if_icmp .ge 39, 3) := by decide +kernel
theorem dX3_payForBlankets_69 : decode cX3_payForBlankets 69 = .ok (.aload_n 0, 1) := by decide +kernel
theorem dX3_payForBlankets_70 : decode cX3_payForBlankets 70 = .ok (.getfield 29, 3) := by decide +kernel
theorem dX3_payForBlankets_73 : decode cX3_payForBlankets 73 = .ok (.iload 4, 2) := by decide +kernel
theorem dX3_payForBlankets_75 : decode cX3_payForBlankets 75 = .ok (.aaload, 1) := by decide +kernel
theorem dX3_payForBlankets_76 : decode cX3_payForBlankets 76 = .ok (.getfield 94, 3) := by decide +kernel
theorem dX3_payForBlankets_79 : decode cX3_payForBlankets 79 = .ok (.iconst (-1), 1) := by decide +kernel
theorem dX3_payForBlankets_80 : decode cX3_payForBlankets 80 = .ok (.if_icmp .ne 19, 3) := by decide +kernel
theorem dX3_payForBlankets_83 : decode cX3_payForBlankets 83 = .ok (.aload_n 0, 1) := by decide +kernel
theorem dX3_payForBlankets_84 : decode cX3_payForBlankets 84 = .ok (.getfield 29, 3) := by decide +kernel
theorem dX3_payForBlankets_87 : decode cX3_payForBlankets 87 = .ok (.iload 4, 2) := by decide +kernel
theorem dX3_payForBlankets_89 : decode cX3_payForBlankets 89 = .ok (.aaload, 1) := by decide +kernel
theorem dX3_payForBlankets_90 : decode cX3_payForBlankets 90 = .ok (.dup, 1) := by decide +kernel
theorem dX3_payForBlankets_91 : decode cX3_payForBlankets 91 = .ok (.getfield 188, 3) := by decide +kernel
theorem dX3_payForBlankets_94 : decode cX3_payForBlankets 94 = .ok (.iload_n 3, 1) := by decide +kernel
theorem dX3_payForBlankets_95 : decode cX3_payForBlankets 95 = .ok (.iadd, 1) := by decide +kernel
theorem dX3_payForBlankets_96 : decode cX3_payForBlankets 96 = .ok (.putfield 188, 3) := by decide +kernel
theorem dX3_payForBlankets_99 : decode cX3_payForBlankets 99 = .ok (.iinc 4 1, 3) := by decide +kernel
theorem dX3_payForBlankets_102 : decode cX3_payForBlankets 102 = .ok (.goto (-42), 3) := by decide +kernel
theorem dX3_payForBlankets_105 : decode cX3_payForBlankets 105 = .ok (.aload_n 0, 1) := by decide +kernel
theorem dX3_payForBlankets_106 : decode cX3_payForBlankets 106 = .ok (.dup, 1) := by decide +kernel
theorem dX3_payForBlankets_107 : decode cX3_payForBlankets 107 = .ok (.getfield 60, 3) := by decide +kernel
theorem dX3_payForBlankets_110 : decode cX3_payForBlankets 110 = .ok (.iload_n 1, 1) := by decide +kernel
theorem dX3_payForBlankets_111 : decode cX3_payForBlankets 111 = .ok (.iload_n 3, 1) := by decide +kernel
theorem dX3_payForBlankets_112 : decode cX3_payForBlankets 112 = .ok (.iload_n 2, 1) := by decide +kernel
theorem dX3_payForBlankets_113 : decode cX3_payForBlankets 113 = .ok (.imul, 1) := by decide +kernel
theorem dX3_payForBlankets_114 : decode cX3_payForBlankets 114 = .ok (.isub, 1) := by decide +kernel
theorem dX3_payForBlankets_115 : decode cX3_payForBlankets 115 = .ok (.iadd, 1) := by decide +kernel
theorem dX3_payForBlankets_116 : decode cX3_payForBlankets 116 = .ok (.putfield 60, 3) := by decide +kernel
theorem dX3_payForBlankets_119 : decode cX3_payForBlankets 119 = .ok (.return_, 1) := by decide +kernel
theorem dX3_faultOf_0 : decode cX3_faultOf 0 = .ok (.iload_n 1, 1) := by decide +kernel
theorem dX3_faultOf_1 : decode cX3_faultOf 1 = .ok (.tableswitch 108 0 7 #[47, 54, 60, 67, 74, 80, 95, 101], 47) := by decide +kernel
theorem dX3_faultOf_48 : decode cX3_faultOf 48 = .ok (.aload_n 0, 1) := by decide +kernel
theorem dX3_faultOf_49 : decode cX3_faultOf 49 = .ok (.iload_n 2, 1) := by decide +kernel
theorem dX3_faultOf_50 : decode cX3_faultOf 50 = .ok (.iload_n 3, 1) := by decide +kernel
theorem dX3_faultOf_51 : decode cX3_faultOf 51 = .ok (.invokevirtual 224, 3) := by decide +kernel
theorem dX3_faultOf_54 : decode cX3_faultOf 54 = .ok (.ireturn, 1) := by decide +kernel
theorem dX3_faultOf_55 : decode cX3_faultOf 55 = .ok (.aload_n 0, 1) := by decide +kernel
theorem dX3_faultOf_56 : decode cX3_faultOf 56 = .ok (.iload_n 2, 1) := by decide +kernel
theorem dX3_faultOf_57 : decode cX3_faultOf 57 = .ok (.invokevirtual 227, 3) := by decide +kernel
theorem dX3_faultOf_60 : decode cX3_faultOf 60 = .ok (.ireturn, 1) := by decide +kernel
theorem dX3_faultOf_61 : decode cX3_faultOf 61 = .ok (.aload_n 0, 1) := by decide +kernel
theorem dX3_faultOf_62 : decode cX3_faultOf 62 = .ok (.iload_n 2, 1) := by decide +kernel
theorem dX3_faultOf_63 : decode cX3_faultOf 63 = .ok (.iload_n 3, 1) := by decide +kernel
theorem dX3_faultOf_64 : decode cX3_faultOf 64 = .ok (.invokevirtual 230, 3) := by decide +kernel
theorem dX3_faultOf_67 : decode cX3_faultOf 67 = .ok (.ireturn, 1) := by decide +kernel
theorem dX3_faultOf_68 : decode cX3_faultOf 68 = .ok (.aload_n 0, 1) := by decide +kernel
theorem dX3_faultOf_69 : decode cX3_faultOf 69 = .ok (.iload_n 2, 1) := by decide +kernel
theorem dX3_faultOf_70 : decode cX3_faultOf 70 = .ok (.iload_n 3, 1) := by decide +kernel
theorem dX3_faultOf_71 : decode cX3_faultOf 71 = .ok (.invokevirtual 233, 3) := by decide +kernel
theorem dX3_faultOf_74 : decode cX3_faultOf 74 = .ok (.ireturn, 1) := by decide +kernel
theorem dX3_faultOf_75 : decode cX3_faultOf 75 = .ok (.aload_n 0, 1) := by decide +kernel
theorem dX3_faultOf_76 : decode cX3_faultOf 76 = .ok (.iload_n 2, 1) := by decide +kernel
theorem dX3_faultOf_77 : decode cX3_faultOf 77 = .ok (.invokevirtual 236, 3) := by decide +kernel
theorem dX3_faultOf_80 : decode cX3_faultOf 80 = .ok (.ireturn, 1) := by decide +kernel
theorem dX3_faultOf_81 : decode cX3_faultOf 81 = .ok (.iload_n 2, 1) := by decide +kernel
theorem dX3_faultOf_82 : decode cX3_faultOf 82 = .ok (.iconst 0, 1) := by decide +kernel
theorem dX3_faultOf_83 : decode cX3_faultOf 83 = .ok (.iconst 3, 1) := by decide +kernel
theorem dX3_faultOf_84 : decode cX3_faultOf 84 = .ok (.invokestatic 164, 3) := by decide +kernel
theorem dX3_faultOf_87 : decode cX3_faultOf 87 = .ok (.ifCond .eq 7, 3) := by decide +kernel
theorem dX3_faultOf_90 : decode cX3_faultOf 90 = .ok (.iconst 0, 1) := by decide +kernel
theorem dX3_faultOf_91 : decode cX3_faultOf 91 = .ok (.goto 4, 3) := by decide +kernel
theorem dX3_faultOf_94 : decode cX3_faultOf 94 = .ok (.iconst 2, 1) := by decide +kernel
theorem dX3_faultOf_95 : decode cX3_faultOf 95 = .ok (.ireturn, 1) := by decide +kernel
theorem dX3_faultOf_96 : decode cX3_faultOf 96 = .ok (.aload_n 0, 1) := by decide +kernel
theorem dX3_faultOf_97 : decode cX3_faultOf 97 = .ok (.iload_n 2, 1) := by decide +kernel
theorem dX3_faultOf_98 : decode cX3_faultOf 98 = .ok (.invokevirtual 239, 3) := by decide +kernel
theorem dX3_faultOf_101 : decode cX3_faultOf 101 = .ok (.ireturn, 1) := by decide +kernel
theorem dX3_faultOf_102 : decode cX3_faultOf 102 = .ok (.aload_n 0, 1) := by decide +kernel
theorem dX3_faultOf_103 : decode cX3_faultOf 103 = .ok (.iload_n 2, 1) := by decide +kernel
theorem dX3_faultOf_104 : decode cX3_faultOf 104 = .ok (.iload_n 3, 1) := by decide +kernel
theorem dX3_faultOf_105 : decode cX3_faultOf 105 = .ok (.invokevirtual 242, 3) := by decide +kernel
theorem dX3_faultOf_108 : decode cX3_faultOf 108 = .ok (.ireturn, 1) := by decide +kernel
theorem dX3_faultOf_109 : decode cX3_faultOf 109 = .ok (.aload_n 0, 1) := by decide +kernel
theorem dX3_faultOf_110 : decode cX3_faultOf 110 = .ok (.iload_n 2, 1) := by decide +kernel
theorem dX3_faultOf_111 : decode cX3_faultOf 111 = .ok (.invokevirtual 245, 3) := by decide +kernel
theorem dX3_faultOf_114 : decode cX3_faultOf 114 = .ok (.ireturn, 1) := by decide +kernel
theorem dX3_faultOfTake_0 : decode cX3_faultOfTake 0 = .ok (.aload_n 0, 1) := by decide +kernel
theorem dX3_faultOfTake_1 : decode cX3_faultOfTake 1 = .ok (.iload_n 1, 1) := by decide +kernel
theorem dX3_faultOfTake_2 : decode cX3_faultOfTake 2 = .ok (.invokevirtual 248, 3) := by decide +kernel
theorem dX3_faultOfTake_5 : decode cX3_faultOfTake 5 = .ok (.ifCond .eq 11, 3) := by decide +kernel
theorem dX3_faultOfTake_8 : decode cX3_faultOfTake 8 = .ok (.aload_n 0, 1) := by decide +kernel
theorem dX3_faultOfTake_9 : decode cX3_faultOfTake 9 = .ok (.iload_n 2, 1) := by decide +kernel
theorem dX3_faultOfTake_10 : decode cX3_faultOfTake 10 = .ok (.invokevirtual 97, 3) := by decide +kernel
theorem dX3_faultOfTake_13 : decode cX3_faultOfTake 13 = .ok (.ifCond .ne 5, 3) := by decide +kernel
theorem dX3_faultOfTake_16 : decode cX3_faultOfTake 16 = .ok (.iconst 1, 1) := by decide +kernel
theorem dX3_faultOfTake_17 : decode cX3_faultOfTake 17 = .ok (.ireturn, 1) := by decide +kernel
theorem dX3_faultOfTake_18 : decode cX3_faultOfTake 18 = .ok (.aload_n 0, 1) := by decide +kernel
theorem dX3_faultOfTake_19 : decode cX3_faultOfTake 19 = .ok (.iload_n 2, 1) := by decide +kernel
theorem dX3_faultOfTake_20 : decode cX3_faultOfTake 20 = .ok (.invokevirtual 143, 3) := by decide +kernel
theorem dX3_faultOfTake_23 : decode cX3_faultOfTake 23 = .ok (.iconst (-1), 1) := by decide +kernel
theorem dX3_faultOfTake_24 : decode cX3_faultOfTake 24 = .ok (.if_icmp .ne 7, 3) := by decide +kernel
theorem dX3_faultOfTake_27 : decode cX3_faultOfTake 27 = .ok (.iconst 0, 1) := by decide +kernel
theorem dX3_faultOfTake_28 : decode cX3_faultOfTake 28 = .ok (.goto 4, 3) := by decide +kernel
theorem dX3_faultOfTake_31 : decode cX3_faultOfTake 31 = .ok (.iconst 3, 1) := by decide +kernel
theorem dX3_faultOfTake_32 : decode cX3_faultOfTake 32 = .ok (.ireturn, 1) := by decide +kernel
theorem dX3_faultOfReturn_0 : decode cX3_faultOfReturn 0 = .ok (.aload_n 0, 1) := by decide +kernel
theorem dX3_faultOfReturn_1 : decode cX3_faultOfReturn 1 = .ok (.iload_n 1, 1) := by decide +kernel
theorem dX3_faultOfReturn_2 : decode cX3_faultOfReturn 2 = .ok (.invokevirtual 248, 3) := by decide +kernel
theorem dX3_faultOfReturn_5 : decode cX3_faultOfReturn 5 = .ok (.ifCond .ne 5, 3) := by decide +kernel
theorem dX3_faultOfReturn_8 : decode cX3_faultOfReturn 8 = .ok (.iconst 1, 1) := by decide +kernel
theorem dX3_faultOfReturn_9 : decode cX3_faultOfReturn 9 = .ok (.ireturn, 1) := by decide +kernel
theorem dX3_faultOfReturn_10 : decode cX3_faultOfReturn 10 = .ok (.aload_n 0, 1) := by decide +kernel
theorem dX3_faultOfReturn_11 : decode cX3_faultOfReturn 11 = .ok (.getfield 29, 3) := by decide +kernel
theorem dX3_faultOfReturn_14 : decode cX3_faultOfReturn 14 = .ok (.iload_n 1, 1) := by decide +kernel
theorem dX3_faultOfReturn_15 : decode cX3_faultOfReturn 15 = .ok (.aaload, 1) := by decide +kernel
theorem dX3_faultOfReturn_16 : decode cX3_faultOfReturn 16 = .ok (.getfield 94, 3) := by decide +kernel
theorem dX3_faultOfReturn_19 : decode cX3_faultOfReturn 19 = .ok (.iconst (-1), 1) := by decide +kernel
theorem dX3_faultOfReturn_20 : decode cX3_faultOfReturn 20 = .ok (.if_icmp .ne 7, 3) := by decide +kernel
theorem dX3_faultOfReturn_23 : decode cX3_faultOfReturn 23 = .ok (.iconst 3, 1) := by decide +kernel
theorem dX3_faultOfReturn_24 : decode cX3_faultOfReturn 24 = .ok (.goto 4, 3) := by decide +kernel
theorem dX3_faultOfReturn_27 : decode cX3_faultOfReturn 27 = .ok (.iconst 0, 1) := by decide +kernel
theorem dX3_faultOfReturn_28 : decode cX3_faultOfReturn 28 = .ok (.ireturn, 1) := by decide +kernel
theorem dX3_faultOfSwap_0 : decode cX3_faultOfSwap 0 = .ok (.aload_n 0, 1) := by decide +kernel
theorem dX3_faultOfSwap_1 : decode cX3_faultOfSwap 1 = .ok (.iload_n 1, 1) := by decide +kernel
theorem dX3_faultOfSwap_2 : decode cX3_faultOfSwap 2 = .ok (.invokevirtual 248, 3) := by decide +kernel
theorem dX3_faultOfSwap_5 : decode cX3_faultOfSwap 5 = .ok (.ifCond .eq 11, 3) := by decide +kernel
theorem dX3_faultOfSwap_8 : decode cX3_faultOfSwap 8 = .ok (.aload_n 0, 1) := by decide +kernel
theorem dX3_faultOfSwap_9 : decode cX3_faultOfSwap 9 = .ok (.iload_n 2, 1) := by decide +kernel
theorem dX3_faultOfSwap_10 : decode cX3_faultOfSwap 10 = .ok (.invokevirtual 248, 3) := by decide +kernel
theorem dX3_faultOfSwap_13 : decode cX3_faultOfSwap 13 = .ok (.ifCond .ne 5, 3) := by decide +kernel
theorem dX3_faultOfSwap_16 : decode cX3_faultOfSwap 16 = .ok (.iconst 1, 1) := by decide +kernel
theorem dX3_faultOfSwap_17 : decode cX3_faultOfSwap 17 = .ok (.ireturn, 1) := by decide +kernel
theorem dX3_faultOfSwap_18 : decode cX3_faultOfSwap 18 = .ok (.aload_n 0, 1) := by decide +kernel
theorem dX3_faultOfSwap_19 : decode cX3_faultOfSwap 19 = .ok (.getfield 29, 3) := by decide +kernel
theorem dX3_faultOfSwap_22 : decode cX3_faultOfSwap 22 = .ok (.iload_n 1, 1) := by decide +kernel
theorem dX3_faultOfSwap_23 : decode cX3_faultOfSwap 23 = .ok (.aaload, 1) := by decide +kernel
theorem dX3_faultOfSwap_24 : decode cX3_faultOfSwap 24 = .ok (.getfield 94, 3) := by decide +kernel
theorem dX3_faultOfSwap_27 : decode cX3_faultOfSwap 27 = .ok (.iconst (-1), 1) := by decide +kernel
theorem dX3_faultOfSwap_28 : decode cX3_faultOfSwap 28 = .ok (.if_icmp .ne 20, 3) := by decide +kernel
theorem dX3_faultOfSwap_31 : decode cX3_faultOfSwap 31 = .ok (.aload_n 0, 1) := by decide +kernel
theorem dX3_faultOfSwap_32 : decode cX3_faultOfSwap 32 = .ok (.getfield 29, 3) := by decide +kernel
theorem dX3_faultOfSwap_35 : decode cX3_faultOfSwap 35 = .ok (.iload_n 2, 1) := by decide +kernel
theorem dX3_faultOfSwap_36 : decode cX3_faultOfSwap 36 = .ok (.aaload, 1) := by decide +kernel
theorem dX3_faultOfSwap_37 : decode cX3_faultOfSwap 37 = .ok (.getfield 94, 3) := by decide +kernel
theorem dX3_faultOfSwap_40 : decode cX3_faultOfSwap 40 = .ok (.iconst (-1), 1) := by decide +kernel
theorem dX3_faultOfSwap_41 : decode cX3_faultOfSwap 41 = .ok (.if_icmp .ne 7, 3) := by decide +kernel
theorem dX3_faultOfSwap_44 : decode cX3_faultOfSwap 44 = .ok (.iconst 1, 1) := by decide +kernel
theorem dX3_faultOfSwap_45 : decode cX3_faultOfSwap 45 = .ok (.goto 4, 3) := by decide +kernel
theorem dX3_faultOfSwap_48 : decode cX3_faultOfSwap 48 = .ok (.iconst 0, 1) := by decide +kernel
theorem dX3_faultOfSwap_49 : decode cX3_faultOfSwap 49 = .ok (.istore_n 3, 1) := by decide +kernel
theorem dX3_faultOfSwap_50 : decode cX3_faultOfSwap 50 = .ok (.iload_n 1, 1) := by decide +kernel
theorem dX3_faultOfSwap_51 : decode cX3_faultOfSwap 51 = .ok (.iload_n 2, 1) := by decide +kernel
theorem dX3_faultOfSwap_52 : decode cX3_faultOfSwap 52 = .ok (.if_icmp .eq 7, 3) := by decide +kernel
theorem dX3_faultOfSwap_55 : decode cX3_faultOfSwap 55 = .ok (.iload_n 3, 1) := by decide +kernel
theorem dX3_faultOfSwap_56 : decode cX3_faultOfSwap 56 = .ok (.ifCond .eq 7, 3) := by decide +kernel
theorem dX3_faultOfSwap_59 : decode cX3_faultOfSwap 59 = .ok (.iconst 3, 1) := by decide +kernel
theorem dX3_faultOfSwap_60 : decode cX3_faultOfSwap 60 = .ok (.goto 4, 3) := by decide +kernel
theorem dX3_faultOfSwap_63 : decode cX3_faultOfSwap 63 = .ok (.iconst 0, 1) := by decide +kernel
theorem dX3_faultOfSwap_64 : decode cX3_faultOfSwap 64 = .ok (.ireturn, 1) := by decide +kernel
theorem dX3_faultOfLie_0 : decode cX3_faultOfLie 0 = .ok (.aload_n 0, 1) := by decide +kernel
theorem dX3_faultOfLie_1 : decode cX3_faultOfLie 1 = .ok (.iload_n 1, 1) := by decide +kernel
theorem dX3_faultOfLie_2 : decode cX3_faultOfLie 2 = .ok (.invokevirtual 248, 3) := by decide +kernel
theorem dX3_faultOfLie_5 : decode cX3_faultOfLie 5 = .ok (.ifCond .eq 11, 3) := by decide +kernel
theorem dX3_faultOfLie_8 : decode cX3_faultOfLie 8 = .ok (.aload_n 0, 1) := by decide +kernel
theorem dX3_faultOfLie_9 : decode cX3_faultOfLie 9 = .ok (.iload_n 2, 1) := by decide +kernel
theorem dX3_faultOfLie_10 : decode cX3_faultOfLie 10 = .ok (.invokevirtual 114, 3) := by decide +kernel
theorem dX3_faultOfLie_13 : decode cX3_faultOfLie 13 = .ok (.ifCond .ne 5, 3) := by decide +kernel
theorem dX3_faultOfLie_16 : decode cX3_faultOfLie 16 = .ok (.iconst 1, 1) := by decide +kernel
theorem dX3_faultOfLie_17 : decode cX3_faultOfLie 17 = .ok (.ireturn, 1) := by decide +kernel
theorem dX3_faultOfLie_18 : decode cX3_faultOfLie 18 = .ok (.aload_n 0, 1) := by decide +kernel
theorem dX3_faultOfLie_19 : decode cX3_faultOfLie 19 = .ok (.iload_n 2, 1) := by decide +kernel
theorem dX3_faultOfLie_20 : decode cX3_faultOfLie 20 = .ok (.invokevirtual 127, 3) := by decide +kernel
theorem dX3_faultOfLie_23 : decode cX3_faultOfLie 23 = .ok (.iconst (-1), 1) := by decide +kernel
theorem dX3_faultOfLie_24 : decode cX3_faultOfLie 24 = .ok (.if_icmp .ne 7, 3) := by decide +kernel
theorem dX3_faultOfLie_27 : decode cX3_faultOfLie 27 = .ok (.iconst 0, 1) := by decide +kernel
theorem dX3_faultOfLie_28 : decode cX3_faultOfLie 28 = .ok (.goto 4, 3) := by decide +kernel
theorem dX3_faultOfLie_31 : decode cX3_faultOfLie 31 = .ok (.iconst 3, 1) := by decide +kernel
theorem dX3_faultOfLie_32 : decode cX3_faultOfLie 32 = .ok (.ireturn, 1) := by decide +kernel
theorem dX3_faultOfRise_0 : decode cX3_faultOfRise 0 = .ok (.aload_n 0, 1) := by decide +kernel
theorem dX3_faultOfRise_1 : decode cX3_faultOfRise 1 = .ok (.iload_n 1, 1) := by decide +kernel
theorem dX3_faultOfRise_2 : decode cX3_faultOfRise 2 = .ok (.invokevirtual 248, 3) := by decide +kernel
theorem dX3_faultOfRise_5 : decode cX3_faultOfRise 5 = .ok (.ifCond .ne 5, 3) := by decide +kernel
theorem dX3_faultOfRise_8 : decode cX3_faultOfRise 8 = .ok (.iconst 1, 1) := by decide +kernel
theorem dX3_faultOfRise_9 : decode cX3_faultOfRise 9 = .ok (.ireturn, 1) := by decide +kernel
theorem dX3_faultOfRise_10 : decode cX3_faultOfRise 10 = .ok (.aload_n 0, 1) := by decide +kernel
theorem dX3_faultOfRise_11 : decode cX3_faultOfRise 11 = .ok (.getfield 29, 3) := by decide +kernel
theorem dX3_faultOfRise_14 : decode cX3_faultOfRise 14 = .ok (.iload_n 1, 1) := by decide +kernel
theorem dX3_faultOfRise_15 : decode cX3_faultOfRise 15 = .ok (.aaload, 1) := by decide +kernel
theorem dX3_faultOfRise_16 : decode cX3_faultOfRise 16 = .ok (.getfield 104, 3) := by decide +kernel
theorem dX3_faultOfRise_19 : decode cX3_faultOfRise 19 = .ok (.iconst (-1), 1) := by decide +kernel
theorem dX3_faultOfRise_20 : decode cX3_faultOfRise 20 = .ok (.if_icmp .ne 7, 3) := by decide +kernel
theorem dX3_faultOfRise_23 : decode cX3_faultOfRise 23 = .ok (.iconst 3, 1) := by decide +kernel
theorem dX3_faultOfRise_24 : decode cX3_faultOfRise 24 = .ok (.goto 4, 3) := by decide +kernel
theorem dX3_faultOfRise_27 : decode cX3_faultOfRise 27 = .ok (.iconst 0, 1) := by decide +kernel
theorem dX3_faultOfRise_28 : decode cX3_faultOfRise 28 = .ok (.ireturn, 1) := by decide +kernel
theorem dX3_faultOfFetch_0 : decode cX3_faultOfFetch 0 = .ok (.iload_n 1, 1) := by decide +kernel
theorem dX3_faultOfFetch_1 : decode cX3_faultOfFetch 1 = .ok (.iconst 1, 1) := by decide +kernel
theorem dX3_faultOfFetch_2 : decode cX3_faultOfFetch 2 = .ok (.bipush 50, 2) := by decide +kernel
theorem dX3_faultOfFetch_4 : decode cX3_faultOfFetch 4 = .ok (.invokestatic 164, 3) := by decide +kernel
theorem dX3_faultOfFetch_7 : decode cX3_faultOfFetch 7 = .ok (.ifCond .ne 5, 3) := by decide +kernel
theorem dX3_faultOfFetch_10 : decode cX3_faultOfFetch 10 = .ok (.iconst 2, 1) := by decide +kernel
theorem dX3_faultOfFetch_11 : decode cX3_faultOfFetch 11 = .ok (.ireturn, 1) := by decide +kernel
theorem dX3_faultOfFetch_12 : decode cX3_faultOfFetch 12 = .ok (.aload_n 0, 1) := by decide +kernel
theorem dX3_faultOfFetch_13 : decode cX3_faultOfFetch 13 = .ok (.getfield 34, 3) := by decide +kernel
theorem dX3_faultOfFetch_16 : decode cX3_faultOfFetch 16 = .ok (.iload_n 1, 1) := by decide +kernel
theorem dX3_faultOfFetch_17 : decode cX3_faultOfFetch 17 = .ok (.iadd, 1) := by decide +kernel
theorem dX3_faultOfFetch_18 : decode cX3_faultOfFetch 18 = .ok (.bipush 99, 2) := by decide +kernel
theorem dX3_faultOfFetch_20 : decode cX3_faultOfFetch 20 = .ok (.if_icmp .le 7, 3) := by decide +kernel
theorem dX3_faultOfFetch_23 : decode cX3_faultOfFetch 23 = .ok (.iconst 3, 1) := by decide +kernel
theorem dX3_faultOfFetch_24 : decode cX3_faultOfFetch 24 = .ok (.goto 4, 3) := by decide +kernel
theorem dX3_faultOfFetch_27 : decode cX3_faultOfFetch 27 = .ok (.iconst 0, 1) := by decide +kernel
theorem dX3_faultOfFetch_28 : decode cX3_faultOfFetch 28 = .ok (.ireturn, 1) := by decide +kernel
theorem dX3_faultOfPay_0 : decode cX3_faultOfPay 0 = .ok (.aload_n 0, 1) := by decide +kernel
theorem dX3_faultOfPay_1 : decode cX3_faultOfPay 1 = .ok (.iload_n 1, 1) := by decide +kernel
theorem dX3_faultOfPay_2 : decode cX3_faultOfPay 2 = .ok (.invokevirtual 248, 3) := by decide +kernel
theorem dX3_faultOfPay_5 : decode cX3_faultOfPay 5 = .ok (.ifCond .ne 5, 3) := by decide +kernel
theorem dX3_faultOfPay_8 : decode cX3_faultOfPay 8 = .ok (.iconst 1, 1) := by decide +kernel
theorem dX3_faultOfPay_9 : decode cX3_faultOfPay 9 = .ok (.ireturn, 1) := by decide +kernel
theorem dX3_faultOfPay_10 : decode cX3_faultOfPay 10 = .ok (.iload_n 2, 1) := by decide +kernel
theorem dX3_faultOfPay_11 : decode cX3_faultOfPay 11 = .ok (.iconst 1, 1) := by decide +kernel
theorem dX3_faultOfPay_12 : decode cX3_faultOfPay 12 = .ok (.bipush 99, 2) := by decide +kernel
theorem dX3_faultOfPay_14 : decode cX3_faultOfPay 14 = .ok (.invokestatic 164, 3) := by decide +kernel
theorem dX3_faultOfPay_17 : decode cX3_faultOfPay 17 = .ok (.ifCond .ne 5, 3) := by decide +kernel
theorem dX3_faultOfPay_20 : decode cX3_faultOfPay 20 = .ok (.iconst 2, 1) := by decide +kernel
theorem dX3_faultOfPay_21 : decode cX3_faultOfPay 21 = .ok (.ireturn, 1) := by decide +kernel
theorem dX3_faultOfPay_22 : decode cX3_faultOfPay 22 = .ok (.aload_n 0, 1) := by decide +kernel
theorem dX3_faultOfPay_23 : decode cX3_faultOfPay 23 = .ok (.getfield 29, 3) := by decide +kernel
theorem dX3_faultOfPay_26 : decode cX3_faultOfPay 26 = .ok (.iload_n 1, 1) := by decide +kernel
theorem dX3_faultOfPay_27 : decode cX3_faultOfPay 27 = .ok (.aaload, 1) := by decide +kernel
theorem dX3_faultOfPay_28 : decode cX3_faultOfPay 28 = .ok (.getfield 188, 3) := by decide +kernel
theorem dX3_faultOfPay_31 : decode cX3_faultOfPay 31 = .ok (.iload_n 2, 1) := by decide +kernel
theorem dX3_faultOfPay_32 : decode cX3_faultOfPay 32 = .ok (.if_icmp .lt 16, 3) := by decide +kernel
theorem dX3_faultOfPay_35 : decode cX3_faultOfPay 35 = .ok (.aload_n 0, 1) := by decide +kernel
theorem dX3_faultOfPay_36 : decode cX3_faultOfPay 36 = .ok (.getfield 29, 3) := by decide +kernel
theorem dX3_faultOfPay_39 : decode cX3_faultOfPay 39 = .ok (.iload_n 1, 1) := by decide +kernel
theorem dX3_faultOfPay_40 : decode cX3_faultOfPay 40 = .ok (.aaload, 1) := by decide +kernel
theorem dX3_faultOfPay_41 : decode cX3_faultOfPay 41 = .ok (.getfield 191, 3) := by decide +kernel
theorem dX3_faultOfPay_44 : decode cX3_faultOfPay 44 = .ok (.iload_n 2, 1) := by decide +kernel
theorem dX3_faultOfPay_45 : decode cX3_faultOfPay 45 = .ok (.if_icmp .ge 7, 3) := by decide +kernel
theorem dX3_faultOfPay_48 : decode cX3_faultOfPay 48 = .ok (.iconst 1, 1) := by decide +kernel
theorem dX3_faultOfPay_49 : decode cX3_faultOfPay 49 = .ok (.goto 4, 3) := by decide +kernel
theorem dX3_faultOfPay_52 : decode cX3_faultOfPay 52 = .ok (.iconst 0, 1) := by decide +kernel
theorem dX3_faultOfPay_53 : decode cX3_faultOfPay 53 = .ok (.istore_n 3, 1) := by decide +kernel
theorem dX3_faultOfPay_54 : decode cX3_faultOfPay 54 = .ok (.iload_n 3, 1) := by decide +kernel
theorem dX3_faultOfPay_55 : decode cX3_faultOfPay 55 = .ok (.ifCond .eq 7, 3) := by decide +kernel
theorem dX3_faultOfPay_58 : decode cX3_faultOfPay 58 = .ok (.iconst 3, 1) := by decide +kernel
theorem dX3_faultOfPay_59 : decode cX3_faultOfPay 59 = .ok (.goto 4, 3) := by decide +kernel
theorem dX3_faultOfPay_62 : decode cX3_faultOfPay 62 = .ok (.iconst 0, 1) := by decide +kernel
theorem dX3_faultOfPay_63 : decode cX3_faultOfPay 63 = .ok (.ireturn, 1) := by decide +kernel
theorem dX3_faultOfPass_0 : decode cX3_faultOfPass 0 = .ok (.iload_n 1, 1) := by decide +kernel
theorem dX3_faultOfPass_1 : decode cX3_faultOfPass 1 = .ok (.iconst 1, 1) := by decide +kernel
theorem dX3_faultOfPass_2 : decode cX3_faultOfPass 2 = .ok (.bipush 48, 2) := by decide +kernel
theorem dX3_faultOfPass_4 : decode cX3_faultOfPass 4 = .ok (.invokestatic 164, 3) := by decide +kernel
theorem dX3_faultOfPass_7 : decode cX3_faultOfPass 7 = .ok (.ifCond .ne 5, 3) := by decide +kernel
theorem dX3_faultOfPass_10 : decode cX3_faultOfPass 10 = .ok (.iconst 2, 1) := by decide +kernel
theorem dX3_faultOfPass_11 : decode cX3_faultOfPass 11 = .ok (.ireturn, 1) := by decide +kernel
theorem dX3_faultOfPass_12 : decode cX3_faultOfPass 12 = .ok (.aload_n 0, 1) := by decide +kernel
theorem dX3_faultOfPass_13 : decode cX3_faultOfPass 13 = .ok (.getfield 51, 3) := by decide +kernel
theorem dX3_faultOfPass_16 : decode cX3_faultOfPass 16 = .ok (.iload_n 1, 1) := by decide +kernel
theorem dX3_faultOfPass_17 : decode cX3_faultOfPass 17 = .ok (.iadd, 1) := by decide +kernel
theorem dX3_faultOfPass_18 : decode cX3_faultOfPass 18 = .ok (.sipush 9999, 3) := by decide +kernel
theorem dX3_faultOfPass_21 : decode cX3_faultOfPass 21 = .ok (.if_icmp .le 7, 3) := by decide +kernel
theorem dX3_faultOfPass_24 : decode cX3_faultOfPass 24 = .ok (.iconst 3, 1) := by decide +kernel
theorem dX3_faultOfPass_25 : decode cX3_faultOfPass 25 = .ok (.goto 4, 3) := by decide +kernel
theorem dX3_faultOfPass_28 : decode cX3_faultOfPass 28 = .ok (.iconst 0, 1) := by decide +kernel
theorem dX3_faultOfPass_29 : decode cX3_faultOfPass 29 = .ok (.ireturn, 1) := by decide +kernel
theorem dX3_perform_0 : decode cX3_perform 0 = .ok (.iload_n 1, 1) := by decide +kernel
theorem dX3_perform_1 : decode cX3_perform 1 = .ok (.tableswitch 121 0 7 #[47, 64, 71, 82, 95, 102, 108, 114], 47) := by decide +kernel
theorem dX3_perform_48 : decode cX3_perform 48 = .ok (.aload_n 0, 1) := by decide +kernel
theorem dX3_perform_49 : decode cX3_perform 49 = .ok (.iload_n 2, 1) := by decide +kernel
theorem dX3_perform_50 : decode cX3_perform 50 = .ok (.iload_n 3, 1) := by decide +kernel
theorem dX3_perform_51 : decode cX3_perform 51 = .ok (.invokevirtual 251, 3) := by decide +kernel
theorem dX3_perform_54 : decode cX3_perform 54 = .ok (.pop, 1) := by decide +kernel
theorem dX3_perform_55 : decode cX3_perform 55 = .ok (.aload_n 0, 1) := by decide +kernel
theorem dX3_perform_56 : decode cX3_perform 56 = .ok (.getfield 29, 3) := by decide +kernel
theorem dX3_perform_59 : decode cX3_perform 59 = .ok (.iload_n 2, 1) := by decide +kernel
theorem dX3_perform_60 : decode cX3_perform 60 = .ok (.aaload, 1) := by decide +kernel
theorem dX3_perform_61 : decode cX3_perform 61 = .ok (.getfield 111, 3) := by decide +kernel
theorem dX3_perform_64 : decode cX3_perform 64 = .ok (.ireturn, 1) := by decide +kernel
theorem dX3_perform_65 : decode cX3_perform 65 = .ok (.aload_n 0, 1) := by decide +kernel
theorem dX3_perform_66 : decode cX3_perform 66 = .ok (.iload_n 2, 1) := by decide +kernel
theorem dX3_perform_67 : decode cX3_perform 67 = .ok (.iconst (-1), 1) := by decide +kernel
theorem dX3_perform_68 : decode cX3_perform 68 = .ok (.invokevirtual 251, 3) := by decide +kernel
theorem dX3_perform_71 : decode cX3_perform 71 = .ok (.ireturn, 1) := by decide +kernel
theorem dX3_perform_72 : decode cX3_perform 72 = .ok (.aload_n 0, 1) := by decide +kernel
theorem dX3_perform_73 : decode cX3_perform 73 = .ok (.iload_n 2, 1) := by decide +kernel
theorem dX3_perform_74 : decode cX3_perform 74 = .ok (.iload_n 3, 1) := by decide +kernel
theorem dX3_perform_75 : decode cX3_perform 75 = .ok (.invokevirtual 254, 3) := by decide +kernel
theorem dX3_perform_78 : decode cX3_perform 78 = .ok (.aload_n 0, 1) := by decide +kernel
theorem dX3_perform_79 : decode cX3_perform 79 = .ok (.invokevirtual 258, 3) := by decide +kernel
theorem dX3_perform_82 : decode cX3_perform 82 = .ok (.ireturn, 1) := by decide +kernel
theorem dX3_perform_83 : decode cX3_perform 83 = .ok (.aload_n 0, 1) := by decide +kernel
theorem dX3_perform_84 : decode cX3_perform 84 = .ok (.iload_n 2, 1) := by decide +kernel
theorem dX3_perform_85 : decode cX3_perform 85 = .ok (.iload_n 3, 1) := by decide +kernel
theorem dX3_perform_86 : decode cX3_perform 86 = .ok (.invokevirtual 261, 3) := by decide +kernel
theorem dX3_perform_89 : decode cX3_perform 89 = .ok (.pop, 1) := by decide +kernel
theorem dX3_perform_90 : decode cX3_perform 90 = .ok (.aload_n 0, 1) := by decide +kernel
theorem dX3_perform_91 : decode cX3_perform 91 = .ok (.iload_n 3, 1) := by decide +kernel
theorem dX3_perform_92 : decode cX3_perform 92 = .ok (.invokevirtual 124, 3) := by decide +kernel
theorem dX3_perform_95 : decode cX3_perform 95 = .ok (.ireturn, 1) := by decide +kernel
theorem dX3_perform_96 : decode cX3_perform 96 = .ok (.aload_n 0, 1) := by decide +kernel
theorem dX3_perform_97 : decode cX3_perform 97 = .ok (.iload_n 2, 1) := by decide +kernel
theorem dX3_perform_98 : decode cX3_perform 98 = .ok (.iconst (-1), 1) := by decide +kernel
theorem dX3_perform_99 : decode cX3_perform 99 = .ok (.invokevirtual 261, 3) := by decide +kernel
theorem dX3_perform_102 : decode cX3_perform 102 = .ok (.ireturn, 1) := by decide +kernel
theorem dX3_perform_103 : decode cX3_perform 103 = .ok (.aload_n 0, 1) := by decide +kernel
theorem dX3_perform_104 : decode cX3_perform 104 = .ok (.iload_n 2, 1) := by decide +kernel
theorem dX3_perform_105 : decode cX3_perform 105 = .ok (.invokevirtual 264, 3) := by decide +kernel
theorem dX3_perform_108 : decode cX3_perform 108 = .ok (.ireturn, 1) := by decide +kernel
theorem dX3_perform_109 : decode cX3_perform 109 = .ok (.aload_n 0, 1) := by decide +kernel
theorem dX3_perform_110 : decode cX3_perform 110 = .ok (.iload_n 2, 1) := by decide +kernel
theorem dX3_perform_111 : decode cX3_perform 111 = .ok (.invokevirtual 267, 3) := by decide +kernel
theorem dX3_perform_114 : decode cX3_perform 114 = .ok (.ireturn, 1) := by decide +kernel
theorem dX3_perform_115 : decode cX3_perform 115 = .ok (.aload_n 0, 1) := by decide +kernel
theorem dX3_perform_116 : decode cX3_perform 116 = .ok (.iload_n 2, 1) := by decide +kernel
theorem dX3_perform_117 : decode cX3_perform 117 = .ok (.iload_n 3, 1) := by decide +kernel
theorem dX3_perform_118 : decode cX3_perform 118 = .ok (.invokevirtual 270, 3) := by decide +kernel
theorem dX3_perform_121 : decode cX3_perform 121 = .ok (.ireturn, 1) := by decide +kernel
theorem dX3_perform_122 : decode cX3_perform 122 = .ok (.aload_n 0, 1) := by decide +kernel
theorem dX3_perform_123 : decode cX3_perform 123 = .ok (.iload_n 2, 1) := by decide +kernel
theorem dX3_perform_124 : decode cX3_perform 124 = .ok (.invokevirtual 273, 3) := by decide +kernel
theorem dX3_perform_127 : decode cX3_perform 127 = .ok (.ireturn, 1) := by decide +kernel
theorem dX3_giveBlanket_0 : decode cX3_giveBlanket 0 = .ok (.aload_n 0, 1) := by decide +kernel
theorem dX3_giveBlanket_1 : decode cX3_giveBlanket 1 = .ok (.getfield 29, 3) := by decide +kernel
theorem dX3_giveBlanket_4 : decode cX3_giveBlanket 4 = .ok (.iload_n 1, 1) := by decide +kernel
theorem dX3_giveBlanket_5 : decode cX3_giveBlanket 5 = .ok (.aaload, 1) := by decide +kernel
theorem dX3_giveBlanket_6 : decode cX3_giveBlanket 6 = .ok (.getfield 94, 3) := by decide +kernel
theorem dX3_giveBlanket_9 : decode cX3_giveBlanket 9 = .ok (.istore_n 3, 1) := by decide +kernel
theorem dX3_giveBlanket_10 : decode cX3_giveBlanket 10 = .ok (.aload_n 0, 1) := by decide +kernel
theorem dX3_giveBlanket_11 : decode cX3_giveBlanket 11 = .ok (.getfield 29, 3) := by decide +kernel
theorem dX3_giveBlanket_14 : decode cX3_giveBlanket 14 = .ok (.iload_n 1, 1) := by decide +kernel
theorem dX3_giveBlanket_15 : decode cX3_giveBlanket 15 = .ok (.aaload, 1) := by decide +kernel
theorem dX3_giveBlanket_16 : decode cX3_giveBlanket 16 = .ok (.iload_n 2, 1) := by decide +kernel
theorem dX3_giveBlanket_17 : decode cX3_giveBlanket 17 = .ok (.putfield 94, 3) := by decide +kernel
theorem dX3_giveBlanket_20 : decode cX3_giveBlanket 20 = .ok (.aload_n 0, 1) := by decide +kernel
theorem dX3_giveBlanket_21 : decode cX3_giveBlanket 21 = .ok (.invokevirtual 48, 3) := by decide +kernel
theorem dX3_giveBlanket_24 : decode cX3_giveBlanket 24 = .ok (.iload_n 3, 1) := by decide +kernel
theorem dX3_giveBlanket_25 : decode cX3_giveBlanket 25 = .ok (.ireturn, 1) := by decide +kernel
theorem dX3_exchangeBlankets_0 : decode cX3_exchangeBlankets 0 = .ok (.aload_n 0, 1) := by decide +kernel
theorem dX3_exchangeBlankets_1 : decode cX3_exchangeBlankets 1 = .ok (.getfield 29, 3) := by decide +kernel
theorem dX3_exchangeBlankets_4 : decode cX3_exchangeBlankets 4 = .ok (.iload_n 1, 1) := by decide +kernel
theorem dX3_exchangeBlankets_5 : decode cX3_exchangeBlankets 5 = .ok (.aaload, 1) := by decide +kernel
theorem dX3_exchangeBlankets_6 : decode cX3_exchangeBlankets 6 = .ok (.getfield 94, 3) := by decide +kernel
theorem dX3_exchangeBlankets_9 : decode cX3_exchangeBlankets 9 = .ok (.istore_n 3, 1) := by decide +kernel
theorem dX3_exchangeBlankets_10 : decode cX3_exchangeBlankets 10 = .ok (.aload_n 0, 1) := by decide +kernel
theorem dX3_exchangeBlankets_11 : decode cX3_exchangeBlankets 11 = .ok (.getfield 29, 3) := by decide +kernel
theorem dX3_exchangeBlankets_14 : decode cX3_exchangeBlankets 14 = .ok (.iload_n 1, 1) := by decide +kernel
theorem dX3_exchangeBlankets_15 : decode cX3_exchangeBlankets 15 = .ok (.aaload, 1) := by decide +kernel
theorem dX3_exchangeBlankets_16 : decode cX3_exchangeBlankets 16 = .ok (.aload_n 0, 1) := by decide +kernel
theorem dX3_exchangeBlankets_17 : decode cX3_exchangeBlankets 17 = .ok (.getfield 29, 3) := by decide +kernel
theorem dX3_exchangeBlankets_20 : decode cX3_exchangeBlankets 20 = .ok (.iload_n 2, 1) := by decide +kernel
theorem dX3_exchangeBlankets_21 : decode cX3_exchangeBlankets 21 = .ok (.aaload, 1) := by decide +kernel
theorem dX3_exchangeBlankets_22 : decode cX3_exchangeBlankets 22 = .ok (.getfield 94, 3) := by decide +kernel
theorem dX3_exchangeBlankets_25 : decode cX3_exchangeBlankets 25 = .ok (.putfield 94, 3) := by decide +kernel
theorem dX3_exchangeBlankets_28 : decode cX3_exchangeBlankets 28 = .ok (.aload_n 0, 1) := by decide +kernel
theorem dX3_exchangeBlankets_29 : decode cX3_exchangeBlankets 29 = .ok (.getfield 29, 3) := by decide +kernel
theorem dX3_exchangeBlankets_32 : decode cX3_exchangeBlankets 32 = .ok (.iload_n 2, 1) := by decide +kernel
theorem dX3_exchangeBlankets_33 : decode cX3_exchangeBlankets 33 = .ok (.aaload, 1) := by decide +kernel
theorem dX3_exchangeBlankets_34 : decode cX3_exchangeBlankets 34 = .ok (.iload_n 3, 1) := by decide +kernel
theorem dX3_exchangeBlankets_35 : decode cX3_exchangeBlankets 35 = .ok (.putfield 94, 3) := by decide +kernel
theorem dX3_exchangeBlankets_38 : decode cX3_exchangeBlankets 38 = .ok (.aload_n 0, 1) := by decide +kernel
theorem dX3_exchangeBlankets_39 : decode cX3_exchangeBlankets 39 = .ok (.invokevirtual 48, 3) := by decide +kernel
theorem dX3_exchangeBlankets_42 : decode cX3_exchangeBlankets 42 = .ok (.return_, 1) := by decide +kernel
theorem dX3_moveTo_0 : decode cX3_moveTo 0 = .ok (.aload_n 0, 1) := by decide +kernel
theorem dX3_moveTo_1 : decode cX3_moveTo 1 = .ok (.getfield 29, 3) := by decide +kernel
theorem dX3_moveTo_4 : decode cX3_moveTo 4 = .ok (.iload_n 1, 1) := by decide +kernel
theorem dX3_moveTo_5 : decode cX3_moveTo 5 = .ok (.aaload, 1) := by decide +kernel
theorem dX3_moveTo_6 : decode cX3_moveTo 6 = .ok (.getfield 104, 3) := by decide +kernel
theorem dX3_moveTo_9 : decode cX3_moveTo 9 = .ok (.istore_n 3, 1) := by decide +kernel
theorem dX3_moveTo_10 : decode cX3_moveTo 10 = .ok (.aload_n 0, 1) := by decide +kernel
theorem dX3_moveTo_11 : decode cX3_moveTo 11 = .ok (.iload_n 3, 1) := by decide +kernel
theorem dX3_moveTo_12 : decode cX3_moveTo 12 = .ok (.invokevirtual 114, 3) := by decide +kernel
theorem dX3_moveTo_15 : decode cX3_moveTo 15 = .ok (.ifCond .eq 12, 3) := by decide +kernel
theorem dX3_moveTo_18 : decode cX3_moveTo 18 = .ok (.aload_n 0, 1) := by decide +kernel
theorem dX3_moveTo_19 : decode cX3_moveTo 19 = .ok (.getfield 21, 3) := by decide +kernel
theorem dX3_moveTo_22 : decode cX3_moveTo 22 = .ok (.iload_n 3, 1) := by decide +kernel
theorem dX3_moveTo_23 : decode cX3_moveTo 23 = .ok (.iconst 2, 1) := by decide +kernel
theorem dX3_moveTo_24 : decode cX3_moveTo 24 = .ok (.iadd, 1) := by decide +kernel
theorem dX3_moveTo_25 : decode cX3_moveTo 25 = .ok (.iconst (-1), 1) := by decide +kernel
theorem dX3_moveTo_26 : decode cX3_moveTo 26 = .ok (.iastore, 1) := by decide +kernel
theorem dX3_moveTo_27 : decode cX3_moveTo 27 = .ok (.aload_n 0, 1) := by decide +kernel
theorem dX3_moveTo_28 : decode cX3_moveTo 28 = .ok (.iload_n 2, 1) := by decide +kernel
theorem dX3_moveTo_29 : decode cX3_moveTo 29 = .ok (.invokevirtual 114, 3) := by decide +kernel
theorem dX3_moveTo_32 : decode cX3_moveTo 32 = .ok (.ifCond .eq 12, 3) := by decide +kernel
theorem dX3_moveTo_35 : decode cX3_moveTo 35 = .ok (.aload_n 0, 1) := by decide +kernel
theorem dX3_moveTo_36 : decode cX3_moveTo 36 = .ok (.getfield 21, 3) := by decide +kernel
theorem dX3_moveTo_39 : decode cX3_moveTo 39 = .ok (.iload_n 2, 1) := by decide +kernel
theorem dX3_moveTo_40 : decode cX3_moveTo 40 = .ok (.iconst 2, 1) := by decide +kernel
theorem dX3_moveTo_41 : decode cX3_moveTo 41 = .ok (.iadd, 1) := by decide +kernel
theorem dX3_moveTo_42 : decode cX3_moveTo 42 = .ok (.iload_n 1, 1) := by decide +kernel
theorem dX3_moveTo_43 : decode cX3_moveTo 43 = .ok (.iastore, 1) := by decide +kernel
theorem dX3_moveTo_44 : decode cX3_moveTo 44 = .ok (.aload_n 0, 1) := by decide +kernel
theorem dX3_moveTo_45 : decode cX3_moveTo 45 = .ok (.getfield 29, 3) := by decide +kernel
theorem dX3_moveTo_48 : decode cX3_moveTo 48 = .ok (.iload_n 1, 1) := by decide +kernel
theorem dX3_moveTo_49 : decode cX3_moveTo 49 = .ok (.aaload, 1) := by decide +kernel
theorem dX3_moveTo_50 : decode cX3_moveTo 50 = .ok (.iload_n 2, 1) := by decide +kernel
theorem dX3_moveTo_51 : decode cX3_moveTo 51 = .ok (.putfield 104, 3) := by decide +kernel
theorem dX3_moveTo_54 : decode cX3_moveTo 54 = .ok (.aload_n 0, 1) := by decide +kernel
theorem dX3_moveTo_55 : decode cX3_moveTo 55 = .ok (.invokevirtual 48, 3) := by decide +kernel
theorem dX3_moveTo_58 : decode cX3_moveTo 58 = .ok (.iload_n 3, 1) := by decide +kernel
theorem dX3_moveTo_59 : decode cX3_moveTo 59 = .ok (.ireturn, 1) := by decide +kernel
theorem dX3_changeRate_0 : decode cX3_changeRate 0 = .ok (.aload_n 0, 1) := by decide +kernel
theorem dX3_changeRate_1 : decode cX3_changeRate 1 = .ok (.getfield 57, 3) := by decide +kernel
theorem dX3_changeRate_4 : decode cX3_changeRate 4 = .ok (.istore_n 2, 1) := by decide +kernel
theorem dX3_changeRate_5 : decode cX3_changeRate 5 = .ok (.aload_n 0, 1) := by decide +kernel
theorem dX3_changeRate_6 : decode cX3_changeRate 6 = .ok (.iload_n 1, 1) := by decide +kernel
theorem dX3_changeRate_7 : decode cX3_changeRate 7 = .ok (.putfield 57, 3) := by decide +kernel
theorem dX3_changeRate_10 : decode cX3_changeRate 10 = .ok (.iload_n 2, 1) := by decide +kernel
theorem dX3_changeRate_11 : decode cX3_changeRate 11 = .ok (.ireturn, 1) := by decide +kernel
theorem dX3_addLogs_0 : decode cX3_addLogs 0 = .ok (.aload_n 0, 1) := by decide +kernel
theorem dX3_addLogs_1 : decode cX3_addLogs 1 = .ok (.dup, 1) := by decide +kernel
theorem dX3_addLogs_2 : decode cX3_addLogs 2 = .ok (.getfield 34, 3) := by decide +kernel
theorem dX3_addLogs_5 : decode cX3_addLogs 5 = .ok (.iload_n 1, 1) := by decide +kernel
theorem dX3_addLogs_6 : decode cX3_addLogs 6 = .ok (.iadd, 1) := by decide +kernel
theorem dX3_addLogs_7 : decode cX3_addLogs 7 = .ok (.putfield 34, 3) := by decide +kernel
theorem dX3_addLogs_10 : decode cX3_addLogs 10 = .ok (.aload_n 0, 1) := by decide +kernel
theorem dX3_addLogs_11 : decode cX3_addLogs 11 = .ok (.dup, 1) := by decide +kernel
theorem dX3_addLogs_12 : decode cX3_addLogs 12 = .ok (.getfield 38, 3) := by decide +kernel
theorem dX3_addLogs_15 : decode cX3_addLogs 15 = .ok (.iload_n 1, 1) := by decide +kernel
theorem dX3_addLogs_16 : decode cX3_addLogs 16 = .ok (.iadd, 1) := by decide +kernel
theorem dX3_addLogs_17 : decode cX3_addLogs 17 = .ok (.putfield 38, 3) := by decide +kernel
theorem dX3_addLogs_20 : decode cX3_addLogs 20 = .ok (.aload_n 0, 1) := by decide +kernel
theorem dX3_addLogs_21 : decode cX3_addLogs 21 = .ok (.getfield 34, 3) := by decide +kernel
theorem dX3_addLogs_24 : decode cX3_addLogs 24 = .ok (.ireturn, 1) := by decide +kernel
theorem dX3_payBack_0 : decode cX3_payBack 0 = .ok (.aload_n 0, 1) := by decide +kernel
theorem dX3_payBack_1 : decode cX3_payBack 1 = .ok (.getfield 29, 3) := by decide +kernel
theorem dX3_payBack_4 : decode cX3_payBack 4 = .ok (.iload_n 1, 1) := by decide +kernel
theorem dX3_payBack_5 : decode cX3_payBack 5 = .ok (.aaload, 1) := by decide +kernel
theorem dX3_payBack_6 : decode cX3_payBack 6 = .ok (.dup, 1) := by decide +kernel
theorem dX3_payBack_7 : decode cX3_payBack 7 = .ok (.getfield 188, 3) := by decide +kernel
theorem dX3_payBack_10 : decode cX3_payBack 10 = .ok (.iload_n 2, 1) := by decide +kernel
theorem dX3_payBack_11 : decode cX3_payBack 11 = .ok (.isub, 1) := by decide +kernel
theorem dX3_payBack_12 : decode cX3_payBack 12 = .ok (.putfield 188, 3) := by decide +kernel
theorem dX3_payBack_15 : decode cX3_payBack 15 = .ok (.aload_n 0, 1) := by decide +kernel
theorem dX3_payBack_16 : decode cX3_payBack 16 = .ok (.getfield 29, 3) := by decide +kernel
theorem dX3_payBack_19 : decode cX3_payBack 19 = .ok (.iload_n 1, 1) := by decide +kernel
theorem dX3_payBack_20 : decode cX3_payBack 20 = .ok (.aaload, 1) := by decide +kernel
theorem dX3_payBack_21 : decode cX3_payBack 21 = .ok (.dup, 1) := by decide +kernel
theorem dX3_payBack_22 : decode cX3_payBack 22 = .ok (.getfield 191, 3) := by decide +kernel
theorem dX3_payBack_25 : decode cX3_payBack 25 = .ok (.iload_n 2, 1) := by decide +kernel
theorem dX3_payBack_26 : decode cX3_payBack 26 = .ok (.isub, 1) := by decide +kernel
theorem dX3_payBack_27 : decode cX3_payBack 27 = .ok (.putfield 191, 3) := by decide +kernel
theorem dX3_payBack_30 : decode cX3_payBack 30 = .ok (.aload_n 0, 1) := by decide +kernel
theorem dX3_payBack_31 : decode cX3_payBack 31 = .ok (.dup, 1) := by decide +kernel
theorem dX3_payBack_32 : decode cX3_payBack 32 = .ok (.getfield 60, 3) := by decide +kernel
theorem dX3_payBack_35 : decode cX3_payBack 35 = .ok (.iload_n 2, 1) := by decide +kernel
theorem dX3_payBack_36 : decode cX3_payBack 36 = .ok (.iadd, 1) := by decide +kernel
theorem dX3_payBack_37 : decode cX3_payBack 37 = .ok (.putfield 60, 3) := by decide +kernel
theorem dX3_payBack_40 : decode cX3_payBack 40 = .ok (.aload_n 0, 1) := by decide +kernel
theorem dX3_payBack_41 : decode cX3_payBack 41 = .ok (.getfield 29, 3) := by decide +kernel
theorem dX3_payBack_44 : decode cX3_payBack 44 = .ok (.iload_n 1, 1) := by decide +kernel
theorem dX3_payBack_45 : decode cX3_payBack 45 = .ok (.aaload, 1) := by decide +kernel
theorem dX3_payBack_46 : decode cX3_payBack 46 = .ok (.getfield 191, 3) := by decide +kernel
theorem dX3_payBack_49 : decode cX3_payBack 49 = .ok (.ireturn, 1) := by decide +kernel
theorem dX4_init_0 : decode cX4_init 0 = .ok (.aload_n 0, 1) := by decide +kernel
theorem dX4_init_1 : decode cX4_init 1 = .ok (.invokespecial 3, 3) := by decide +kernel
theorem dX4_init_4 : decode cX4_init 4 = .ok (.aload_n 0, 1) := by decide +kernel
theorem dX4_init_5 : decode cX4_init 5 = .ok (.sipush 400, 3) := by decide +kernel
theorem dX4_init_8 : decode cX4_init 8 = .ok (.newarray .int, 2) := by decide +kernel
theorem dX4_init_10 : decode cX4_init 10 = .ok (.putfield 9, 3) := by decide +kernel
theorem dX4_init_13 : decode cX4_init 13 = .ok (.return_, 1) := by decide +kernel
theorem dX5_init_0 : decode cX5_init 0 = .ok (.aload_n 0, 1) := by decide +kernel
theorem dX5_init_1 : decode cX5_init 1 = .ok (.invokespecial 3, 3) := by decide +kernel
theorem dX5_init_4 : decode cX5_init 4 = .ok (.aload_n 0, 1) := by decide +kernel
theorem dX5_init_5 : decode cX5_init 5 = .ok (.new 9, 3) := by decide +kernel
theorem dX5_init_8 : decode cX5_init 8 = .ok (.dup, 1) := by decide +kernel
theorem dX5_init_9 : decode cX5_init 9 = .ok (.invokespecial 11, 3) := by decide +kernel
theorem dX5_init_12 : decode cX5_init 12 = .ok (.putfield 12, 3) := by decide +kernel
theorem dX5_init_15 : decode cX5_init 15 = .ok (.return_, 1) := by decide +kernel
theorem dX6_init_0 : decode cX6_init 0 = .ok (.aload_n 0, 1) := by decide +kernel
theorem dX6_init_1 : decode cX6_init 1 = .ok (.invokespecial 3, 3) := by decide +kernel
theorem dX6_init_4 : decode cX6_init 4 = .ok (.aload_n 0, 1) := by decide +kernel
theorem dX6_init_5 : decode cX6_init 5 = .ok (.bipush 30, 2) := by decide +kernel
theorem dX6_init_7 : decode cX6_init 7 = .ok (.newarray .int, 2) := by decide +kernel
theorem dX6_init_9 : decode cX6_init 9 = .ok (.putfield 9, 3) := by decide +kernel
theorem dX6_init_12 : decode cX6_init 12 = .ok (.aload_n 0, 1) := by decide +kernel
theorem dX6_init_13 : decode cX6_init 13 = .ok (.bipush 30, 2) := by decide +kernel
theorem dX6_init_15 : decode cX6_init 15 = .ok (.newarray .int, 2) := by decide +kernel
theorem dX6_init_17 : decode cX6_init 17 = .ok (.putfield 15, 3) := by decide +kernel
theorem dX6_init_20 : decode cX6_init 20 = .ok (.aload_n 0, 1) := by decide +kernel
theorem dX6_init_21 : decode cX6_init 21 = .ok (.bipush 30, 2) := by decide +kernel
theorem dX6_init_23 : decode cX6_init 23 = .ok (.newarray .int, 2) := by decide +kernel
theorem dX6_init_25 : decode cX6_init 25 = .ok (.putfield 18, 3) := by decide +kernel
theorem dX6_init_28 : decode cX6_init 28 = .ok (.return_, 1) := by decide +kernel
theorem dX7_init_0 : decode cX7_init 0 = .ok (.aload_n 0, 1) := by decide +kernel
theorem dX7_init_1 : decode cX7_init 1 = .ok (.invokespecial 3, 3) := by decide +kernel
theorem dX7_init_4 : decode cX7_init 4 = .ok (.aload_n 0, 1) := by decide +kernel
theorem dX7_init_5 : decode cX7_init 5 = .ok (.sipush 500, 3) := by decide +kernel
theorem dX7_init_8 : decode cX7_init 8 = .ok (.newarray .int, 2) := by decide +kernel
theorem dX7_init_10 : decode cX7_init 10 = .ok (.putfield 9, 3) := by decide +kernel
theorem dX7_init_13 : decode cX7_init 13 = .ok (.return_, 1) := by decide +kernel
theorem dX7_hasRoomFor_0 : decode cX7_hasRoomFor 0 = .ok (.aload_n 0, 1) := by decide +kernel
theorem dX7_hasRoomFor_1 : decode cX7_hasRoomFor 1 = .ok (.getfield 15, 3) := by decide +kernel
theorem dX7_hasRoomFor_4 : decode cX7_hasRoomFor 4 = .ok (.iload_n 1, 1) := by decide +kernel
theorem dX7_hasRoomFor_5 : decode cX7_hasRoomFor 5 = .ok (.iadd, 1) := by decide +kernel
theorem dX7_hasRoomFor_6 : decode cX7_hasRoomFor 6 = .ok (.sipush 500, 3) := by decide +kernel
theorem dX7_hasRoomFor_9 : decode cX7_hasRoomFor 9 = .ok (.if_icmp .gt 7, 3) := by decide +kernel
theorem dX7_hasRoomFor_12 : decode cX7_hasRoomFor 12 = .ok (.iconst 1, 1) := by decide +kernel
theorem dX7_hasRoomFor_13 : decode cX7_hasRoomFor 13 = .ok (.goto 4, 3) := by decide +kernel
theorem dX7_hasRoomFor_16 : decode cX7_hasRoomFor 16 = .ok (.iconst 0, 1) := by decide +kernel
theorem dX7_hasRoomFor_17 : decode cX7_hasRoomFor 17 = .ok (.ireturn, 1) := by decide +kernel
theorem dX7_put_0 : decode cX7_put 0 = .ok (.aload_n 0, 1) := by decide +kernel
theorem dX7_put_1 : decode cX7_put 1 = .ok (.iconst 1, 1) := by decide +kernel
theorem dX7_put_2 : decode cX7_put 2 = .ok (.invokevirtual 19, 3) := by decide +kernel
theorem dX7_put_5 : decode cX7_put 5 = .ok (.ifCond .eq 27, 3) := by decide +kernel
theorem dX7_put_8 : decode cX7_put 8 = .ok (.aload_n 0, 1) := by decide +kernel
theorem dX7_put_9 : decode cX7_put 9 = .ok (.getfield 9, 3) := by decide +kernel
theorem dX7_put_12 : decode cX7_put 12 = .ok (.aload_n 0, 1) := by decide +kernel
theorem dX7_put_13 : decode cX7_put 13 = .ok (.getfield 15, 3) := by decide +kernel
theorem dX7_put_16 : decode cX7_put 16 = .ok (.iload_n 1, 1) := by decide +kernel
theorem dX7_put_17 : decode cX7_put 17 = .ok (.sipush 255, 3) := by decide +kernel
theorem dX7_put_20 : decode cX7_put 20 = .ok (.iand, 1) := by decide +kernel
theorem dX7_put_21 : decode cX7_put 21 = .ok (.iastore, 1) := by decide +kernel
theorem dX7_put_22 : decode cX7_put 22 = .ok (.aload_n 0, 1) := by decide +kernel
theorem dX7_put_23 : decode cX7_put 23 = .ok (.dup, 1) := by decide +kernel
theorem dX7_put_24 : decode cX7_put 24 = .ok (.getfield 15, 3) := by decide +kernel
theorem dX7_put_27 : decode cX7_put 27 = .ok (.iconst 1, 1) := by decide +kernel
theorem dX7_put_28 : decode cX7_put 28 = .ok (.iadd, 1) := by decide +kernel
theorem dX7_put_29 : decode cX7_put 29 = .ok (.putfield 15, 3) := by decide +kernel
theorem dX7_put_32 : decode cX7_put 32 = .ok (.return_, 1) := by decide +kernel
theorem dX7_putAll_0 : decode cX7_putAll 0 = .ok (.iconst 0, 1) := by decide +kernel
theorem dX7_putAll_1 : decode cX7_putAll 1 = .ok (.istore_n 2, 1) := by decide +kernel
theorem dX7_putAll_2 : decode cX7_putAll 2 = .ok (.iload_n 2, 1) := by decide +kernel
theorem dX7_putAll_3 : decode cX7_putAll 3 = .ok (.aload_n 1, 1) := by decide +kernel
theorem dX7_putAll_4 : decode cX7_putAll 4 = .ok (.invokevirtual 23, 3) := by decide +kernel
theorem dX7_putAll_7 : decode cX7_putAll 7 = .ok (.if_icmp .ge 18, 3) := by decide +kernel
theorem dX7_putAll_10 : decode cX7_putAll 10 = .ok (.aload_n 0, 1) := by decide +kernel
theorem dX7_putAll_11 : decode cX7_putAll 11 = .ok (.aload_n 1, 1) := by decide +kernel
theorem dX7_putAll_12 : decode cX7_putAll 12 = .ok (.iload_n 2, 1) := by decide +kernel
theorem dX7_putAll_13 : decode cX7_putAll 13 = .ok (.invokevirtual 28, 3) := by decide +kernel
theorem dX7_putAll_16 : decode cX7_putAll 16 = .ok (.invokevirtual 32, 3) := by decide +kernel
theorem dX7_putAll_19 : decode cX7_putAll 19 = .ok (.iinc 2 1, 3) := by decide +kernel
theorem dX7_putAll_22 : decode cX7_putAll 22 = .ok (.goto (-20), 3) := by decide +kernel
theorem dX7_putAll_25 : decode cX7_putAll 25 = .ok (.return_, 1) := by decide +kernel
theorem dX7_readFirst_0 : decode cX7_readFirst 0 = .ok (.aload_n 0, 1) := by decide +kernel
theorem dX7_readFirst_1 : decode cX7_readFirst 1 = .ok (.iconst 0, 1) := by decide +kernel
theorem dX7_readFirst_2 : decode cX7_readFirst 2 = .ok (.putfield 36, 3) := by decide +kernel
theorem dX7_readFirst_5 : decode cX7_readFirst 5 = .ok (.aload_n 0, 1) := by decide +kernel
theorem dX7_readFirst_6 : decode cX7_readFirst 6 = .ok (.invokevirtual 39, 3) := by decide +kernel
theorem dX7_readFirst_9 : decode cX7_readFirst 9 = .ok (.return_, 1) := by decide +kernel
theorem dX7_readNext_0 : decode cX7_readNext 0 = .ok (.aload_n 0, 1) := by decide +kernel
theorem dX7_readNext_1 : decode cX7_readNext 1 = .ok (.aload_n 0, 1) := by decide +kernel
theorem dX7_readNext_2 : decode cX7_readNext 2 = .ok (.getfield 36, 3) := by decide +kernel
theorem dX7_readNext_5 : decode cX7_readNext 5 = .ok (.putfield 42, 3) := by decide +kernel
theorem dX7_readNext_8 : decode cX7_readNext 8 = .ok (.aload_n 0, 1) := by decide +kernel
theorem dX7_readNext_9 : decode cX7_readNext 9 = .ok (.getfield 42, 3) := by decide +kernel
theorem dX7_readNext_12 : decode cX7_readNext 12 = .ok (.aload_n 0, 1) := by decide +kernel
theorem dX7_readNext_13 : decode cX7_readNext 13 = .ok (.getfield 15, 3) := by decide +kernel
theorem dX7_readNext_16 : decode cX7_readNext 16 = .ok (.if_icmp .ge 32, 3) := by decide +kernel
theorem dX7_readNext_19 : decode cX7_readNext 19 = .ok (.aload_n 0, 1) := by decide +kernel
theorem dX7_readNext_20 : decode cX7_readNext 20 = .ok (.getfield 9, 3) := by decide +kernel
theorem dX7_readNext_23 : decode cX7_readNext 23 = .ok (.aload_n 0, 1) := by decide +kernel
theorem dX7_readNext_24 : decode cX7_readNext 24 = .ok (.getfield 42, 3) := by decide +kernel
theorem dX7_readNext_27 : decode cX7_readNext 27 = .ok (.iaload, 1) := by decide +kernel
theorem dX7_readNext_28 : decode cX7_readNext 28 = .ok (.invokestatic 45, 3) := by decide +kernel
theorem dX7_readNext_31 : decode cX7_readNext 31 = .ok (.iconst 4, 1) := by decide +kernel
theorem dX7_readNext_32 : decode cX7_readNext 32 = .ok (.if_icmp .ne 16, 3) := by decide +kernel
theorem dX7_readNext_35 : decode cX7_readNext 35 = .ok (.aload_n 0, 1) := by decide +kernel
theorem dX7_readNext_36 : decode cX7_readNext 36 = .ok (.dup, 1) := by decide +kernel
theorem dX7_readNext_37 : decode cX7_readNext 37 = .ok (.getfield 42, 3) := by decide +kernel
theorem dX7_readNext_40 : decode cX7_readNext 40 = .ok (.iconst 1, 1) := by decide +kernel
theorem dX7_readNext_41 : decode cX7_readNext 41 = .ok (.iadd, 1) := by decide +kernel
theorem dX7_readNext_42 : decode cX7_readNext 42 = .ok (.putfield 42, 3) := by decide +kernel
theorem dX7_readNext_45 : decode cX7_readNext 45 = .ok (.goto (-37), 3) := by decide +kernel
theorem dX7_readNext_48 : decode cX7_readNext 48 = .ok (.aload_n 0, 1) := by decide +kernel
theorem dX7_readNext_49 : decode cX7_readNext 49 = .ok (.aload_n 0, 1) := by decide +kernel
theorem dX7_readNext_50 : decode cX7_readNext 50 = .ok (.getfield 42, 3) := by decide +kernel
theorem dX7_readNext_53 : decode cX7_readNext 53 = .ok (.aload_n 0, 1) := by decide +kernel
theorem dX7_readNext_54 : decode cX7_readNext 54 = .ok (.getfield 15, 3) := by decide +kernel
theorem dX7_readNext_57 : decode cX7_readNext 57 = .ok (.if_icmp .ge 18, 3) := by decide +kernel
theorem dX7_readNext_60 : decode cX7_readNext 60 = .ok (.aload_n 0, 1) := by decide +kernel
theorem dX7_readNext_61 : decode cX7_readNext 61 = .ok (.getfield 9, 3) := by decide +kernel
theorem dX7_readNext_64 : decode cX7_readNext 64 = .ok (.aload_n 0, 1) := by decide +kernel
theorem dX7_readNext_65 : decode cX7_readNext 65 = .ok (.getfield 42, 3) := by decide +kernel
theorem dX7_readNext_68 : decode cX7_readNext 68 = .ok (.iaload, 1) := by decide +kernel
theorem dX7_readNext_69 : decode cX7_readNext 69 = .ok (.invokestatic 45, 3) := by decide +kernel
theorem dX7_readNext_72 : decode cX7_readNext 72 = .ok (.goto 4, 3) := by decide +kernel
theorem dX7_readNext_75 : decode cX7_readNext 75 = .ok (.iconst 0, 1) := by decide +kernel
theorem dX7_readNext_76 : decode cX7_readNext 76 = .ok (.putfield 49, 3) := by decide +kernel
theorem dX7_readNext_79 : decode cX7_readNext 79 = .ok (.aload_n 0, 1) := by decide +kernel
theorem dX7_readNext_80 : decode cX7_readNext 80 = .ok (.aload_n 0, 1) := by decide +kernel
theorem dX7_readNext_81 : decode cX7_readNext 81 = .ok (.getfield 42, 3) := by decide +kernel
theorem dX7_readNext_84 : decode cX7_readNext 84 = .ok (.aload_n 0, 1) := by decide +kernel
theorem dX7_readNext_85 : decode cX7_readNext 85 = .ok (.getfield 15, 3) := by decide +kernel
theorem dX7_readNext_88 : decode cX7_readNext 88 = .ok (.if_icmp .ge 12, 3) := by decide +kernel
theorem dX7_readNext_91 : decode cX7_readNext 91 = .ok (.aload_n 0, 1) := by decide +kernel
theorem dX7_readNext_92 : decode cX7_readNext 92 = .ok (.getfield 42, 3) := by decide +kernel
theorem dX7_readNext_95 : decode cX7_readNext 95 = .ok (.iconst 1, 1) := by decide +kernel
theorem dX7_readNext_96 : decode cX7_readNext 96 = .ok (.iadd, 1) := by decide +kernel
theorem dX7_readNext_97 : decode cX7_readNext 97 = .ok (.goto 7, 3) := by decide +kernel
theorem dX7_readNext_100 : decode cX7_readNext 100 = .ok (.aload_n 0, 1) := by decide +kernel
theorem dX7_readNext_101 : decode cX7_readNext 101 = .ok (.getfield 42, 3) := by decide +kernel
theorem dX7_readNext_104 : decode cX7_readNext 104 = .ok (.putfield 36, 3) := by decide +kernel
theorem dX7_readNext_107 : decode cX7_readNext 107 = .ok (.aload_n 0, 1) := by decide +kernel
theorem dX7_readNext_108 : decode cX7_readNext 108 = .ok (.getfield 49, 3) := by decide +kernel
theorem dX7_readNext_111 : decode cX7_readNext 111 = .ok (.iconst 1, 1) := by decide +kernel
theorem dX7_readNext_112 : decode cX7_readNext 112 = .ok (.if_icmp .eq 11, 3) := by decide +kernel
theorem dX7_readNext_115 : decode cX7_readNext 115 = .ok (.aload_n 0, 1) := by decide +kernel
theorem dX7_readNext_116 : decode cX7_readNext 116 = .ok (.getfield 49, 3) := by decide +kernel
theorem dX7_readNext_119 : decode cX7_readNext 119 = .ok (.iconst 2, 1) := by decide +kernel
theorem dX7_readNext_120 : decode cX7_readNext 120 = .ok (.if_icmp .ne 46, 3) := by decide +kernel
theorem dX7_readNext_123 : decode cX7_readNext 123 = .ok (.aload_n 0, 1) := by decide +kernel
theorem dX7_readNext_124 : decode cX7_readNext 124 = .ok (.getfield 36, 3) := by decide +kernel
theorem dX7_readNext_127 : decode cX7_readNext 127 = .ok (.aload_n 0, 1) := by decide +kernel
theorem dX7_readNext_128 : decode cX7_readNext 128 = .ok (.getfield 15, 3) := by decide +kernel
theorem dX7_readNext_131 : decode cX7_readNext 131 = .ok (.if_icmp .ge 35, 3) := by decide +kernel
theorem dX7_readNext_134 : decode cX7_readNext 134 = .ok (.aload_n 0, 1) := by decide +kernel
theorem dX7_readNext_135 : decode cX7_readNext 135 = .ok (.getfield 9, 3) := by decide +kernel
theorem dX7_readNext_138 : decode cX7_readNext 138 = .ok (.aload_n 0, 1) := by decide +kernel
theorem dX7_readNext_139 : decode cX7_readNext 139 = .ok (.getfield 36, 3) := by decide +kernel
theorem dX7_readNext_142 : decode cX7_readNext 142 = .ok (.iaload, 1) := by decide +kernel
theorem dX7_readNext_143 : decode cX7_readNext 143 = .ok (.invokestatic 45, 3) := by decide +kernel
theorem dX7_readNext_146 : decode cX7_readNext 146 = .ok (.aload_n 0, 1) := by decide +kernel
theorem dX7_readNext_147 : decode cX7_readNext 147 = .ok (.getfield 49, 3) := by decide +kernel
theorem dX7_readNext_150 : decode cX7_readNext 150 = .ok (.if_icmp .ne 16, 3) := by decide +kernel
theorem dX7_readNext_153 : decode cX7_readNext 153 = .ok (.aload_n 0, 1) := by decide +kernel
theorem dX7_readNext_154 : decode cX7_readNext 154 = .ok (.dup, 1) := by decide +kernel
theorem dX7_readNext_155 : decode cX7_readNext 155 = .ok (.getfield 36, 3) := by decide +kernel
theorem dX7_readNext_158 : decode cX7_readNext 158 = .ok (.iconst 1, 1) := by decide +kernel
theorem dX7_readNext_159 : decode cX7_readNext 159 = .ok (.iadd, 1) := by decide +kernel
theorem dX7_readNext_160 : decode cX7_readNext 160 = .ok (.putfield 36, 3) := by decide +kernel
theorem dX7_readNext_163 : decode cX7_readNext 163 = .ok (.goto (-40), 3) := by decide +kernel
theorem dX7_readNext_166 : decode cX7_readNext 166 = .ok (.return_, 1) := by decide +kernel
theorem dX7_kindOf_0 : decode cX7_kindOf 0 = .ok (.bipush 97, 2) := by decide +kernel
theorem dX7_kindOf_2 : decode cX7_kindOf 2 = .ok (.iload_n 0, 1) := by decide +kernel
theorem dX7_kindOf_3 : decode cX7_kindOf 3 = .ok (.if_icmp .gt 11, 3) := by decide +kernel
theorem dX7_kindOf_6 : decode cX7_kindOf 6 = .ok (.iload_n 0, 1) := by decide +kernel
theorem dX7_kindOf_7 : decode cX7_kindOf 7 = .ok (.bipush 122, 2) := by decide +kernel
theorem dX7_kindOf_9 : decode cX7_kindOf 9 = .ok (.if_icmp .gt 5, 3) := by decide +kernel
theorem dX7_kindOf_12 : decode cX7_kindOf 12 = .ok (.iconst 1, 1) := by decide +kernel
theorem dX7_kindOf_13 : decode cX7_kindOf 13 = .ok (.ireturn, 1) := by decide +kernel
theorem dX7_kindOf_14 : decode cX7_kindOf 14 = .ok (.bipush 48, 2) := by decide +kernel
theorem dX7_kindOf_16 : decode cX7_kindOf 16 = .ok (.iload_n 0, 1) := by decide +kernel
theorem dX7_kindOf_17 : decode cX7_kindOf 17 = .ok (.if_icmp .gt 11, 3) := by decide +kernel
theorem dX7_kindOf_20 : decode cX7_kindOf 20 = .ok (.iload_n 0, 1) := by decide +kernel
theorem dX7_kindOf_21 : decode cX7_kindOf 21 = .ok (.bipush 57, 2) := by decide +kernel
theorem dX7_kindOf_23 : decode cX7_kindOf 23 = .ok (.if_icmp .gt 5, 3) := by decide +kernel
theorem dX7_kindOf_26 : decode cX7_kindOf 26 = .ok (.iconst 2, 1) := by decide +kernel
theorem dX7_kindOf_27 : decode cX7_kindOf 27 = .ok (.ireturn, 1) := by decide +kernel
theorem dX7_kindOf_28 : decode cX7_kindOf 28 = .ok (.iload_n 0, 1) := by decide +kernel
theorem dX7_kindOf_29 : decode cX7_kindOf 29 = .ok (.bipush 59, 2) := by decide +kernel
theorem dX7_kindOf_31 : decode cX7_kindOf 31 = .ok (.if_icmp .ne 5, 3) := by decide +kernel
theorem dX7_kindOf_34 : decode cX7_kindOf 34 = .ok (.iconst 3, 1) := by decide +kernel
theorem dX7_kindOf_35 : decode cX7_kindOf 35 = .ok (.ireturn, 1) := by decide +kernel
theorem dX7_kindOf_36 : decode cX7_kindOf 36 = .ok (.iload_n 0, 1) := by decide +kernel
theorem dX7_kindOf_37 : decode cX7_kindOf 37 = .ok (.bipush 32, 2) := by decide +kernel
theorem dX7_kindOf_39 : decode cX7_kindOf 39 = .ok (.if_icmp .eq 9, 3) := by decide +kernel
theorem dX7_kindOf_42 : decode cX7_kindOf 42 = .ok (.iload_n 0, 1) := by decide +kernel
theorem dX7_kindOf_43 : decode cX7_kindOf 43 = .ok (.bipush 10, 2) := by decide +kernel
theorem dX7_kindOf_45 : decode cX7_kindOf 45 = .ok (.if_icmp .ne 7, 3) := by decide +kernel
theorem dX7_kindOf_48 : decode cX7_kindOf 48 = .ok (.iconst 4, 1) := by decide +kernel
theorem dX7_kindOf_49 : decode cX7_kindOf 49 = .ok (.goto 4, 3) := by decide +kernel
theorem dX7_kindOf_52 : decode cX7_kindOf 52 = .ok (.iconst 5, 1) := by decide +kernel
theorem dX7_kindOf_53 : decode cX7_kindOf 53 = .ok (.ireturn, 1) := by decide +kernel
theorem dX7_value_0 : decode cX7_value 0 = .ok (.iconst 0, 1) := by decide +kernel
theorem dX7_value_1 : decode cX7_value 1 = .ok (.istore_n 1, 1) := by decide +kernel
theorem dX7_value_2 : decode cX7_value 2 = .ok (.aload_n 0, 1) := by decide +kernel
theorem dX7_value_3 : decode cX7_value 3 = .ok (.getfield 42, 3) := by decide +kernel
theorem dX7_value_6 : decode cX7_value 6 = .ok (.istore_n 2, 1) := by decide +kernel
theorem dX7_value_7 : decode cX7_value 7 = .ok (.iload_n 2, 1) := by decide +kernel
theorem dX7_value_8 : decode cX7_value 8 = .ok (.aload_n 0, 1) := by decide +kernel
theorem dX7_value_9 : decode cX7_value 9 = .ok (.getfield 36, 3) := by decide +kernel
theorem dX7_value_12 : decode cX7_value 12 = .ok (.if_icmp .ge 30, 3) := by decide +kernel
theorem dX7_value_15 : decode cX7_value 15 = .ok (.bipush 10, 2) := by decide +kernel
theorem dX7_value_17 : decode cX7_value 17 = .ok (.iload_n 1, 1) := by decide +kernel
theorem dX7_value_18 : decode cX7_value 18 = .ok (.imul, 1) := by decide +kernel
theorem dX7_value_19 : decode cX7_value 19 = .ok (.aload_n 0, 1) := by decide +kernel
theorem dX7_value_20 : decode cX7_value 20 = .ok (.getfield 9, 3) := by decide +kernel
theorem dX7_value_23 : decode cX7_value 23 = .ok (.iload_n 2, 1) := by decide +kernel
theorem dX7_value_24 : decode cX7_value 24 = .ok (.iaload, 1) := by decide +kernel
theorem dX7_value_25 : decode cX7_value 25 = .ok (.iadd, 1) := by decide +kernel
theorem dX7_value_26 : decode cX7_value 26 = .ok (.bipush 48, 2) := by decide +kernel
theorem dX7_value_28 : decode cX7_value 28 = .ok (.isub, 1) := by decide +kernel
theorem dX7_value_29 : decode cX7_value 29 = .ok (.sipush 1000, 3) := by decide +kernel
theorem dX7_value_32 : decode cX7_value 32 = .ok (.invokestatic 52, 3) := by decide +kernel
theorem dX7_value_35 : decode cX7_value 35 = .ok (.istore_n 1, 1) := by decide +kernel
theorem dX7_value_36 : decode cX7_value 36 = .ok (.iinc 2 1, 3) := by decide +kernel
theorem dX7_value_39 : decode cX7_value 39 = .ok (.goto (-32), 3) := by decide +kernel
theorem dX7_value_42 : decode cX7_value 42 = .ok (.iload_n 1, 1) := by decide +kernel
theorem dX7_value_43 : decode cX7_value 43 = .ok (.ireturn, 1) := by decide +kernel
theorem dX7_isWord_0 : decode cX7_isWord 0 = .ok (.aload_n 0, 1) := by decide +kernel
theorem dX7_isWord_1 : decode cX7_isWord 1 = .ok (.getfield 49, 3) := by decide +kernel
theorem dX7_isWord_4 : decode cX7_isWord 4 = .ok (.iconst 1, 1) := by decide +kernel
theorem dX7_isWord_5 : decode cX7_isWord 5 = .ok (.if_icmp .ne 19, 3) := by decide +kernel
theorem dX7_isWord_8 : decode cX7_isWord 8 = .ok (.aload_n 0, 1) := by decide +kernel
theorem dX7_isWord_9 : decode cX7_isWord 9 = .ok (.getfield 36, 3) := by decide +kernel
theorem dX7_isWord_12 : decode cX7_isWord 12 = .ok (.aload_n 0, 1) := by decide +kernel
theorem dX7_isWord_13 : decode cX7_isWord 13 = .ok (.getfield 42, 3) := by decide +kernel
theorem dX7_isWord_16 : decode cX7_isWord 16 = .ok (.isub, 1) := by decide +kernel
theorem dX7_isWord_17 : decode cX7_isWord 17 = .ok (.aload_n 1, 1) := by decide +kernel
theorem dX7_isWord_18 : decode cX7_isWord 18 = .ok (.invokevirtual 23, 3) := by decide +kernel
theorem dX7_isWord_21 : decode cX7_isWord 21 = .ok (.if_icmp .eq 5, 3) := by decide +kernel
theorem dX7_isWord_24 : decode cX7_isWord 24 = .ok (.iconst 0, 1) := by decide +kernel
theorem dX7_isWord_25 : decode cX7_isWord 25 = .ok (.ireturn, 1) := by decide +kernel
theorem dX7_isWord_26 : decode cX7_isWord 26 = .ok (.iconst 0, 1) := by decide +kernel
theorem dX7_isWord_27 : decode cX7_isWord 27 = .ok (.istore_n 2, 1) := by decide +kernel
theorem dX7_isWord_28 : decode cX7_isWord 28 = .ok (.iload_n 2, 1) := by decide +kernel
theorem dX7_isWord_29 : decode cX7_isWord 29 = .ok (.aload_n 1, 1) := by decide +kernel
theorem dX7_isWord_30 : decode cX7_isWord 30 = .ok (.invokevirtual 23, 3) := by decide +kernel
theorem dX7_isWord_33 : decode cX7_isWord 33 = .ok (.if_icmp .ge 30, 3) := by decide +kernel
theorem dX7_isWord_36 : decode cX7_isWord 36 = .ok (.aload_n 0, 1) := by decide +kernel
theorem dX7_isWord_37 : decode cX7_isWord 37 = .ok (.getfield 9, 3) := by decide +kernel
theorem dX7_isWord_40 : decode cX7_isWord 40 = .ok (.aload_n 0, 1) := by decide +kernel
theorem dX7_isWord_41 : decode cX7_isWord 41 = .ok (.getfield 42, 3) := by decide +kernel
theorem dX7_isWord_44 : decode cX7_isWord 44 = .ok (.iload_n 2, 1) := by decide +kernel
theorem dX7_isWord_45 : decode cX7_isWord 45 = .ok (.iadd, 1) := by decide +kernel
theorem dX7_isWord_46 : decode cX7_isWord 46 = .ok (.iaload, 1) := by decide +kernel
theorem dX7_isWord_47 : decode cX7_isWord 47 = .ok (.aload_n 1, 1) := by decide +kernel
theorem dX7_isWord_48 : decode cX7_isWord 48 = .ok (.iload_n 2, 1) := by decide +kernel
theorem dX7_isWord_49 : decode cX7_isWord 49 = .ok (.invokevirtual 28, 3) := by decide +kernel
theorem dX7_isWord_52 : decode cX7_isWord 52 = .ok (.if_icmp .eq 5, 3) := by decide +kernel
theorem dX7_isWord_55 : decode cX7_isWord 55 = .ok (.iconst 0, 1) := by decide +kernel
theorem dX7_isWord_56 : decode cX7_isWord 56 = .ok (.ireturn, 1) := by decide +kernel
theorem dX7_isWord_57 : decode cX7_isWord 57 = .ok (.iinc 2 1, 3) := by decide +kernel
theorem dX7_isWord_60 : decode cX7_isWord 60 = .ok (.goto (-32), 3) := by decide +kernel
theorem dX7_isWord_63 : decode cX7_isWord 63 = .ok (.iconst 1, 1) := by decide +kernel
theorem dX7_isWord_64 : decode cX7_isWord 64 = .ok (.ireturn, 1) := by decide +kernel
theorem dX8_init_0 : decode cX8_init 0 = .ok (.aload_n 0, 1) := by decide +kernel
theorem dX8_init_1 : decode cX8_init 1 = .ok (.invokespecial 1, 3) := by decide +kernel
theorem dX8_init_4 : decode cX8_init 4 = .ok (.aload_n 0, 1) := by decide +kernel
theorem dX8_init_5 : decode cX8_init 5 = .ok (.new 7, 3) := by decide +kernel
theorem dX8_init_8 : decode cX8_init 8 = .ok (.dup, 1) := by decide +kernel
theorem dX8_init_9 : decode cX8_init 9 = .ok (.invokespecial 9, 3) := by decide +kernel
theorem dX8_init_12 : decode cX8_init 12 = .ok (.putfield 10, 3) := by decide +kernel
theorem dX8_init_15 : decode cX8_init 15 = .ok (.aload_n 0, 1) := by decide +kernel
theorem dX8_init_16 : decode cX8_init 16 = .ok (.new 7, 3) := by decide +kernel
theorem dX8_init_19 : decode cX8_init 19 = .ok (.dup, 1) := by decide +kernel
theorem dX8_init_20 : decode cX8_init 20 = .ok (.invokespecial 9, 3) := by decide +kernel
theorem dX8_init_23 : decode cX8_init 23 = .ok (.putfield 16, 3) := by decide +kernel
theorem dX8_init_26 : decode cX8_init 26 = .ok (.aload_n 0, 1) := by decide +kernel
theorem dX8_init_27 : decode cX8_init 27 = .ok (.new 19, 3) := by decide +kernel
theorem dX8_init_30 : decode cX8_init 30 = .ok (.dup, 1) := by decide +kernel
theorem dX8_init_31 : decode cX8_init 31 = .ok (.invokespecial 21, 3) := by decide +kernel
theorem dX8_init_34 : decode cX8_init 34 = .ok (.putfield 22, 3) := by decide +kernel
theorem dX8_init_37 : decode cX8_init 37 = .ok (.aload_n 0, 1) := by decide +kernel
theorem dX8_init_38 : decode cX8_init 38 = .ok (.new 26, 3) := by decide +kernel
theorem dX8_init_41 : decode cX8_init 41 = .ok (.dup, 1) := by decide +kernel
theorem dX8_init_42 : decode cX8_init 42 = .ok (.invokespecial 28, 3) := by decide +kernel
theorem dX8_init_45 : decode cX8_init 45 = .ok (.putfield 29, 3) := by decide +kernel
theorem dX8_init_48 : decode cX8_init 48 = .ok (.aload_n 0, 1) := by decide +kernel
theorem dX8_init_49 : decode cX8_init 49 = .ok (.iconst 2, 1) := by decide +kernel
theorem dX8_init_50 : decode cX8_init 50 = .ok (.invokestatic 33, 3) := by decide +kernel
theorem dX8_init_53 : decode cX8_init 53 = .ok (.putfield 37, 3) := by decide +kernel
theorem dX8_init_56 : decode cX8_init 56 = .ok (.aload_n 0, 1) := by decide +kernel
theorem dX8_init_57 : decode cX8_init 57 = .ok (.iconst 2, 1) := by decide +kernel
theorem dX8_init_58 : decode cX8_init 58 = .ok (.newarray .boolean, 2) := by decide +kernel
theorem dX8_init_60 : decode cX8_init 60 = .ok (.putfield 41, 3) := by decide +kernel
theorem dX8_init_63 : decode cX8_init 63 = .ok (.aload_n 0, 1) := by decide +kernel
theorem dX8_init_64 : decode cX8_init 64 = .ok (.new 45, 3) := by decide +kernel
theorem dX8_init_67 : decode cX8_init 67 = .ok (.dup, 1) := by decide +kernel
theorem dX8_init_68 : decode cX8_init 68 = .ok (.invokespecial 47, 3) := by decide +kernel
theorem dX8_init_71 : decode cX8_init 71 = .ok (.putfield 48, 3) := by decide +kernel
theorem dX8_init_74 : decode cX8_init 74 = .ok (.aload_n 0, 1) := by decide +kernel
theorem dX8_init_75 : decode cX8_init 75 = .ok (.new 52, 3) := by decide +kernel
theorem dX8_init_78 : decode cX8_init 78 = .ok (.dup, 1) := by decide +kernel
theorem dX8_init_79 : decode cX8_init 79 = .ok (.invokespecial 54, 3) := by decide +kernel
theorem dX8_init_82 : decode cX8_init 82 = .ok (.putfield 55, 3) := by decide +kernel
theorem dX8_init_85 : decode cX8_init 85 = .ok (.aload_n 0, 1) := by decide +kernel
theorem dX8_init_86 : decode cX8_init 86 = .ok (.new 59, 3) := by decide +kernel
theorem dX8_init_89 : decode cX8_init 89 = .ok (.dup, 1) := by decide +kernel
theorem dX8_init_90 : decode cX8_init 90 = .ok (.invokespecial 61, 3) := by decide +kernel
theorem dX8_init_93 : decode cX8_init 93 = .ok (.putfield 62, 3) := by decide +kernel
theorem dX8_init_96 : decode cX8_init 96 = .ok (.aload_n 0, 1) := by decide +kernel
theorem dX8_init_97 : decode cX8_init 97 = .ok (.getfield 48, 3) := by decide +kernel
theorem dX8_init_100 : decode cX8_init 100 = .ok (.getfield 66, 3) := by decide +kernel
theorem dX8_init_103 : decode cX8_init 103 = .ok (.ldc 70, 2) := by decide +kernel
theorem dX8_init_105 : decode cX8_init 105 = .ok (.invokevirtual 72, 3) := by decide +kernel
theorem dX8_init_108 : decode cX8_init 108 = .ok (.aload_n 0, 1) := by decide +kernel
theorem dX8_init_109 : decode cX8_init 109 = .ok (.getfield 48, 3) := by decide +kernel
theorem dX8_init_112 : decode cX8_init 112 = .ok (.aload_n 0, 1) := by decide +kernel
theorem dX8_init_113 : decode cX8_init 113 = .ok (.getfield 10, 3) := by decide +kernel
theorem dX8_init_116 : decode cX8_init 116 = .ok (.invokevirtual 78, 3) := by decide +kernel
theorem dX8_init_119 : decode cX8_init 119 = .ok (.pop, 1) := by decide +kernel
theorem dX8_init_120 : decode cX8_init 120 = .ok (.aload_n 0, 1) := by decide +kernel
theorem dX8_init_121 : decode cX8_init 121 = .ok (.getfield 48, 3) := by decide +kernel
theorem dX8_init_124 : decode cX8_init 124 = .ok (.getfield 66, 3) := by decide +kernel
theorem dX8_init_127 : decode cX8_init 127 = .ok (.iconst 0, 1) := by decide +kernel
theorem dX8_init_128 : decode cX8_init 128 = .ok (.putfield 82, 3) := by decide +kernel
theorem dX8_init_131 : decode cX8_init 131 = .ok (.return_, 1) := by decide +kernel
theorem dX8_newHuts_0 : decode cX8_newHuts 0 = .ok (.iload_n 0, 1) := by decide +kernel
theorem dX8_newHuts_1 : decode cX8_newHuts 1 = .ok (.ifCond .ge 7, 3) := by decide +kernel
theorem dX8_newHuts_4 : decode cX8_newHuts 4 = .ok (.iconst 0, 1) := by decide +kernel
theorem dX8_newHuts_5 : decode cX8_newHuts 5 = .ok (.goto 4, 3) := by decide +kernel
theorem dX8_newHuts_8 : decode cX8_newHuts 8 = .ok (.iload_n 0, 1) := by decide +kernel
theorem dX8_newHuts_9 : decode cX8_newHuts 9 = .ok (.anewarray 7, 3) := by decide +kernel
theorem dX8_newHuts_12 : decode cX8_newHuts 12 = .ok (.astore_n 1, 1) := by decide +kernel
theorem dX8_newHuts_13 : decode cX8_newHuts 13 = .ok (.iconst 0, 1) := by decide +kernel
theorem dX8_newHuts_14 : decode cX8_newHuts 14 = .ok (.istore_n 2, 1) := by decide +kernel
theorem dX8_newHuts_15 : decode cX8_newHuts 15 = .ok (.iload_n 2, 1) := by decide +kernel
theorem dX8_newHuts_16 : decode cX8_newHuts 16 = .ok (.aload_n 1, 1) := by decide +kernel
theorem dX8_newHuts_17 : decode cX8_newHuts 17 = .ok (.arraylength, 1) := by decide +kernel
theorem dX8_newHuts_18 : decode cX8_newHuts 18 = .ok (.if_icmp .ge 19, 3) := by decide +kernel
theorem dX8_newHuts_21 : decode cX8_newHuts 21 = .ok (.aload_n 1, 1) := by decide +kernel
theorem dX8_newHuts_22 : decode cX8_newHuts 22 = .ok (.iload_n 2, 1) := by decide +kernel
theorem dX8_newHuts_23 : decode cX8_newHuts 23 = .ok (.new 7, 3) := by decide +kernel
theorem dX8_newHuts_26 : decode cX8_newHuts 26 = .ok (.dup, 1) := by decide +kernel
theorem dX8_newHuts_27 : decode cX8_newHuts 27 = .ok (.invokespecial 9, 3) := by decide +kernel
theorem dX8_newHuts_30 : decode cX8_newHuts 30 = .ok (.aastore, 1) := by decide +kernel
theorem dX8_newHuts_31 : decode cX8_newHuts 31 = .ok (.iinc 2 1, 3) := by decide +kernel
theorem dX8_newHuts_34 : decode cX8_newHuts 34 = .ok (.goto (-19), 3) := by decide +kernel
theorem dX8_newHuts_37 : decode cX8_newHuts 37 = .ok (.aload_n 1, 1) := by decide +kernel
theorem dX8_newHuts_38 : decode cX8_newHuts 38 = .ok (.areturn, 1) := by decide +kernel
theorem dX8_isWithin_0 : decode cX8_isWithin 0 = .ok (.iload_n 1, 1) := by decide +kernel
theorem dX8_isWithin_1 : decode cX8_isWithin 1 = .ok (.iload_n 0, 1) := by decide +kernel
theorem dX8_isWithin_2 : decode cX8_isWithin 2 = .ok (.if_icmp .gt 12, 3) := by decide +kernel
theorem dX8_isWithin_5 : decode cX8_isWithin 5 = .ok (.iload_n 0, 1) := by decide +kernel
theorem dX8_isWithin_6 : decode cX8_isWithin 6 = .ok (.iload_n 2, 1) := by decide +kernel
theorem dX8_isWithin_7 : decode cX8_isWithin 7 = .ok (.if_icmp .gt 7, 3) := by decide +kernel
theorem dX8_isWithin_10 : decode cX8_isWithin 10 = .ok (.iconst 1, 1) := by decide +kernel
theorem dX8_isWithin_11 : decode cX8_isWithin 11 = .ok (.goto 4, 3) := by decide +kernel
theorem dX8_isWithin_14 : decode cX8_isWithin 14 = .ok (.iconst 0, 1) := by decide +kernel
theorem dX8_isWithin_15 : decode cX8_isWithin 15 = .ok (.ireturn, 1) := by decide +kernel
theorem dX8_appendText_0 : decode cX8_appendText 0 = .ok (.aload_n 0, 1) := by decide +kernel
theorem dX8_appendText_1 : decode cX8_appendText 1 = .ok (.getfield 48, 3) := by decide +kernel
theorem dX8_appendText_4 : decode cX8_appendText 4 = .ok (.getfield 66, 3) := by decide +kernel
theorem dX8_appendText_7 : decode cX8_appendText 7 = .ok (.iconst 4, 1) := by decide +kernel
theorem dX8_appendText_8 : decode cX8_appendText 8 = .ok (.invokevirtual 86, 3) := by decide +kernel
theorem dX8_appendText_11 : decode cX8_appendText 11 = .ok (.ifCond .ne 13, 3) := by decide +kernel
theorem dX8_appendText_14 : decode cX8_appendText 14 = .ok (.new 90, 3) := by decide +kernel
theorem dX8_appendText_17 : decode cX8_appendText 17 = .ok (.dup, 1) := by decide +kernel
theorem dX8_appendText_18 : decode cX8_appendText 18 = .ok (.ldc 92, 2) := by decide +kernel
theorem dX8_appendText_20 : decode cX8_appendText 20 = .ok (.invokespecial 94, 3) := by decide +kernel
theorem dX8_appendText_23 : decode cX8_appendText 23 = .ok (.athrow, 1) := by decide +kernel
theorem dX8_appendText_24 : decode cX8_appendText 24 = .ok (.aload_n 0, 1) := by decide +kernel
theorem dX8_appendText_25 : decode cX8_appendText 25 = .ok (.getfield 48, 3) := by decide +kernel
theorem dX8_appendText_28 : decode cX8_appendText 28 = .ok (.getfield 66, 3) := by decide +kernel
theorem dX8_appendText_31 : decode cX8_appendText 31 = .ok (.iload_n 1, 1) := by decide +kernel
theorem dX8_appendText_32 : decode cX8_appendText 32 = .ok (.bipush 24, 2) := by decide +kernel
theorem dX8_appendText_34 : decode cX8_appendText 34 = .ok (.iushr, 1) := by decide +kernel
theorem dX8_appendText_35 : decode cX8_appendText 35 = .ok (.invokevirtual 96, 3) := by decide +kernel
theorem dX8_appendText_38 : decode cX8_appendText 38 = .ok (.aload_n 0, 1) := by decide +kernel
theorem dX8_appendText_39 : decode cX8_appendText 39 = .ok (.getfield 48, 3) := by decide +kernel
theorem dX8_appendText_42 : decode cX8_appendText 42 = .ok (.getfield 66, 3) := by decide +kernel
theorem dX8_appendText_45 : decode cX8_appendText 45 = .ok (.iload_n 1, 1) := by decide +kernel
theorem dX8_appendText_46 : decode cX8_appendText 46 = .ok (.bipush 16, 2) := by decide +kernel
theorem dX8_appendText_48 : decode cX8_appendText 48 = .ok (.iushr, 1) := by decide +kernel
theorem dX8_appendText_49 : decode cX8_appendText 49 = .ok (.invokevirtual 96, 3) := by decide +kernel
theorem dX8_appendText_52 : decode cX8_appendText 52 = .ok (.aload_n 0, 1) := by decide +kernel
theorem dX8_appendText_53 : decode cX8_appendText 53 = .ok (.getfield 48, 3) := by decide +kernel
theorem dX8_appendText_56 : decode cX8_appendText 56 = .ok (.getfield 66, 3) := by decide +kernel
theorem dX8_appendText_59 : decode cX8_appendText 59 = .ok (.iload_n 1, 1) := by decide +kernel
theorem dX8_appendText_60 : decode cX8_appendText 60 = .ok (.bipush 8, 2) := by decide +kernel
theorem dX8_appendText_62 : decode cX8_appendText 62 = .ok (.iushr, 1) := by decide +kernel
theorem dX8_appendText_63 : decode cX8_appendText 63 = .ok (.invokevirtual 96, 3) := by decide +kernel
theorem dX8_appendText_66 : decode cX8_appendText 66 = .ok (.aload_n 0, 1) := by decide +kernel
theorem dX8_appendText_67 : decode cX8_appendText 67 = .ok (.getfield 48, 3) := by decide +kernel
theorem dX8_appendText_70 : decode cX8_appendText 70 = .ok (.getfield 66, 3) := by decide +kernel
theorem dX8_appendText_73 : decode cX8_appendText 73 = .ok (.iload_n 1, 1) := by decide +kernel
theorem dX8_appendText_74 : decode cX8_appendText 74 = .ok (.invokevirtual 96, 3) := by decide +kernel
theorem dX8_appendText_77 : decode cX8_appendText 77 = .ok (.aload_n 0, 1) := by decide +kernel
theorem dX8_appendText_78 : decode cX8_appendText 78 = .ok (.getfield 48, 3) := by decide +kernel
theorem dX8_appendText_81 : decode cX8_appendText 81 = .ok (.getfield 66, 3) := by decide +kernel
theorem dX8_appendText_84 : decode cX8_appendText 84 = .ok (.getfield 82, 3) := by decide +kernel
theorem dX8_appendText_87 : decode cX8_appendText 87 = .ok (.ireturn, 1) := by decide +kernel
theorem dX8_truncateText_0 : decode cX8_truncateText 0 = .ok (.iload_n 1, 1) := by decide +kernel
theorem dX8_truncateText_1 : decode cX8_truncateText 1 = .ok (.iconst 0, 1) := by decide +kernel
theorem dX8_truncateText_2 : decode cX8_truncateText 2 = .ok (.aload_n 0, 1) := by decide +kernel
theorem dX8_truncateText_3 : decode cX8_truncateText 3 = .ok (.getfield 48, 3) := by decide +kernel
theorem dX8_truncateText_6 : decode cX8_truncateText 6 = .ok (.getfield 66, 3) := by decide +kernel
theorem dX8_truncateText_9 : decode cX8_truncateText 9 = .ok (.getfield 82, 3) := by decide +kernel
theorem dX8_truncateText_12 : decode cX8_truncateText 12 = .ok (.invokestatic 100, 3) := by decide +kernel
theorem dX8_truncateText_15 : decode cX8_truncateText 15 = .ok (.ifCond .ne 13, 3) := by decide +kernel
theorem dX8_truncateText_18 : decode cX8_truncateText 18 = .ok (.new 104, 3) := by decide +kernel
theorem dX8_truncateText_21 : decode cX8_truncateText 21 = .ok (.dup, 1) := by decide +kernel
theorem dX8_truncateText_22 : decode cX8_truncateText 22 = .ok (.ldc 106, 2) := by decide +kernel
theorem dX8_truncateText_24 : decode cX8_truncateText 24 = .ok (.invokespecial 108, 3) := by decide +kernel
theorem dX8_truncateText_27 : decode cX8_truncateText 27 = .ok (.athrow, 1) := by decide +kernel
theorem dX8_truncateText_28 : decode cX8_truncateText 28 = .ok (.aload_n 0, 1) := by decide +kernel
theorem dX8_truncateText_29 : decode cX8_truncateText 29 = .ok (.getfield 48, 3) := by decide +kernel
theorem dX8_truncateText_32 : decode cX8_truncateText 32 = .ok (.getfield 66, 3) := by decide +kernel
theorem dX8_truncateText_35 : decode cX8_truncateText 35 = .ok (.iload_n 1, 1) := by decide +kernel
theorem dX8_truncateText_36 : decode cX8_truncateText 36 = .ok (.putfield 82, 3) := by decide +kernel
theorem dX8_truncateText_39 : decode cX8_truncateText 39 = .ok (.iload_n 1, 1) := by decide +kernel
theorem dX8_truncateText_40 : decode cX8_truncateText 40 = .ok (.ireturn, 1) := by decide +kernel
theorem dX8_loadSetup_0 : decode cX8_loadSetup 0 = .ok (.aload_n 0, 1) := by decide +kernel
theorem dX8_loadSetup_1 : decode cX8_loadSetup 1 = .ok (.getfield 48, 3) := by decide +kernel
theorem dX8_loadSetup_4 : decode cX8_loadSetup 4 = .ok (.aload_n 0, 1) := by decide +kernel
theorem dX8_loadSetup_5 : decode cX8_loadSetup 5 = .ok (.getfield 16, 3) := by decide +kernel
theorem dX8_loadSetup_8 : decode cX8_loadSetup 8 = .ok (.invokevirtual 78, 3) := by decide +kernel
theorem dX8_loadSetup_11 : decode cX8_loadSetup 11 = .ok (.istore_n 1, 1) := by decide +kernel
theorem dX8_loadSetup_12 : decode cX8_loadSetup 12 = .ok (.aload_n 0, 1) := by decide +kernel
theorem dX8_loadSetup_13 : decode cX8_loadSetup 13 = .ok (.getfield 48, 3) := by decide +kernel
theorem dX8_loadSetup_16 : decode cX8_loadSetup 16 = .ok (.getfield 66, 3) := by decide +kernel
theorem dX8_loadSetup_19 : decode cX8_loadSetup 19 = .ok (.iconst 0, 1) := by decide +kernel
theorem dX8_loadSetup_20 : decode cX8_loadSetup 20 = .ok (.putfield 82, 3) := by decide +kernel
theorem dX8_loadSetup_23 : decode cX8_loadSetup 23 = .ok (.iload_n 1, 1) := by decide +kernel
theorem dX8_loadSetup_24 : decode cX8_loadSetup 24 = .ok (.ifCond .ne 5, 3) := by decide +kernel
theorem dX8_loadSetup_27 : decode cX8_loadSetup 27 = .ok (.iconst (-1), 1) := by decide +kernel
theorem dX8_loadSetup_28 : decode cX8_loadSetup 28 = .ok (.ireturn, 1) := by decide +kernel
theorem dX8_loadSetup_29 : decode cX8_loadSetup 29 = .ok (.aload_n 0, 1) := by decide +kernel
theorem dX8_loadSetup_30 : decode cX8_loadSetup 30 = .ok (.getfield 10, 3) := by decide +kernel
theorem dX8_loadSetup_33 : decode cX8_loadSetup 33 = .ok (.aload_n 0, 1) := by decide +kernel
theorem dX8_loadSetup_34 : decode cX8_loadSetup 34 = .ok (.getfield 16, 3) := by decide +kernel
theorem dX8_loadSetup_37 : decode cX8_loadSetup 37 = .ok (.invokevirtual 109, 3) := by decide +kernel
theorem dX8_loadSetup_40 : decode cX8_loadSetup 40 = .ok (.aload_n 0, 1) := by decide +kernel
theorem dX8_loadSetup_41 : decode cX8_loadSetup 41 = .ok (.getfield 29, 3) := by decide +kernel
theorem dX8_loadSetup_44 : decode cX8_loadSetup 44 = .ok (.invokevirtual 113, 3) := by decide +kernel
theorem dX8_loadSetup_47 : decode cX8_loadSetup 47 = .ok (.aload_n 0, 1) := by decide +kernel
theorem dX8_loadSetup_48 : decode cX8_loadSetup 48 = .ok (.getfield 10, 3) := by decide +kernel
theorem dX8_loadSetup_51 : decode cX8_loadSetup 51 = .ok (.getfield 116, 3) := by decide +kernel
theorem dX8_loadSetup_54 : decode cX8_loadSetup 54 = .ok (.ireturn, 1) := by decide +kernel
theorem dX8_hour_0 : decode cX8_hour 0 = .ok (.aload_n 0, 1) := by decide +kernel
theorem dX8_hour_1 : decode cX8_hour 1 = .ok (.getfield 10, 3) := by decide +kernel
theorem dX8_hour_4 : decode cX8_hour 4 = .ok (.getfield 152, 3) := by decide +kernel
theorem dX8_hour_7 : decode cX8_hour 7 = .ok (.ireturn, 1) := by decide +kernel
theorem dX8_logs_0 : decode cX8_logs 0 = .ok (.aload_n 0, 1) := by decide +kernel
theorem dX8_logs_1 : decode cX8_logs 1 = .ok (.getfield 10, 3) := by decide +kernel
theorem dX8_logs_4 : decode cX8_logs 4 = .ok (.getfield 159, 3) := by decide +kernel
theorem dX8_logs_7 : decode cX8_logs 7 = .ok (.ireturn, 1) := by decide +kernel
theorem dX8_temperature_0 : decode cX8_temperature 0 = .ok (.aload_n 0, 1) := by decide +kernel
theorem dX8_temperature_1 : decode cX8_temperature 1 = .ok (.getfield 10, 3) := by decide +kernel
theorem dX8_temperature_4 : decode cX8_temperature 4 = .ok (.invokevirtual 162, 3) := by decide +kernel
theorem dX8_temperature_7 : decode cX8_temperature 7 = .ok (.ireturn, 1) := by decide +kernel
theorem dX8_hikerIn_0 : decode cX8_hikerIn 0 = .ok (.aload_n 0, 1) := by decide +kernel
theorem dX8_hikerIn_1 : decode cX8_hikerIn 1 = .ok (.iload_n 1, 1) := by decide +kernel
theorem dX8_hikerIn_2 : decode cX8_hikerIn 2 = .ok (.invokevirtual 165, 3) := by decide +kernel
theorem dX8_hikerIn_5 : decode cX8_hikerIn 5 = .ok (.aload_n 0, 1) := by decide +kernel
theorem dX8_hikerIn_6 : decode cX8_hikerIn 6 = .ok (.getfield 10, 3) := by decide +kernel
theorem dX8_hikerIn_9 : decode cX8_hikerIn 9 = .ok (.iload_n 1, 1) := by decide +kernel
theorem dX8_hikerIn_10 : decode cX8_hikerIn 10 = .ok (.invokevirtual 168, 3) := by decide +kernel
theorem dX8_hikerIn_13 : decode cX8_hikerIn 13 = .ok (.ireturn, 1) := by decide +kernel
theorem dX8_noiseIn_0 : decode cX8_noiseIn 0 = .ok (.aload_n 0, 1) := by decide +kernel
theorem dX8_noiseIn_1 : decode cX8_noiseIn 1 = .ok (.iload_n 1, 1) := by decide +kernel
theorem dX8_noiseIn_2 : decode cX8_noiseIn 2 = .ok (.invokevirtual 165, 3) := by decide +kernel
theorem dX8_noiseIn_5 : decode cX8_noiseIn 5 = .ok (.aload_n 0, 1) := by decide +kernel
theorem dX8_noiseIn_6 : decode cX8_noiseIn 6 = .ok (.getfield 10, 3) := by decide +kernel
theorem dX8_noiseIn_9 : decode cX8_noiseIn 9 = .ok (.iload_n 1, 1) := by decide +kernel
theorem dX8_noiseIn_10 : decode cX8_noiseIn 10 = .ok (.invokevirtual 172, 3) := by decide +kernel
theorem dX8_noiseIn_13 : decode cX8_noiseIn 13 = .ok (.ireturn, 1) := by decide +kernel
theorem dX8_demandBunk_0 : decode cX8_demandBunk 0 = .ok (.aload_n 0, 1) := by decide +kernel
theorem dX8_demandBunk_1 : decode cX8_demandBunk 1 = .ok (.getfield 10, 3) := by decide +kernel
theorem dX8_demandBunk_4 : decode cX8_demandBunk 4 = .ok (.iload_n 1, 1) := by decide +kernel
theorem dX8_demandBunk_5 : decode cX8_demandBunk 5 = .ok (.invokevirtual 188, 3) := by decide +kernel
theorem dX8_demandBunk_8 : decode cX8_demandBunk 8 = .ok (.ifCond .ne 13, 3) := by decide +kernel
theorem dX8_demandBunk_11 : decode cX8_demandBunk 11 = .ok (.new 191, 3) := by decide +kernel
theorem dX8_demandBunk_14 : decode cX8_demandBunk 14 = .ok (.dup, 1) := by decide +kernel
theorem dX8_demandBunk_15 : decode cX8_demandBunk 15 = .ok (.ldc 193, 2) := by decide +kernel
theorem dX8_demandBunk_17 : decode cX8_demandBunk 17 = .ok (.invokespecial 195, 3) := by decide +kernel
theorem dX8_demandBunk_20 : decode cX8_demandBunk 20 = .ok (.athrow, 1) := by decide +kernel
theorem dX8_demandBunk_21 : decode cX8_demandBunk 21 = .ok (.return_, 1) := by decide +kernel
theorem dX8_demandHiker_0 : decode cX8_demandHiker 0 = .ok (.aload_n 0, 1) := by decide +kernel
theorem dX8_demandHiker_1 : decode cX8_demandHiker 1 = .ok (.getfield 10, 3) := by decide +kernel
theorem dX8_demandHiker_4 : decode cX8_demandHiker 4 = .ok (.iload_n 1, 1) := by decide +kernel
theorem dX8_demandHiker_5 : decode cX8_demandHiker 5 = .ok (.invokevirtual 196, 3) := by decide +kernel
theorem dX8_demandHiker_8 : decode cX8_demandHiker 8 = .ok (.ifCond .ne 13, 3) := by decide +kernel
theorem dX8_demandHiker_11 : decode cX8_demandHiker 11 = .ok (.new 191, 3) := by decide +kernel
theorem dX8_demandHiker_14 : decode cX8_demandHiker 14 = .ok (.dup, 1) := by decide +kernel
theorem dX8_demandHiker_15 : decode cX8_demandHiker 15 = .ok (.ldc 199, 2) := by decide +kernel
theorem dX8_demandHiker_17 : decode cX8_demandHiker 17 = .ok (.invokespecial 195, 3) := by decide +kernel
theorem dX8_demandHiker_20 : decode cX8_demandHiker 20 = .ok (.athrow, 1) := by decide +kernel
theorem dX8_demandHiker_21 : decode cX8_demandHiker 21 = .ok (.return_, 1) := by decide +kernel
theorem dX8_userOf_0 : decode cX8_userOf 0 = .ok (.aload_n 0, 1) := by decide +kernel
theorem dX8_userOf_1 : decode cX8_userOf 1 = .ok (.getfield 10, 3) := by decide +kernel
theorem dX8_userOf_4 : decode cX8_userOf 4 = .ok (.iload_n 1, 1) := by decide +kernel
theorem dX8_userOf_5 : decode cX8_userOf 5 = .ok (.invokevirtual 201, 3) := by decide +kernel
theorem dX8_userOf_8 : decode cX8_userOf 8 = .ok (.ifCond .ne 13, 3) := by decide +kernel
theorem dX8_userOf_11 : decode cX8_userOf 11 = .ok (.new 191, 3) := by decide +kernel
theorem dX8_userOf_14 : decode cX8_userOf 14 = .ok (.dup, 1) := by decide +kernel
theorem dX8_userOf_15 : decode cX8_userOf 15 = .ok (.ldc 204, 2) := by decide +kernel
theorem dX8_userOf_17 : decode cX8_userOf 17 = .ok (.invokespecial 195, 3) := by decide +kernel
theorem dX8_userOf_20 : decode cX8_userOf 20 = .ok (.athrow, 1) := by decide +kernel
theorem dX8_userOf_21 : decode cX8_userOf 21 = .ok (.aload_n 0, 1) := by decide +kernel
theorem dX8_userOf_22 : decode cX8_userOf 22 = .ok (.getfield 10, 3) := by decide +kernel
theorem dX8_userOf_25 : decode cX8_userOf 25 = .ok (.iload_n 1, 1) := by decide +kernel
theorem dX8_userOf_26 : decode cX8_userOf 26 = .ok (.invokevirtual 206, 3) := by decide +kernel
theorem dX8_userOf_29 : decode cX8_userOf 29 = .ok (.ireturn, 1) := by decide +kernel
theorem dX8_bunkOf_0 : decode cX8_bunkOf 0 = .ok (.aload_n 0, 1) := by decide +kernel
theorem dX8_bunkOf_1 : decode cX8_bunkOf 1 = .ok (.iload_n 1, 1) := by decide +kernel
theorem dX8_bunkOf_2 : decode cX8_bunkOf 2 = .ok (.invokevirtual 181, 3) := by decide +kernel
theorem dX8_bunkOf_5 : decode cX8_bunkOf 5 = .ok (.aload_n 0, 1) := by decide +kernel
theorem dX8_bunkOf_6 : decode cX8_bunkOf 6 = .ok (.getfield 10, 3) := by decide +kernel
theorem dX8_bunkOf_9 : decode cX8_bunkOf 9 = .ok (.getfield 223, 3) := by decide +kernel
theorem dX8_bunkOf_12 : decode cX8_bunkOf 12 = .ok (.iload_n 1, 1) := by decide +kernel
theorem dX8_bunkOf_13 : decode cX8_bunkOf 13 = .ok (.aaload, 1) := by decide +kernel
theorem dX8_bunkOf_14 : decode cX8_bunkOf 14 = .ok (.getfield 227, 3) := by decide +kernel
theorem dX8_bunkOf_17 : decode cX8_bunkOf 17 = .ok (.ireturn, 1) := by decide +kernel
theorem dX8_blanketOf_0 : decode cX8_blanketOf 0 = .ok (.aload_n 0, 1) := by decide +kernel
theorem dX8_blanketOf_1 : decode cX8_blanketOf 1 = .ok (.iload_n 1, 1) := by decide +kernel
theorem dX8_blanketOf_2 : decode cX8_blanketOf 2 = .ok (.invokevirtual 181, 3) := by decide +kernel
theorem dX8_blanketOf_5 : decode cX8_blanketOf 5 = .ok (.aload_n 0, 1) := by decide +kernel
theorem dX8_blanketOf_6 : decode cX8_blanketOf 6 = .ok (.getfield 10, 3) := by decide +kernel
theorem dX8_blanketOf_9 : decode cX8_blanketOf 9 = .ok (.getfield 223, 3) := by decide +kernel
theorem dX8_blanketOf_12 : decode cX8_blanketOf 12 = .ok (.iload_n 1, 1) := by decide +kernel
theorem dX8_blanketOf_13 : decode cX8_blanketOf 13 = .ok (.aaload, 1) := by decide +kernel
theorem dX8_blanketOf_14 : decode cX8_blanketOf 14 = .ok (.getfield 232, 3) := by decide +kernel
theorem dX8_blanketOf_17 : decode cX8_blanketOf 17 = .ok (.ireturn, 1) := by decide +kernel
theorem dX8_warmth_0 : decode cX8_warmth 0 = .ok (.aload_n 0, 1) := by decide +kernel
theorem dX8_warmth_1 : decode cX8_warmth 1 = .ok (.iload_n 1, 1) := by decide +kernel
theorem dX8_warmth_2 : decode cX8_warmth 2 = .ok (.invokevirtual 181, 3) := by decide +kernel
theorem dX8_warmth_5 : decode cX8_warmth 5 = .ok (.aload_n 0, 1) := by decide +kernel
theorem dX8_warmth_6 : decode cX8_warmth 6 = .ok (.getfield 10, 3) := by decide +kernel
theorem dX8_warmth_9 : decode cX8_warmth 9 = .ok (.getfield 223, 3) := by decide +kernel
theorem dX8_warmth_12 : decode cX8_warmth 12 = .ok (.iload_n 1, 1) := by decide +kernel
theorem dX8_warmth_13 : decode cX8_warmth 13 = .ok (.aaload, 1) := by decide +kernel
theorem dX8_warmth_14 : decode cX8_warmth 14 = .ok (.getfield 235, 3) := by decide +kernel
theorem dX8_warmth_17 : decode cX8_warmth 17 = .ok (.ireturn, 1) := by decide +kernel
theorem dX8_activity_0 : decode cX8_activity 0 = .ok (.aload_n 0, 1) := by decide +kernel
theorem dX8_activity_1 : decode cX8_activity 1 = .ok (.iload_n 1, 1) := by decide +kernel
theorem dX8_activity_2 : decode cX8_activity 2 = .ok (.invokevirtual 181, 3) := by decide +kernel
theorem dX8_activity_5 : decode cX8_activity 5 = .ok (.aload_n 0, 1) := by decide +kernel
theorem dX8_activity_6 : decode cX8_activity 6 = .ok (.getfield 10, 3) := by decide +kernel
theorem dX8_activity_9 : decode cX8_activity 9 = .ok (.iload_n 1, 1) := by decide +kernel
theorem dX8_activity_10 : decode cX8_activity 10 = .ok (.invokevirtual 238, 3) := by decide +kernel
theorem dX8_activity_13 : decode cX8_activity 13 = .ok (.ireturn, 1) := by decide +kernel
theorem dX8_hoursOf_0 : decode cX8_hoursOf 0 = .ok (.aload_n 0, 1) := by decide +kernel
theorem dX8_hoursOf_1 : decode cX8_hoursOf 1 = .ok (.iload_n 1, 1) := by decide +kernel
theorem dX8_hoursOf_2 : decode cX8_hoursOf 2 = .ok (.invokevirtual 181, 3) := by decide +kernel
theorem dX8_hoursOf_5 : decode cX8_hoursOf 5 = .ok (.iload_n 2, 1) := by decide +kernel
theorem dX8_hoursOf_6 : decode cX8_hoursOf 6 = .ok (.iconst 0, 1) := by decide +kernel
theorem dX8_hoursOf_7 : decode cX8_hoursOf 7 = .ok (.iconst 3, 1) := by decide +kernel
theorem dX8_hoursOf_8 : decode cX8_hoursOf 8 = .ok (.invokestatic 100, 3) := by decide +kernel
theorem dX8_hoursOf_11 : decode cX8_hoursOf 11 = .ok (.ifCond .ne 13, 3) := by decide +kernel
theorem dX8_hoursOf_14 : decode cX8_hoursOf 14 = .ok (.new 104, 3) := by decide +kernel
theorem dX8_hoursOf_17 : decode cX8_hoursOf 17 = .ok (.dup, 1) := by decide +kernel
theorem dX8_hoursOf_18 : decode cX8_hoursOf 18 = .ok (.ldc 241, 2) := by decide +kernel
theorem dX8_hoursOf_20 : decode cX8_hoursOf 20 = .ok (.invokespecial 108, 3) := by decide +kernel
theorem dX8_hoursOf_23 : decode cX8_hoursOf 23 = .ok (.athrow, 1) := by decide +kernel
theorem dX8_hoursOf_24 : decode cX8_hoursOf 24 = .ok (.aload_n 0, 1) := by decide +kernel
theorem dX8_hoursOf_25 : decode cX8_hoursOf 25 = .ok (.getfield 10, 3) := by decide +kernel
theorem dX8_hoursOf_28 : decode cX8_hoursOf 28 = .ok (.getfield 223, 3) := by decide +kernel
theorem dX8_hoursOf_31 : decode cX8_hoursOf 31 = .ok (.iload_n 1, 1) := by decide +kernel
theorem dX8_hoursOf_32 : decode cX8_hoursOf 32 = .ok (.aaload, 1) := by decide +kernel
theorem dX8_hoursOf_33 : decode cX8_hoursOf 33 = .ok (.getfield 243, 3) := by decide +kernel
theorem dX8_hoursOf_36 : decode cX8_hoursOf 36 = .ok (.iload_n 2, 1) := by decide +kernel
theorem dX8_hoursOf_37 : decode cX8_hoursOf 37 = .ok (.iaload, 1) := by decide +kernel
theorem dX8_hoursOf_38 : decode cX8_hoursOf 38 = .ok (.ireturn, 1) := by decide +kernel
theorem dX8_coinsOf_0 : decode cX8_coinsOf 0 = .ok (.aload_n 0, 1) := by decide +kernel
theorem dX8_coinsOf_1 : decode cX8_coinsOf 1 = .ok (.iload_n 1, 1) := by decide +kernel
theorem dX8_coinsOf_2 : decode cX8_coinsOf 2 = .ok (.invokevirtual 181, 3) := by decide +kernel
theorem dX8_coinsOf_5 : decode cX8_coinsOf 5 = .ok (.aload_n 0, 1) := by decide +kernel
theorem dX8_coinsOf_6 : decode cX8_coinsOf 6 = .ok (.getfield 10, 3) := by decide +kernel
theorem dX8_coinsOf_9 : decode cX8_coinsOf 9 = .ok (.getfield 223, 3) := by decide +kernel
theorem dX8_coinsOf_12 : decode cX8_coinsOf 12 = .ok (.iload_n 1, 1) := by decide +kernel
theorem dX8_coinsOf_13 : decode cX8_coinsOf 13 = .ok (.aaload, 1) := by decide +kernel
theorem dX8_coinsOf_14 : decode cX8_coinsOf 14 = .ok (.getfield 246, 3) := by decide +kernel
theorem dX8_coinsOf_17 : decode cX8_coinsOf 17 = .ok (.ireturn, 1) := by decide +kernel
theorem dX8_debtOf_0 : decode cX8_debtOf 0 = .ok (.aload_n 0, 1) := by decide +kernel
theorem dX8_debtOf_1 : decode cX8_debtOf 1 = .ok (.iload_n 1, 1) := by decide +kernel
theorem dX8_debtOf_2 : decode cX8_debtOf 2 = .ok (.invokevirtual 181, 3) := by decide +kernel
theorem dX8_debtOf_5 : decode cX8_debtOf 5 = .ok (.aload_n 0, 1) := by decide +kernel
theorem dX8_debtOf_6 : decode cX8_debtOf 6 = .ok (.getfield 10, 3) := by decide +kernel
theorem dX8_debtOf_9 : decode cX8_debtOf 9 = .ok (.getfield 223, 3) := by decide +kernel
theorem dX8_debtOf_12 : decode cX8_debtOf 12 = .ok (.iload_n 1, 1) := by decide +kernel
theorem dX8_debtOf_13 : decode cX8_debtOf 13 = .ok (.aaload, 1) := by decide +kernel
theorem dX8_debtOf_14 : decode cX8_debtOf 14 = .ok (.getfield 249, 3) := by decide +kernel
theorem dX8_debtOf_17 : decode cX8_debtOf 17 = .ok (.ireturn, 1) := by decide +kernel
theorem dX8_hikerAtRank_0 : decode cX8_hikerAtRank 0 = .ok (.aload_n 0, 1) := by decide +kernel
theorem dX8_hikerAtRank_1 : decode cX8_hikerAtRank 1 = .ok (.getfield 10, 3) := by decide +kernel
theorem dX8_hikerAtRank_4 : decode cX8_hikerAtRank 4 = .ok (.iload_n 1, 1) := by decide +kernel
theorem dX8_hikerAtRank_5 : decode cX8_hikerAtRank 5 = .ok (.invokevirtual 252, 3) := by decide +kernel
theorem dX8_hikerAtRank_8 : decode cX8_hikerAtRank 8 = .ok (.istore_n 2, 1) := by decide +kernel
theorem dX8_hikerAtRank_9 : decode cX8_hikerAtRank 9 = .ok (.iload_n 2, 1) := by decide +kernel
theorem dX8_hikerAtRank_10 : decode cX8_hikerAtRank 10 = .ok (.iconst (-1), 1) := by decide +kernel
theorem dX8_hikerAtRank_11 : decode cX8_hikerAtRank 11 = .ok (.if_icmp .ne 13, 3) := by decide +kernel
theorem dX8_hikerAtRank_14 : decode cX8_hikerAtRank 14 = .ok (.new 212, 3) := by decide +kernel
theorem dX8_hikerAtRank_17 : decode cX8_hikerAtRank 17 = .ok (.dup, 1) := by decide +kernel
theorem dX8_hikerAtRank_18 : decode cX8_hikerAtRank 18 = .ok (.ldc 214, 2) := by decide +kernel
theorem dX8_hikerAtRank_20 : decode cX8_hikerAtRank 20 = .ok (.invokespecial 216, 3) := by decide +kernel
theorem dX8_hikerAtRank_23 : decode cX8_hikerAtRank 23 = .ok (.athrow, 1) := by decide +kernel
theorem dX8_hikerAtRank_24 : decode cX8_hikerAtRank 24 = .ok (.iload_n 2, 1) := by decide +kernel
theorem dX8_hikerAtRank_25 : decode cX8_hikerAtRank 25 = .ok (.ireturn, 1) := by decide +kernel
theorem dX8_hikersWithout_0 : decode cX8_hikersWithout 0 = .ok (.aload_n 0, 1) := by decide +kernel
theorem dX8_hikersWithout_1 : decode cX8_hikersWithout 1 = .ok (.getfield 10, 3) := by decide +kernel
theorem dX8_hikersWithout_4 : decode cX8_hikersWithout 4 = .ok (.invokevirtual 259, 3) := by decide +kernel
theorem dX8_hikersWithout_7 : decode cX8_hikersWithout 7 = .ok (.ireturn, 1) := by decide +kernel
theorem dX8_coldHikers_0 : decode cX8_coldHikers 0 = .ok (.aload_n 0, 1) := by decide +kernel
theorem dX8_coldHikers_1 : decode cX8_coldHikers 1 = .ok (.getfield 10, 3) := by decide +kernel
theorem dX8_coldHikers_4 : decode cX8_coldHikers 4 = .ok (.invokevirtual 262, 3) := by decide +kernel
theorem dX8_coldHikers_7 : decode cX8_coldHikers 7 = .ok (.ireturn, 1) := by decide +kernel
theorem dX8_hutCoins_0 : decode cX8_hutCoins 0 = .ok (.aload_n 0, 1) := by decide +kernel
theorem dX8_hutCoins_1 : decode cX8_hutCoins 1 = .ok (.getfield 10, 3) := by decide +kernel
theorem dX8_hutCoins_4 : decode cX8_hutCoins 4 = .ok (.getfield 277, 3) := by decide +kernel
theorem dX8_hutCoins_7 : decode cX8_hutCoins 7 = .ok (.ireturn, 1) := by decide +kernel
theorem dX8_burnedLogs_0 : decode cX8_burnedLogs 0 = .ok (.aload_n 0, 1) := by decide +kernel
theorem dX8_burnedLogs_1 : decode cX8_burnedLogs 1 = .ok (.getfield 10, 3) := by decide +kernel
theorem dX8_burnedLogs_4 : decode cX8_burnedLogs 4 = .ok (.getfield 280, 3) := by decide +kernel
theorem dX8_burnedLogs_7 : decode cX8_burnedLogs 7 = .ok (.ireturn, 1) := by decide +kernel
theorem dX8_totalDebt_0 : decode cX8_totalDebt 0 = .ok (.aload_n 0, 1) := by decide +kernel
theorem dX8_totalDebt_1 : decode cX8_totalDebt 1 = .ok (.getfield 10, 3) := by decide +kernel
theorem dX8_totalDebt_4 : decode cX8_totalDebt 4 = .ok (.invokevirtual 283, 3) := by decide +kernel
theorem dX8_totalDebt_7 : decode cX8_totalDebt 7 = .ok (.ireturn, 1) := by decide +kernel
theorem dX8_auditDifference_0 : decode cX8_auditDifference 0 = .ok (.aload_n 0, 1) := by decide +kernel
theorem dX8_auditDifference_1 : decode cX8_auditDifference 1 = .ok (.getfield 10, 3) := by decide +kernel
theorem dX8_auditDifference_4 : decode cX8_auditDifference 4 = .ok (.getfield 286, 3) := by decide +kernel
theorem dX8_auditDifference_7 : decode cX8_auditDifference 7 = .ok (.aload_n 0, 1) := by decide +kernel
theorem dX8_auditDifference_8 : decode cX8_auditDifference 8 = .ok (.getfield 10, 3) := by decide +kernel
theorem dX8_auditDifference_11 : decode cX8_auditDifference 11 = .ok (.getfield 277, 3) := by decide +kernel
theorem dX8_auditDifference_14 : decode cX8_auditDifference 14 = .ok (.isub, 1) := by decide +kernel
theorem dX8_auditDifference_15 : decode cX8_auditDifference 15 = .ok (.aload_n 0, 1) := by decide +kernel
theorem dX8_auditDifference_16 : decode cX8_auditDifference 16 = .ok (.getfield 10, 3) := by decide +kernel
theorem dX8_auditDifference_19 : decode cX8_auditDifference 19 = .ok (.invokevirtual 289, 3) := by decide +kernel
theorem dX8_auditDifference_22 : decode cX8_auditDifference 22 = .ok (.isub, 1) := by decide +kernel
theorem dX8_auditDifference_23 : decode cX8_auditDifference 23 = .ok (.invokestatic 292, 3) := by decide +kernel
theorem dX8_auditDifference_26 : decode cX8_auditDifference 26 = .ok (.aload_n 0, 1) := by decide +kernel
theorem dX8_auditDifference_27 : decode cX8_auditDifference 27 = .ok (.getfield 10, 3) := by decide +kernel
theorem dX8_auditDifference_30 : decode cX8_auditDifference 30 = .ok (.getfield 297, 3) := by decide +kernel
theorem dX8_auditDifference_33 : decode cX8_auditDifference 33 = .ok (.aload_n 0, 1) := by decide +kernel
theorem dX8_auditDifference_34 : decode cX8_auditDifference 34 = .ok (.getfield 10, 3) := by decide +kernel
theorem dX8_auditDifference_37 : decode cX8_auditDifference 37 = .ok (.getfield 159, 3) := by decide +kernel
theorem dX8_auditDifference_40 : decode cX8_auditDifference 40 = .ok (.isub, 1) := by decide +kernel
theorem dX8_auditDifference_41 : decode cX8_auditDifference 41 = .ok (.aload_n 0, 1) := by decide +kernel
theorem dX8_auditDifference_42 : decode cX8_auditDifference 42 = .ok (.getfield 10, 3) := by decide +kernel
theorem dX8_auditDifference_45 : decode cX8_auditDifference 45 = .ok (.getfield 280, 3) := by decide +kernel
theorem dX8_auditDifference_48 : decode cX8_auditDifference 48 = .ok (.isub, 1) := by decide +kernel
theorem dX8_auditDifference_49 : decode cX8_auditDifference 49 = .ok (.invokestatic 292, 3) := by decide +kernel
theorem dX8_auditDifference_52 : decode cX8_auditDifference 52 = .ok (.iadd, 1) := by decide +kernel
theorem dX8_auditDifference_53 : decode cX8_auditDifference 53 = .ok (.aload_n 0, 1) := by decide +kernel
theorem dX8_auditDifference_54 : decode cX8_auditDifference 54 = .ok (.getfield 10, 3) := by decide +kernel
theorem dX8_auditDifference_57 : decode cX8_auditDifference 57 = .ok (.invokevirtual 300, 3) := by decide +kernel
theorem dX8_auditDifference_60 : decode cX8_auditDifference 60 = .ok (.iadd, 1) := by decide +kernel
theorem dX8_auditDifference_61 : decode cX8_auditDifference 61 = .ok (.ireturn, 1) := by decide +kernel
theorem dX8_meanWarmth_0 : decode cX8_meanWarmth 0 = .ok (.aload_n 0, 1) := by decide +kernel
theorem dX8_meanWarmth_1 : decode cX8_meanWarmth 1 = .ok (.getfield 10, 3) := by decide +kernel
theorem dX8_meanWarmth_4 : decode cX8_meanWarmth 4 = .ok (.getfield 116, 3) := by decide +kernel
theorem dX8_meanWarmth_7 : decode cX8_meanWarmth 7 = .ok (.istore_n 1, 1) := by decide +kernel
theorem dX8_meanWarmth_8 : decode cX8_meanWarmth 8 = .ok (.iload_n 1, 1) := by decide +kernel
theorem dX8_meanWarmth_9 : decode cX8_meanWarmth 9 = .ok (.iconst 1, 1) := by decide +kernel
theorem dX8_meanWarmth_10 : decode cX8_meanWarmth 10 = .ok (.if_icmp .ge 7, 3) := by decide +kernel
theorem dX8_meanWarmth_13 : decode cX8_meanWarmth 13 = .ok (.dconst 0, 1) := by decide +kernel
theorem dX8_meanWarmth_14 : decode cX8_meanWarmth 14 = .ok (.goto 14, 3) := by decide +kernel
theorem dX8_meanWarmth_17 : decode cX8_meanWarmth 17 = .ok (.aload_n 0, 1) := by decide +kernel
theorem dX8_meanWarmth_18 : decode cX8_meanWarmth 18 = .ok (.getfield 10, 3) := by decide +kernel
theorem dX8_meanWarmth_21 : decode cX8_meanWarmth 21 = .ok (.invokevirtual 303, 3) := by decide +kernel
theorem dX8_meanWarmth_24 : decode cX8_meanWarmth 24 = .ok (.i2d, 1) := by decide +kernel
theorem dX8_meanWarmth_25 : decode cX8_meanWarmth 25 = .ok (.iload_n 1, 1) := by decide +kernel
theorem dX8_meanWarmth_26 : decode cX8_meanWarmth 26 = .ok (.i2d, 1) := by decide +kernel
theorem dX8_meanWarmth_27 : decode cX8_meanWarmth 27 = .ok (.ddiv, 1) := by decide +kernel
theorem dX8_meanWarmth_28 : decode cX8_meanWarmth 28 = .ok (.dreturn, 1) := by decide +kernel
theorem dX8_sleepShare_0 : decode cX8_sleepShare 0 = .ok (.aload_n 0, 1) := by decide +kernel
theorem dX8_sleepShare_1 : decode cX8_sleepShare 1 = .ok (.getfield 10, 3) := by decide +kernel
theorem dX8_sleepShare_4 : decode cX8_sleepShare 4 = .ok (.getfield 152, 3) := by decide +kernel
theorem dX8_sleepShare_7 : decode cX8_sleepShare 7 = .ok (.aload_n 0, 1) := by decide +kernel
theorem dX8_sleepShare_8 : decode cX8_sleepShare 8 = .ok (.getfield 10, 3) := by decide +kernel
theorem dX8_sleepShare_11 : decode cX8_sleepShare 11 = .ok (.getfield 116, 3) := by decide +kernel
theorem dX8_sleepShare_14 : decode cX8_sleepShare 14 = .ok (.imul, 1) := by decide +kernel
theorem dX8_sleepShare_15 : decode cX8_sleepShare 15 = .ok (.istore_n 1, 1) := by decide +kernel
theorem dX8_sleepShare_16 : decode cX8_sleepShare 16 = .ok (.iload_n 1, 1) := by decide +kernel
theorem dX8_sleepShare_17 : decode cX8_sleepShare 17 = .ok (.iconst 1, 1) := by decide +kernel
theorem dX8_sleepShare_18 : decode cX8_sleepShare 18 = .ok (.if_icmp .ge 7, 3) := by decide +kernel
theorem dX8_sleepShare_21 : decode cX8_sleepShare 21 = .ok (.fconst 0, 1) := by decide +kernel
theorem dX8_sleepShare_22 : decode cX8_sleepShare 22 = .ok (.goto 15, 3) := by decide +kernel
theorem dX8_sleepShare_25 : decode cX8_sleepShare 25 = .ok (.aload_n 0, 1) := by decide +kernel
theorem dX8_sleepShare_26 : decode cX8_sleepShare 26 = .ok (.getfield 10, 3) := by decide +kernel
theorem dX8_sleepShare_29 : decode cX8_sleepShare 29 = .ok (.iconst 2, 1) := by decide +kernel
theorem dX8_sleepShare_30 : decode cX8_sleepShare 30 = .ok (.invokevirtual 306, 3) := by decide +kernel
theorem dX8_sleepShare_33 : decode cX8_sleepShare 33 = .ok (.i2f, 1) := by decide +kernel
theorem dX8_sleepShare_34 : decode cX8_sleepShare 34 = .ok (.iload_n 1, 1) := by decide +kernel
theorem dX8_sleepShare_35 : decode cX8_sleepShare 35 = .ok (.i2f, 1) := by decide +kernel
theorem dX8_sleepShare_36 : decode cX8_sleepShare 36 = .ok (.fdiv, 1) := by decide +kernel
theorem dX8_sleepShare_37 : decode cX8_sleepShare 37 = .ok (.freturn, 1) := by decide +kernel
theorem dX8_takeBlanket_0 : decode cX8_takeBlanket 0 = .ok (.aload_n 0, 1) := by decide +kernel
theorem dX8_takeBlanket_1 : decode cX8_takeBlanket 1 = .ok (.iconst 0, 1) := by decide +kernel
theorem dX8_takeBlanket_2 : decode cX8_takeBlanket 2 = .ok (.iload_n 1, 1) := by decide +kernel
theorem dX8_takeBlanket_3 : decode cX8_takeBlanket 3 = .ok (.iload_n 2, 1) := by decide +kernel
theorem dX8_takeBlanket_4 : decode cX8_takeBlanket 4 = .ok (.invokevirtual 339, 3) := by decide +kernel
theorem dX8_takeBlanket_7 : decode cX8_takeBlanket 7 = .ok (.ireturn, 1) := by decide +kernel
theorem dX8_returnBlanket_0 : decode cX8_returnBlanket 0 = .ok (.aload_n 0, 1) := by decide +kernel
theorem dX8_returnBlanket_1 : decode cX8_returnBlanket 1 = .ok (.iconst 1, 1) := by decide +kernel
theorem dX8_returnBlanket_2 : decode cX8_returnBlanket 2 = .ok (.iload_n 1, 1) := by decide +kernel
theorem dX8_returnBlanket_3 : decode cX8_returnBlanket 3 = .ok (.iconst 0, 1) := by decide +kernel
theorem dX8_returnBlanket_4 : decode cX8_returnBlanket 4 = .ok (.invokevirtual 339, 3) := by decide +kernel
theorem dX8_returnBlanket_7 : decode cX8_returnBlanket 7 = .ok (.ireturn, 1) := by decide +kernel
theorem dX8_swapBlankets_0 : decode cX8_swapBlankets 0 = .ok (.aload_n 0, 1) := by decide +kernel
theorem dX8_swapBlankets_1 : decode cX8_swapBlankets 1 = .ok (.iconst 2, 1) := by decide +kernel
theorem dX8_swapBlankets_2 : decode cX8_swapBlankets 2 = .ok (.iload_n 1, 1) := by decide +kernel
theorem dX8_swapBlankets_3 : decode cX8_swapBlankets 3 = .ok (.iload_n 2, 1) := by decide +kernel
theorem dX8_swapBlankets_4 : decode cX8_swapBlankets 4 = .ok (.invokevirtual 339, 3) := by decide +kernel
theorem dX8_swapBlankets_7 : decode cX8_swapBlankets 7 = .ok (.ireturn, 1) := by decide +kernel
theorem dX8_lieDown_0 : decode cX8_lieDown 0 = .ok (.aload_n 0, 1) := by decide +kernel
theorem dX8_lieDown_1 : decode cX8_lieDown 1 = .ok (.iconst 3, 1) := by decide +kernel
theorem dX8_lieDown_2 : decode cX8_lieDown 2 = .ok (.iload_n 1, 1) := by decide +kernel
theorem dX8_lieDown_3 : decode cX8_lieDown 3 = .ok (.iload_n 2, 1) := by decide +kernel
theorem dX8_lieDown_4 : decode cX8_lieDown 4 = .ok (.invokevirtual 339, 3) := by decide +kernel
theorem dX8_lieDown_7 : decode cX8_lieDown 7 = .ok (.ireturn, 1) := by decide +kernel
theorem dX8_getUp_0 : decode cX8_getUp 0 = .ok (.aload_n 0, 1) := by decide +kernel
theorem dX8_getUp_1 : decode cX8_getUp 1 = .ok (.iconst 4, 1) := by decide +kernel
theorem dX8_getUp_2 : decode cX8_getUp 2 = .ok (.iload_n 1, 1) := by decide +kernel
theorem dX8_getUp_3 : decode cX8_getUp 3 = .ok (.iconst 0, 1) := by decide +kernel
theorem dX8_getUp_4 : decode cX8_getUp 4 = .ok (.invokevirtual 339, 3) := by decide +kernel
theorem dX8_getUp_7 : decode cX8_getUp 7 = .ok (.ireturn, 1) := by decide +kernel
theorem dX8_setRate_0 : decode cX8_setRate 0 = .ok (.aload_n 0, 1) := by decide +kernel
theorem dX8_setRate_1 : decode cX8_setRate 1 = .ok (.iconst 5, 1) := by decide +kernel
theorem dX8_setRate_2 : decode cX8_setRate 2 = .ok (.iload_n 1, 1) := by decide +kernel
theorem dX8_setRate_3 : decode cX8_setRate 3 = .ok (.iconst 0, 1) := by decide +kernel
theorem dX8_setRate_4 : decode cX8_setRate 4 = .ok (.invokevirtual 339, 3) := by decide +kernel
theorem dX8_setRate_7 : decode cX8_setRate 7 = .ok (.ireturn, 1) := by decide +kernel
theorem dX8_fetchLogs_0 : decode cX8_fetchLogs 0 = .ok (.aload_n 0, 1) := by decide +kernel
theorem dX8_fetchLogs_1 : decode cX8_fetchLogs 1 = .ok (.bipush 6, 2) := by decide +kernel
theorem dX8_fetchLogs_3 : decode cX8_fetchLogs 3 = .ok (.iload_n 1, 1) := by decide +kernel
theorem dX8_fetchLogs_4 : decode cX8_fetchLogs 4 = .ok (.iconst 0, 1) := by decide +kernel
theorem dX8_fetchLogs_5 : decode cX8_fetchLogs 5 = .ok (.invokevirtual 339, 3) := by decide +kernel
theorem dX8_fetchLogs_8 : decode cX8_fetchLogs 8 = .ok (.ireturn, 1) := by decide +kernel
theorem dX8_payDebt_0 : decode cX8_payDebt 0 = .ok (.aload_n 0, 1) := by decide +kernel
theorem dX8_payDebt_1 : decode cX8_payDebt 1 = .ok (.bipush 7, 2) := by decide +kernel
theorem dX8_payDebt_3 : decode cX8_payDebt 3 = .ok (.iload_n 1, 1) := by decide +kernel
theorem dX8_payDebt_4 : decode cX8_payDebt 4 = .ok (.iload_n 2, 1) := by decide +kernel
theorem dX8_payDebt_5 : decode cX8_payDebt 5 = .ok (.invokevirtual 339, 3) := by decide +kernel
theorem dX8_payDebt_8 : decode cX8_payDebt 8 = .ok (.ireturn, 1) := by decide +kernel
theorem dX8_passHours_0 : decode cX8_passHours 0 = .ok (.aload_n 0, 1) := by decide +kernel
theorem dX8_passHours_1 : decode cX8_passHours 1 = .ok (.bipush 8, 2) := by decide +kernel
theorem dX8_passHours_3 : decode cX8_passHours 3 = .ok (.iload_n 1, 1) := by decide +kernel
theorem dX8_passHours_4 : decode cX8_passHours 4 = .ok (.iconst 0, 1) := by decide +kernel
theorem dX8_passHours_5 : decode cX8_passHours 5 = .ok (.invokevirtual 339, 3) := by decide +kernel
theorem dX8_passHours_8 : decode cX8_passHours 8 = .ok (.ireturn, 1) := by decide +kernel
theorem dX8_act_0 : decode cX8_act 0 = .ok (.aload_n 0, 1) := by decide +kernel
theorem dX8_act_1 : decode cX8_act 1 = .ok (.getfield 10, 3) := by decide +kernel
theorem dX8_act_4 : decode cX8_act 4 = .ok (.iload_n 1, 1) := by decide +kernel
theorem dX8_act_5 : decode cX8_act 5 = .ok (.iload_n 2, 1) := by decide +kernel
theorem dX8_act_6 : decode cX8_act 6 = .ok (.iload_n 3, 1) := by decide +kernel
theorem dX8_act_7 : decode cX8_act 7 = .ok (.invokevirtual 136, 3) := by decide +kernel
theorem dX8_act_10 : decode cX8_act 10 = .ok (.invokestatic 342, 3) := by decide +kernel
theorem dX8_act_13 : decode cX8_act 13 = .ok (.aload_n 0, 1) := by decide +kernel
theorem dX8_act_14 : decode cX8_act 14 = .ok (.getfield 29, 3) := by decide +kernel
theorem dX8_act_17 : decode cX8_act 17 = .ok (.aload_n 0, 1) := by decide +kernel
theorem dX8_act_18 : decode cX8_act 18 = .ok (.getfield 10, 3) := by decide +kernel
theorem dX8_act_21 : decode cX8_act 21 = .ok (.invokevirtual 140, 3) := by decide +kernel
theorem dX8_act_24 : decode cX8_act 24 = .ok (.aload_n 0, 1) := by decide +kernel
theorem dX8_act_25 : decode cX8_act 25 = .ok (.getfield 10, 3) := by decide +kernel
theorem dX8_act_28 : decode cX8_act 28 = .ok (.iload_n 1, 1) := by decide +kernel
theorem dX8_act_29 : decode cX8_act 29 = .ok (.iload_n 2, 1) := by decide +kernel
theorem dX8_act_30 : decode cX8_act 30 = .ok (.iload_n 3, 1) := by decide +kernel
theorem dX8_act_31 : decode cX8_act 31 = .ok (.invokevirtual 143, 3) := by decide +kernel
theorem dX8_act_34 : decode cX8_act 34 = .ok (.ireturn, 1) := by decide +kernel
theorem dX8_refuse_0 : decode cX8_refuse 0 = .ok (.iload_n 0, 1) := by decide +kernel
theorem dX8_refuse_1 : decode cX8_refuse 1 = .ok (.iconst 1, 1) := by decide +kernel
theorem dX8_refuse_2 : decode cX8_refuse 2 = .ok (.if_icmp .ne 14, 3) := by decide +kernel
theorem dX8_refuse_5 : decode cX8_refuse 5 = .ok (.new 191, 3) := by decide +kernel
theorem dX8_refuse_8 : decode cX8_refuse 8 = .ok (.dup, 1) := by decide +kernel
theorem dX8_refuse_9 : decode cX8_refuse 9 = .ok (.ldc_w 345, 3) := by decide +kernel
theorem dX8_refuse_12 : decode cX8_refuse 12 = .ok (.invokespecial 195, 3) := by decide +kernel
theorem dX8_refuse_15 : decode cX8_refuse 15 = .ok (.athrow, 1) := by decide +kernel
theorem dX8_refuse_16 : decode cX8_refuse 16 = .ok (.iload_n 0, 1) := by decide +kernel
theorem dX8_refuse_17 : decode cX8_refuse 17 = .ok (.iconst 2, 1) := by decide +kernel
theorem dX8_refuse_18 : decode cX8_refuse 18 = .ok (.if_icmp .ne 14, 3) := by decide +kernel
theorem dX8_refuse_21 : decode cX8_refuse 21 = .ok (.new 104, 3) := by decide +kernel
theorem dX8_refuse_24 : decode cX8_refuse 24 = .ok (.dup, 1) := by decide +kernel
theorem dX8_refuse_25 : decode cX8_refuse 25 = .ok (.ldc_w 347, 3) := by decide +kernel
theorem dX8_refuse_28 : decode cX8_refuse 28 = .ok (.invokespecial 108, 3) := by decide +kernel
theorem dX8_refuse_31 : decode cX8_refuse 31 = .ok (.athrow, 1) := by decide +kernel
theorem dX8_refuse_32 : decode cX8_refuse 32 = .ok (.iload_n 0, 1) := by decide +kernel
theorem dX8_refuse_33 : decode cX8_refuse 33 = .ok (.iconst 3, 1) := by decide +kernel
theorem dX8_refuse_34 : decode cX8_refuse 34 = .ok (.if_icmp .ne 14, 3) := by decide +kernel
theorem dX8_refuse_37 : decode cX8_refuse 37 = .ok (.new 90, 3) := by decide +kernel
theorem dX8_refuse_40 : decode cX8_refuse 40 = .ok (.dup, 1) := by decide +kernel
theorem dX8_refuse_41 : decode cX8_refuse 41 = .ok (.ldc_w 349, 3) := by decide +kernel
theorem dX8_refuse_44 : decode cX8_refuse 44 = .ok (.invokespecial 94, 3) := by decide +kernel
theorem dX8_refuse_47 : decode cX8_refuse 47 = .ok (.athrow, 1) := by decide +kernel
theorem dX8_refuse_48 : decode cX8_refuse 48 = .ok (.return_, 1) := by decide +kernel
theorem dX8_undo_0 : decode cX8_undo 0 = .ok (.aload_n 0, 1) := by decide +kernel
theorem dX8_undo_1 : decode cX8_undo 1 = .ok (.getfield 29, 3) := by decide +kernel
theorem dX8_undo_4 : decode cX8_undo 4 = .ok (.getfield 375, 3) := by decide +kernel
theorem dX8_undo_7 : decode cX8_undo 7 = .ok (.iconst 1, 1) := by decide +kernel
theorem dX8_undo_8 : decode cX8_undo 8 = .ok (.if_icmp .ge 14, 3) := by decide +kernel
theorem dX8_undo_11 : decode cX8_undo 11 = .ok (.new 90, 3) := by decide +kernel
theorem dX8_undo_14 : decode cX8_undo 14 = .ok (.dup, 1) := by decide +kernel
theorem dX8_undo_15 : decode cX8_undo 15 = .ok (.ldc_w 378, 3) := by decide +kernel
theorem dX8_undo_18 : decode cX8_undo 18 = .ok (.invokespecial 94, 3) := by decide +kernel
theorem dX8_undo_21 : decode cX8_undo 21 = .ok (.athrow, 1) := by decide +kernel
theorem dX8_undo_22 : decode cX8_undo 22 = .ok (.aload_n 0, 1) := by decide +kernel
theorem dX8_undo_23 : decode cX8_undo 23 = .ok (.getfield 29, 3) := by decide +kernel
theorem dX8_undo_26 : decode cX8_undo 26 = .ok (.aload_n 0, 1) := by decide +kernel
theorem dX8_undo_27 : decode cX8_undo 27 = .ok (.getfield 10, 3) := by decide +kernel
theorem dX8_undo_30 : decode cX8_undo 30 = .ok (.invokevirtual 380, 3) := by decide +kernel
theorem dX8_undo_33 : decode cX8_undo 33 = .ok (.aload_n 0, 1) := by decide +kernel
theorem dX8_undo_34 : decode cX8_undo 34 = .ok (.getfield 29, 3) := by decide +kernel
theorem dX8_undo_37 : decode cX8_undo 37 = .ok (.getfield 375, 3) := by decide +kernel
theorem dX8_undo_40 : decode cX8_undo 40 = .ok (.ireturn, 1) := by decide +kernel
theorem dX9_init_0 : decode cX9_init 0 = .ok (.aload_n 0, 1) := by decide +kernel
theorem dX9_init_1 : decode cX9_init 1 = .ok (.invokespecial 1, 3) := by decide +kernel
theorem dX9_init_4 : decode cX9_init 4 = .ok (.aload_n 0, 1) := by decide +kernel
theorem dX9_init_5 : decode cX9_init 5 = .ok (.iconst (-1), 1) := by decide +kernel
theorem dX9_init_6 : decode cX9_init 6 = .ok (.putfield 7, 3) := by decide +kernel
theorem dX9_init_9 : decode cX9_init 9 = .ok (.aload_n 0, 1) := by decide +kernel
theorem dX9_init_10 : decode cX9_init 10 = .ok (.iconst (-1), 1) := by decide +kernel
theorem dX9_init_11 : decode cX9_init 11 = .ok (.putfield 13, 3) := by decide +kernel
theorem dX9_init_14 : decode cX9_init 14 = .ok (.aload_n 0, 1) := by decide +kernel
theorem dX9_init_15 : decode cX9_init 15 = .ok (.iconst 4, 1) := by decide +kernel
theorem dX9_init_16 : decode cX9_init 16 = .ok (.newarray .int, 2) := by decide +kernel
theorem dX9_init_18 : decode cX9_init 18 = .ok (.putfield 16, 3) := by decide +kernel
theorem dX9_init_21 : decode cX9_init 21 = .ok (.return_, 1) := by decide +kernel
