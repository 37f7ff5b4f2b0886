theorem dL_init_0 : decode cL_init 0 = .ok (.aload_n 0, 1) := by decide +kernel
theorem dL_init_1 : decode cL_init 1 = .ok (.invokespecial 1, 3) := by decide +kernel
theorem dL_init_4 : decode cL_init 4 = .ok (.aload_n 0, 1) := by decide +kernel
theorem dL_init_5 : decode cL_init 5 = .ok (.new 7, 3) := by decide +kernel
theorem dL_init_8 : decode cL_init 8 = .ok (.dup, 1) := by decide +kernel
theorem dL_init_9 : decode cL_init 9 = .ok (.invokespecial 9, 3) := by decide +kernel
theorem dL_init_12 : decode cL_init 12 = .ok (.putfield 10, 3) := by decide +kernel
theorem dL_init_15 : decode cL_init 15 = .ok (.aload_n 0, 1) := by decide +kernel
theorem dL_init_16 : decode cL_init 16 = .ok (.new 16, 3) := by decide +kernel
theorem dL_init_19 : decode cL_init 19 = .ok (.dup, 1) := by decide +kernel
theorem dL_init_20 : decode cL_init 20 = .ok (.invokespecial 18, 3) := by decide +kernel
theorem dL_init_23 : decode cL_init 23 = .ok (.putfield 19, 3) := by decide +kernel
theorem dL_init_26 : decode cL_init 26 = .ok (.aload_n 0, 1) := by decide +kernel
theorem dL_init_27 : decode cL_init 27 = .ok (.bipush 12, 2) := by decide +kernel
theorem dL_init_29 : decode cL_init 29 = .ok (.newarray .int, 2) := by decide +kernel
theorem dL_init_31 : decode cL_init 31 = .ok (.putfield 23, 3) := by decide +kernel
theorem dL_init_34 : decode cL_init 34 = .ok (.aload_n 0, 1) := by decide +kernel
theorem dL_init_35 : decode cL_init 35 = .ok (.bipush 12, 2) := by decide +kernel
theorem dL_init_37 : decode cL_init 37 = .ok (.newarray .int, 2) := by decide +kernel
theorem dL_init_39 : decode cL_init 39 = .ok (.putfield 27, 3) := by decide +kernel
theorem dL_init_42 : decode cL_init 42 = .ok (.aload_n 0, 1) := by decide +kernel
theorem dL_init_43 : decode cL_init 43 = .ok (.bipush 12, 2) := by decide +kernel
theorem dL_init_45 : decode cL_init 45 = .ok (.newarray .int, 2) := by decide +kernel
theorem dL_init_47 : decode cL_init 47 = .ok (.putfield 30, 3) := by decide +kernel
theorem dL_init_50 : decode cL_init 50 = .ok (.return_, 1) := by decide +kernel
theorem dL_at_0 : decode cL_at 0 = .ok (.iload_n 1, 1) := by decide +kernel
theorem dL_at_1 : decode cL_at 1 = .ok (.aload_n 0, 1) := by decide +kernel
theorem dL_at_2 : decode cL_at 2 = .ok (.arraylength, 1) := by decide +kernel
theorem dL_at_3 : decode cL_at 3 = .ok (.if_icmp .ge 9, 3) := by decide +kernel
theorem dL_at_6 : decode cL_at 6 = .ok (.aload_n 0, 1) := by decide +kernel
theorem dL_at_7 : decode cL_at 7 = .ok (.iload_n 1, 1) := by decide +kernel
theorem dL_at_8 : decode cL_at 8 = .ok (.iaload, 1) := by decide +kernel
theorem dL_at_9 : decode cL_at 9 = .ok (.goto 4, 3) := by decide +kernel
theorem dL_at_12 : decode cL_at 12 = .ok (.iconst 0, 1) := by decide +kernel
theorem dL_at_13 : decode cL_at 13 = .ok (.istore_n 2, 1) := by decide +kernel
theorem dL_at_14 : decode cL_at 14 = .ok (.iload_n 2, 1) := by decide +kernel
theorem dL_at_15 : decode cL_at 15 = .ok (.ifCond .le 22, 3) := by decide +kernel
theorem dL_at_18 : decode cL_at 18 = .ok (.iload_n 2, 1) := by decide +kernel
theorem dL_at_19 : decode cL_at 19 = .ok (.sipush 512, 3) := by decide +kernel
theorem dL_at_22 : decode cL_at 22 = .ok (.if_icmp .ge 15, 3) := by decide +kernel
theorem dL_at_25 : decode cL_at 25 = .ok (.iload_n 2, 1) := by decide +kernel
theorem dL_at_26 : decode cL_at 26 = .ok (.ldc 33, 2) := by decide +kernel
theorem dL_at_28 : decode cL_at 28 = .ok (.imul, 1) := by decide +kernel
theorem dL_at_29 : decode cL_at 29 = .ok (.iload_n 1, 1) := by decide +kernel
theorem dL_at_30 : decode cL_at 30 = .ok (.ldc 34, 2) := by decide +kernel
theorem dL_at_32 : decode cL_at 32 = .ok (.imul, 1) := by decide +kernel
theorem dL_at_33 : decode cL_at 33 = .ok (.ixor, 1) := by decide +kernel
theorem dL_at_34 : decode cL_at 34 = .ok (.goto 4, 3) := by decide +kernel
theorem dL_at_37 : decode cL_at 37 = .ok (.iload_n 2, 1) := by decide +kernel
theorem dL_at_38 : decode cL_at 38 = .ok (.ireturn, 1) := by decide +kernel
theorem dL_draw_0 : decode cL_draw 0 = .ok (.aload_n 0, 1) := by decide +kernel
theorem dL_draw_1 : decode cL_draw 1 = .ok (.getfield 35, 3) := by decide +kernel
theorem dL_draw_4 : decode cL_draw 4 = .ok (.aload_n 0, 1) := by decide +kernel
theorem dL_draw_5 : decode cL_draw 5 = .ok (.getfield 38, 3) := by decide +kernel
theorem dL_draw_8 : decode cL_draw 8 = .ok (.iconst 1, 1) := by decide +kernel
theorem dL_draw_9 : decode cL_draw 9 = .ok (.aload_n 0, 1) := by decide +kernel
theorem dL_draw_10 : decode cL_draw 10 = .ok (.getfield 35, 3) := by decide +kernel
theorem dL_draw_13 : decode cL_draw 13 = .ok (.arraylength, 1) := by decide +kernel
theorem dL_draw_14 : decode cL_draw 14 = .ok (.invokestatic 42, 3) := by decide +kernel
theorem dL_draw_17 : decode cL_draw 17 = .ok (.irem, 1) := by decide +kernel
theorem dL_draw_18 : decode cL_draw 18 = .ok (.invokestatic 48, 3) := by decide +kernel
theorem dL_draw_21 : decode cL_draw 21 = .ok (.aload_n 0, 1) := by decide +kernel
theorem dL_draw_22 : decode cL_draw 22 = .ok (.getfield 38, 3) := by decide +kernel
theorem dL_draw_25 : decode cL_draw 25 = .ok (.ldc 52, 2) := by decide +kernel
theorem dL_draw_27 : decode cL_draw 27 = .ok (.imul, 1) := by decide +kernel
theorem dL_draw_28 : decode cL_draw 28 = .ok (.iadd, 1) := by decide +kernel
theorem dL_draw_29 : decode cL_draw 29 = .ok (.istore_n 2, 1) := by decide +kernel
theorem dL_draw_30 : decode cL_draw 30 = .ok (.aload_n 0, 1) := by decide +kernel
theorem dL_draw_31 : decode cL_draw 31 = .ok (.dup, 1) := by decide +kernel
theorem dL_draw_32 : decode cL_draw 32 = .ok (.getfield 38, 3) := by decide +kernel
theorem dL_draw_35 : decode cL_draw 35 = .ok (.iconst 1, 1) := by decide +kernel
theorem dL_draw_36 : decode cL_draw 36 = .ok (.iadd, 1) := by decide +kernel
theorem dL_draw_37 : decode cL_draw 37 = .ok (.putfield 38, 3) := by decide +kernel
theorem dL_draw_40 : decode cL_draw 40 = .ok (.iload_n 2, 1) := by decide +kernel
theorem dL_draw_41 : decode cL_draw 41 = .ok (.iload_n 2, 1) := by decide +kernel
theorem dL_draw_42 : decode cL_draw 42 = .ok (.bipush 15, 2) := by decide +kernel
theorem dL_draw_44 : decode cL_draw 44 = .ok (.iushr, 1) := by decide +kernel
theorem dL_draw_45 : decode cL_draw 45 = .ok (.ixor, 1) := by decide +kernel
theorem dL_draw_46 : decode cL_draw 46 = .ok (.istore_n 2, 1) := by decide +kernel
theorem dL_draw_47 : decode cL_draw 47 = .ok (.iload_n 2, 1) := by decide +kernel
theorem dL_draw_48 : decode cL_draw 48 = .ok (.ldc 53, 2) := by decide +kernel
theorem dL_draw_50 : decode cL_draw 50 = .ok (.imul, 1) := by decide +kernel
theorem dL_draw_51 : decode cL_draw 51 = .ok (.istore_n 2, 1) := by decide +kernel
theorem dL_draw_52 : decode cL_draw 52 = .ok (.iload_n 2, 1) := by decide +kernel
theorem dL_draw_53 : decode cL_draw 53 = .ok (.iload_n 2, 1) := by decide +kernel
theorem dL_draw_54 : decode cL_draw 54 = .ok (.bipush 13, 2) := by decide +kernel
theorem dL_draw_56 : decode cL_draw 56 = .ok (.iushr, 1) := by decide +kernel
theorem dL_draw_57 : decode cL_draw 57 = .ok (.ixor, 1) := by decide +kernel
theorem dL_draw_58 : decode cL_draw 58 = .ok (.istore_n 2, 1) := by decide +kernel
theorem dL_draw_59 : decode cL_draw 59 = .ok (.iload_n 2, 1) := by decide +kernel
theorem dL_draw_60 : decode cL_draw 60 = .ok (.ldc 54, 2) := by decide +kernel
theorem dL_draw_62 : decode cL_draw 62 = .ok (.iand, 1) := by decide +kernel
theorem dL_draw_63 : decode cL_draw 63 = .ok (.iload_n 1, 1) := by decide +kernel
theorem dL_draw_64 : decode cL_draw 64 = .ok (.irem, 1) := by decide +kernel
theorem dL_draw_65 : decode cL_draw 65 = .ok (.ireturn, 1) := by decide +kernel
theorem dL_appendText_0 : decode cL_appendText 0 = .ok (.aload_n 0, 1) := by decide +kernel
theorem dL_appendText_1 : decode cL_appendText 1 = .ok (.iload_n 1, 1) := by decide +kernel
theorem dL_appendText_2 : decode cL_appendText 2 = .ok (.invokevirtual 55, 3) := by decide +kernel
theorem dL_appendText_5 : decode cL_appendText 5 = .ok (.ireturn, 1) := by decide +kernel
theorem dL_appendText_6 : decode cL_appendText 6 = .ok (.astore_n 2, 1) := by decide +kernel
theorem dL_appendText_7 : decode cL_appendText 7 = .ok (.bipush (-103), 2) := by decide +kernel
theorem dL_appendText_9 : decode cL_appendText 9 = .ok (.ireturn, 1) := by decide +kernel
theorem dL_truncateText_0 : decode cL_truncateText 0 = .ok (.aload_n 0, 1) := by decide +kernel
theorem dL_truncateText_1 : decode cL_truncateText 1 = .ok (.iload_n 1, 1) := by decide +kernel
theorem dL_truncateText_2 : decode cL_truncateText 2 = .ok (.invokevirtual 61, 3) := by decide +kernel
theorem dL_truncateText_5 : decode cL_truncateText 5 = .ok (.ireturn, 1) := by decide +kernel
theorem dL_truncateText_6 : decode cL_truncateText 6 = .ok (.astore_n 2, 1) := by decide +kernel
theorem dL_truncateText_7 : decode cL_truncateText 7 = .ok (.bipush (-102), 2) := by decide +kernel
theorem dL_truncateText_9 : decode cL_truncateText 9 = .ok (.ireturn, 1) := by decide +kernel
theorem dL_hikerIn_0 : decode cL_hikerIn 0 = .ok (.aload_n 0, 1) := by decide +kernel
theorem dL_hikerIn_1 : decode cL_hikerIn 1 = .ok (.iload_n 1, 1) := by decide +kernel
theorem dL_hikerIn_2 : decode cL_hikerIn 2 = .ok (.invokevirtual 66, 3) := by decide +kernel
theorem dL_hikerIn_5 : decode cL_hikerIn 5 = .ok (.ireturn, 1) := by decide +kernel
theorem dL_hikerIn_6 : decode cL_hikerIn 6 = .ok (.astore_n 2, 1) := by decide +kernel
theorem dL_hikerIn_7 : decode cL_hikerIn 7 = .ok (.bipush (-101), 2) := by decide +kernel
theorem dL_hikerIn_9 : decode cL_hikerIn 9 = .ok (.ireturn, 1) := by decide +kernel
theorem dL_noiseIn_0 : decode cL_noiseIn 0 = .ok (.aload_n 0, 1) := by decide +kernel
theorem dL_noiseIn_1 : decode cL_noiseIn 1 = .ok (.iload_n 1, 1) := by decide +kernel
theorem dL_noiseIn_2 : decode cL_noiseIn 2 = .ok (.invokevirtual 71, 3) := by decide +kernel
theorem dL_noiseIn_5 : decode cL_noiseIn 5 = .ok (.ireturn, 1) := by decide +kernel
theorem dL_noiseIn_6 : decode cL_noiseIn 6 = .ok (.astore_n 2, 1) := by decide +kernel
theorem dL_noiseIn_7 : decode cL_noiseIn 7 = .ok (.bipush (-101), 2) := by decide +kernel
theorem dL_noiseIn_9 : decode cL_noiseIn 9 = .ok (.ireturn, 1) := by decide +kernel
theorem dL_userOf_0 : decode cL_userOf 0 = .ok (.aload_n 0, 1) := by decide +kernel
theorem dL_userOf_1 : decode cL_userOf 1 = .ok (.iload_n 1, 1) := by decide +kernel
theorem dL_userOf_2 : decode cL_userOf 2 = .ok (.invokevirtual 74, 3) := by decide +kernel
theorem dL_userOf_5 : decode cL_userOf 5 = .ok (.ireturn, 1) := by decide +kernel
theorem dL_userOf_6 : decode cL_userOf 6 = .ok (.astore_n 2, 1) := by decide +kernel
theorem dL_userOf_7 : decode cL_userOf 7 = .ok (.bipush (-101), 2) := by decide +kernel
theorem dL_userOf_9 : decode cL_userOf 9 = .ok (.ireturn, 1) := by decide +kernel
theorem dL_bunkOf_0 : decode cL_bunkOf 0 = .ok (.aload_n 0, 1) := by decide +kernel
theorem dL_bunkOf_1 : decode cL_bunkOf 1 = .ok (.iload_n 1, 1) := by decide +kernel
theorem dL_bunkOf_2 : decode cL_bunkOf 2 = .ok (.invokevirtual 77, 3) := by decide +kernel
theorem dL_bunkOf_5 : decode cL_bunkOf 5 = .ok (.ireturn, 1) := by decide +kernel
theorem dL_bunkOf_6 : decode cL_bunkOf 6 = .ok (.astore_n 2, 1) := by decide +kernel
theorem dL_bunkOf_7 : decode cL_bunkOf 7 = .ok (.bipush (-101), 2) := by decide +kernel
theorem dL_bunkOf_9 : decode cL_bunkOf 9 = .ok (.ireturn, 1) := by decide +kernel
theorem dL_blanketOf_0 : decode cL_blanketOf 0 = .ok (.aload_n 0, 1) := by decide +kernel
theorem dL_blanketOf_1 : decode cL_blanketOf 1 = .ok (.iload_n 1, 1) := by decide +kernel
theorem dL_blanketOf_2 : decode cL_blanketOf 2 = .ok (.invokevirtual 80, 3) := by decide +kernel
theorem dL_blanketOf_5 : decode cL_blanketOf 5 = .ok (.ireturn, 1) := by decide +kernel
theorem dL_blanketOf_6 : decode cL_blanketOf 6 = .ok (.astore_n 2, 1) := by decide +kernel
theorem dL_blanketOf_7 : decode cL_blanketOf 7 = .ok (.bipush (-101), 2) := by decide +kernel
theorem dL_blanketOf_9 : decode cL_blanketOf 9 = .ok (.ireturn, 1) := by decide +kernel
theorem dL_warmth_0 : decode cL_warmth 0 = .ok (.aload_n 0, 1) := by decide +kernel
theorem dL_warmth_1 : decode cL_warmth 1 = .ok (.iload_n 1, 1) := by decide +kernel
theorem dL_warmth_2 : decode cL_warmth 2 = .ok (.invokevirtual 83, 3) := by decide +kernel
theorem dL_warmth_5 : decode cL_warmth 5 = .ok (.ireturn, 1) := by decide +kernel
theorem dL_warmth_6 : decode cL_warmth 6 = .ok (.astore_n 2, 1) := by decide +kernel
theorem dL_warmth_7 : decode cL_warmth 7 = .ok (.bipush (-101), 2) := by decide +kernel
theorem dL_warmth_9 : decode cL_warmth 9 = .ok (.ireturn, 1) := by decide +kernel
theorem dL_activity_0 : decode cL_activity 0 = .ok (.aload_n 0, 1) := by decide +kernel
theorem dL_activity_1 : decode cL_activity 1 = .ok (.iload_n 1, 1) := by decide +kernel
theorem dL_activity_2 : decode cL_activity 2 = .ok (.invokevirtual 86, 3) := by decide +kernel
theorem dL_activity_5 : decode cL_activity 5 = .ok (.ireturn, 1) := by decide +kernel
theorem dL_activity_6 : decode cL_activity 6 = .ok (.astore_n 2, 1) := by decide +kernel
theorem dL_activity_7 : decode cL_activity 7 = .ok (.bipush (-101), 2) := by decide +kernel
theorem dL_activity_9 : decode cL_activity 9 = .ok (.ireturn, 1) := by decide +kernel
theorem dL_hoursOf_0 : decode cL_hoursOf 0 = .ok (.aload_n 0, 1) := by decide +kernel
theorem dL_hoursOf_1 : decode cL_hoursOf 1 = .ok (.iload_n 1, 1) := by decide +kernel
theorem dL_hoursOf_2 : decode cL_hoursOf 2 = .ok (.iload_n 2, 1) := by decide +kernel
theorem dL_hoursOf_3 : decode cL_hoursOf 3 = .ok (.invokevirtual 89, 3) := by decide +kernel
theorem dL_hoursOf_6 : decode cL_hoursOf 6 = .ok (.ireturn, 1) := by decide +kernel
theorem dL_hoursOf_7 : decode cL_hoursOf 7 = .ok (.astore_n 3, 1) := by decide +kernel
theorem dL_hoursOf_8 : decode cL_hoursOf 8 = .ok (.bipush (-101), 2) := by decide +kernel
theorem dL_hoursOf_10 : decode cL_hoursOf 10 = .ok (.ireturn, 1) := by decide +kernel
theorem dL_hoursOf_11 : decode cL_hoursOf 11 = .ok (.astore_n 3, 1) := by decide +kernel
theorem dL_hoursOf_12 : decode cL_hoursOf 12 = .ok (.bipush (-102), 2) := by decide +kernel
theorem dL_hoursOf_14 : decode cL_hoursOf 14 = .ok (.ireturn, 1) := by decide +kernel
theorem dL_coinsOf_0 : decode cL_coinsOf 0 = .ok (.aload_n 0, 1) := by decide +kernel
theorem dL_coinsOf_1 : decode cL_coinsOf 1 = .ok (.iload_n 1, 1) := by decide +kernel
theorem dL_coinsOf_2 : decode cL_coinsOf 2 = .ok (.invokevirtual 92, 3) := by decide +kernel
theorem dL_coinsOf_5 : decode cL_coinsOf 5 = .ok (.ireturn, 1) := by decide +kernel
theorem dL_coinsOf_6 : decode cL_coinsOf 6 = .ok (.astore_n 2, 1) := by decide +kernel
theorem dL_coinsOf_7 : decode cL_coinsOf 7 = .ok (.bipush (-101), 2) := by decide +kernel
theorem dL_coinsOf_9 : decode cL_coinsOf 9 = .ok (.ireturn, 1) := by decide +kernel
theorem dL_debtOf_0 : decode cL_debtOf 0 = .ok (.aload_n 0, 1) := by decide +kernel
theorem dL_debtOf_1 : decode cL_debtOf 1 = .ok (.iload_n 1, 1) := by decide +kernel
theorem dL_debtOf_2 : decode cL_debtOf 2 = .ok (.invokevirtual 95, 3) := by decide +kernel
theorem dL_debtOf_5 : decode cL_debtOf 5 = .ok (.ireturn, 1) := by decide +kernel
theorem dL_debtOf_6 : decode cL_debtOf 6 = .ok (.astore_n 2, 1) := by decide +kernel
theorem dL_debtOf_7 : decode cL_debtOf 7 = .ok (.bipush (-101), 2) := by decide +kernel
theorem dL_debtOf_9 : decode cL_debtOf 9 = .ok (.ireturn, 1) := by decide +kernel
theorem dL_takeBlanket_0 : decode cL_takeBlanket 0 = .ok (.aload_n 0, 1) := by decide +kernel
theorem dL_takeBlanket_1 : decode cL_takeBlanket 1 = .ok (.iload_n 1, 1) := by decide +kernel
theorem dL_takeBlanket_2 : decode cL_takeBlanket 2 = .ok (.iload_n 2, 1) := by decide +kernel
theorem dL_takeBlanket_3 : decode cL_takeBlanket 3 = .ok (.invokevirtual 98, 3) := by decide +kernel
theorem dL_takeBlanket_6 : decode cL_takeBlanket 6 = .ok (.ireturn, 1) := by decide +kernel
theorem dL_takeBlanket_7 : decode cL_takeBlanket 7 = .ok (.astore_n 3, 1) := by decide +kernel
theorem dL_takeBlanket_8 : decode cL_takeBlanket 8 = .ok (.bipush (-101), 2) := by decide +kernel
theorem dL_takeBlanket_10 : decode cL_takeBlanket 10 = .ok (.ireturn, 1) := by decide +kernel
theorem dL_takeBlanket_11 : decode cL_takeBlanket 11 = .ok (.astore_n 3, 1) := by decide +kernel
theorem dL_takeBlanket_12 : decode cL_takeBlanket 12 = .ok (.bipush (-103), 2) := by decide +kernel
theorem dL_takeBlanket_14 : decode cL_takeBlanket 14 = .ok (.ireturn, 1) := by decide +kernel
theorem dL_returnBlanket_0 : decode cL_returnBlanket 0 = .ok (.aload_n 0, 1) := by decide +kernel
theorem dL_returnBlanket_1 : decode cL_returnBlanket 1 = .ok (.iload_n 1, 1) := by decide +kernel
theorem dL_returnBlanket_2 : decode cL_returnBlanket 2 = .ok (.invokevirtual 101, 3) := by decide +kernel
theorem dL_returnBlanket_5 : decode cL_returnBlanket 5 = .ok (.ireturn, 1) := by decide +kernel
theorem dL_returnBlanket_6 : decode cL_returnBlanket 6 = .ok (.astore_n 2, 1) := by decide +kernel
theorem dL_returnBlanket_7 : decode cL_returnBlanket 7 = .ok (.bipush (-101), 2) := by decide +kernel
theorem dL_returnBlanket_9 : decode cL_returnBlanket 9 = .ok (.ireturn, 1) := by decide +kernel
theorem dL_returnBlanket_10 : decode cL_returnBlanket 10 = .ok (.astore_n 2, 1) := by decide +kernel
theorem dL_returnBlanket_11 : decode cL_returnBlanket 11 = .ok (.bipush (-103), 2) := by decide +kernel
theorem dL_returnBlanket_13 : decode cL_returnBlanket 13 = .ok (.ireturn, 1) := by decide +kernel
theorem dL_swapBlankets_0 : decode cL_swapBlankets 0 = .ok (.aload_n 0, 1) := by decide +kernel
theorem dL_swapBlankets_1 : decode cL_swapBlankets 1 = .ok (.iload_n 1, 1) := by decide +kernel
theorem dL_swapBlankets_2 : decode cL_swapBlankets 2 = .ok (.iload_n 2, 1) := by decide +kernel
theorem dL_swapBlankets_3 : decode cL_swapBlankets 3 = .ok (.invokevirtual 104, 3) := by decide +kernel
theorem dL_swapBlankets_6 : decode cL_swapBlankets 6 = .ok (.ireturn, 1) := by decide +kernel
theorem dL_swapBlankets_7 : decode cL_swapBlankets 7 = .ok (.astore_n 3, 1) := by decide +kernel
theorem dL_swapBlankets_8 : decode cL_swapBlankets 8 = .ok (.bipush (-101), 2) := by decide +kernel
theorem dL_swapBlankets_10 : decode cL_swapBlankets 10 = .ok (.ireturn, 1) := by decide +kernel
theorem dL_swapBlankets_11 : decode cL_swapBlankets 11 = .ok (.astore_n 3, 1) := by decide +kernel
theorem dL_swapBlankets_12 : decode cL_swapBlankets 12 = .ok (.bipush (-103), 2) := by decide +kernel
theorem dL_swapBlankets_14 : decode cL_swapBlankets 14 = .ok (.ireturn, 1) := by decide +kernel
theorem dL_lieDown_0 : decode cL_lieDown 0 = .ok (.aload_n 0, 1) := by decide +kernel
theorem dL_lieDown_1 : decode cL_lieDown 1 = .ok (.iload_n 1, 1) := by decide +kernel
theorem dL_lieDown_2 : decode cL_lieDown 2 = .ok (.iload_n 2, 1) := by decide +kernel
theorem dL_lieDown_3 : decode cL_lieDown 3 = .ok (.invokevirtual 107, 3) := by decide +kernel
theorem dL_lieDown_6 : decode cL_lieDown 6 = .ok (.ireturn, 1) := by decide +kernel
theorem dL_lieDown_7 : decode cL_lieDown 7 = .ok (.astore_n 3, 1) := by decide +kernel
theorem dL_lieDown_8 : decode cL_lieDown 8 = .ok (.bipush (-101), 2) := by decide +kernel
theorem dL_lieDown_10 : decode cL_lieDown 10 = .ok (.ireturn, 1) := by decide +kernel
theorem dL_lieDown_11 : decode cL_lieDown 11 = .ok (.astore_n 3, 1) := by decide +kernel
theorem dL_lieDown_12 : decode cL_lieDown 12 = .ok (.bipush (-103), 2) := by decide +kernel
theorem dL_lieDown_14 : decode cL_lieDown 14 = .ok (.ireturn, 1) := by decide +kernel
theorem dL_getUp_0 : decode cL_getUp 0 = .ok (.aload_n 0, 1) := by decide +kernel
theorem dL_getUp_1 : decode cL_getUp 1 = .ok (.iload_n 1, 1) := by decide +kernel
theorem dL_getUp_2 : decode cL_getUp 2 = .ok (.invokevirtual 110, 3) := by decide +kernel
theorem dL_getUp_5 : decode cL_getUp 5 = .ok (.ireturn, 1) := by decide +kernel
theorem dL_getUp_6 : decode cL_getUp 6 = .ok (.astore_n 2, 1) := by decide +kernel
theorem dL_getUp_7 : decode cL_getUp 7 = .ok (.bipush (-101), 2) := by decide +kernel
theorem dL_getUp_9 : decode cL_getUp 9 = .ok (.ireturn, 1) := by decide +kernel
theorem dL_getUp_10 : decode cL_getUp 10 = .ok (.astore_n 2, 1) := by decide +kernel
theorem dL_getUp_11 : decode cL_getUp 11 = .ok (.bipush (-103), 2) := by decide +kernel
theorem dL_getUp_13 : decode cL_getUp 13 = .ok (.ireturn, 1) := by decide +kernel
theorem dL_setRate_0 : decode cL_setRate 0 = .ok (.aload_n 0, 1) := by decide +kernel
theorem dL_setRate_1 : decode cL_setRate 1 = .ok (.iload_n 1, 1) := by decide +kernel
theorem dL_setRate_2 : decode cL_setRate 2 = .ok (.invokevirtual 113, 3) := by decide +kernel
theorem dL_setRate_5 : decode cL_setRate 5 = .ok (.ireturn, 1) := by decide +kernel
theorem dL_setRate_6 : decode cL_setRate 6 = .ok (.astore_n 2, 1) := by decide +kernel
theorem dL_setRate_7 : decode cL_setRate 7 = .ok (.bipush (-102), 2) := by decide +kernel
theorem dL_setRate_9 : decode cL_setRate 9 = .ok (.ireturn, 1) := by decide +kernel
theorem dL_fetchLogs_0 : decode cL_fetchLogs 0 = .ok (.aload_n 0, 1) := by decide +kernel
theorem dL_fetchLogs_1 : decode cL_fetchLogs 1 = .ok (.iload_n 1, 1) := by decide +kernel
theorem dL_fetchLogs_2 : decode cL_fetchLogs 2 = .ok (.invokevirtual 116, 3) := by decide +kernel
theorem dL_fetchLogs_5 : decode cL_fetchLogs 5 = .ok (.ireturn, 1) := by decide +kernel
theorem dL_fetchLogs_6 : decode cL_fetchLogs 6 = .ok (.astore_n 2, 1) := by decide +kernel
theorem dL_fetchLogs_7 : decode cL_fetchLogs 7 = .ok (.bipush (-102), 2) := by decide +kernel
theorem dL_fetchLogs_9 : decode cL_fetchLogs 9 = .ok (.ireturn, 1) := by decide +kernel
theorem dL_fetchLogs_10 : decode cL_fetchLogs 10 = .ok (.astore_n 2, 1) := by decide +kernel
theorem dL_fetchLogs_11 : decode cL_fetchLogs 11 = .ok (.bipush (-103), 2) := by decide +kernel
theorem dL_fetchLogs_13 : decode cL_fetchLogs 13 = .ok (.ireturn, 1) := by decide +kernel
theorem dL_payDebt_0 : decode cL_payDebt 0 = .ok (.aload_n 0, 1) := by decide +kernel
theorem dL_payDebt_1 : decode cL_payDebt 1 = .ok (.iload_n 1, 1) := by decide +kernel
theorem dL_payDebt_2 : decode cL_payDebt 2 = .ok (.iload_n 2, 1) := by decide +kernel
theorem dL_payDebt_3 : decode cL_payDebt 3 = .ok (.invokevirtual 119, 3) := by decide +kernel
theorem dL_payDebt_6 : decode cL_payDebt 6 = .ok (.ireturn, 1) := by decide +kernel
theorem dL_payDebt_7 : decode cL_payDebt 7 = .ok (.astore_n 3, 1) := by decide +kernel
theorem dL_payDebt_8 : decode cL_payDebt 8 = .ok (.bipush (-101), 2) := by decide +kernel
theorem dL_payDebt_10 : decode cL_payDebt 10 = .ok (.ireturn, 1) := by decide +kernel
theorem dL_payDebt_11 : decode cL_payDebt 11 = .ok (.astore_n 3, 1) := by decide +kernel
theorem dL_payDebt_12 : decode cL_payDebt 12 = .ok (.bipush (-102), 2) := by decide +kernel
theorem dL_payDebt_14 : decode cL_payDebt 14 = .ok (.ireturn, 1) := by decide +kernel
theorem dL_payDebt_15 : decode cL_payDebt 15 = .ok (.astore_n 3, 1) := by decide +kernel
theorem dL_payDebt_16 : decode cL_payDebt 16 = .ok (.bipush (-103), 2) := by decide +kernel
theorem dL_payDebt_18 : decode cL_payDebt 18 = .ok (.ireturn, 1) := by decide +kernel
theorem dL_passHours_0 : decode cL_passHours 0 = .ok (.aload_n 0, 1) := by decide +kernel
theorem dL_passHours_1 : decode cL_passHours 1 = .ok (.iload_n 1, 1) := by decide +kernel
theorem dL_passHours_2 : decode cL_passHours 2 = .ok (.invokevirtual 122, 3) := by decide +kernel
theorem dL_passHours_5 : decode cL_passHours 5 = .ok (.ireturn, 1) := by decide +kernel
theorem dL_passHours_6 : decode cL_passHours 6 = .ok (.astore_n 2, 1) := by decide +kernel
theorem dL_passHours_7 : decode cL_passHours 7 = .ok (.bipush (-102), 2) := by decide +kernel
theorem dL_passHours_9 : decode cL_passHours 9 = .ok (.ireturn, 1) := by decide +kernel
theorem dL_passHours_10 : decode cL_passHours 10 = .ok (.astore_n 2, 1) := by decide +kernel
theorem dL_passHours_11 : decode cL_passHours 11 = .ok (.bipush (-103), 2) := by decide +kernel
theorem dL_passHours_13 : decode cL_passHours 13 = .ok (.ireturn, 1) := by decide +kernel
theorem dL_lays_0 : decode cL_lays 0 = .ok (.aload_n 0, 1) := by decide +kernel
theorem dL_lays_1 : decode cL_lays 1 = .ok (.getfield 10, 3) := by decide +kernel
theorem dL_lays_4 : decode cL_lays 4 = .ok (.iconst 0, 1) := by decide +kernel
theorem dL_lays_5 : decode cL_lays 5 = .ok (.invokestatic 125, 3) := by decide +kernel
theorem dL_lays_8 : decode cL_lays 8 = .ok (.ifCond .eq 5, 3) := by decide +kernel
theorem dL_lays_11 : decode cL_lays 11 = .ok (.iconst 0, 1) := by decide +kernel
theorem dL_lays_12 : decode cL_lays 12 = .ok (.ireturn, 1) := by decide +kernel
theorem dL_lays_13 : decode cL_lays 13 = .ok (.iconst 0, 1) := by decide +kernel
theorem dL_lays_14 : decode cL_lays 14 = .ok (.istore_n 2, 1) := by decide +kernel
theorem dL_lays_15 : decode cL_lays 15 = .ok (.iload_n 2, 1) := by decide +kernel
theorem dL_lays_16 : decode cL_lays 16 = .ok (.aload_n 1, 1) := by decide +kernel
theorem dL_lays_17 : decode cL_lays 17 = .ok (.invokevirtual 128, 3) := by decide +kernel
theorem dL_lays_20 : decode cL_lays 20 = .ok (.if_icmp .ge 75, 3) := by decide +kernel
theorem dL_lays_23 : decode cL_lays 23 = .ok (.iconst 0, 1) := by decide +kernel
theorem dL_lays_24 : decode cL_lays 24 = .ok (.istore_n 3, 1) := by decide +kernel
theorem dL_lays_25 : decode cL_lays 25 = .ok (.iconst 0, 1) := by decide +kernel
theorem dL_lays_26 : decode cL_lays 26 = .ok (.istore 4, 2) := by decide +kernel
theorem dL_lays_28 : decode cL_lays 28 = .ok (.iload 4, 2) := by decide +kernel
theorem dL_lays_30 : decode cL_lays 30 = .ok (.iconst 4, 1) := by decide +kernel
theorem dL_lays_31 : decode cL_lays 31 = .ok (.if_icmp .ge 42, 3) := by decide +kernel
theorem dL_lays_34 : decode cL_lays 34 = .ok (.iload_n 3, 1) := by decide +kernel
theorem dL_lays_35 : decode cL_lays 35 = .ok (.bipush 8, 2) := by decide +kernel
theorem dL_lays_37 : decode cL_lays 37 = .ok (.ishl, 1) := by decide +kernel
theorem dL_lays_38 : decode cL_lays 38 = .ok (.iload_n 2, 1) := by decide +kernel
theorem dL_lays_39 : decode cL_lays 39 = .ok (.iload 4, 2) := by decide +kernel
theorem dL_lays_41 : decode cL_lays 41 = .ok (.iadd, 1) := by decide +kernel
theorem dL_lays_42 : decode cL_lays 42 = .ok (.aload_n 1, 1) := by decide +kernel
theorem dL_lays_43 : decode cL_lays 43 = .ok (.invokevirtual 128, 3) := by decide +kernel
theorem dL_lays_46 : decode cL_lays 46 = .ok (.if_icmp .ge 18, 3) := by decide +kernel
theorem dL_lays_49 : decode cL_lays 49 = .ok (.aload_n 1, 1) := by decide +kernel
theorem dL_lays_50 : decode cL_lays 50 = .ok (.iload_n 2, 1) := by decide +kernel
theorem dL_lays_51 : decode cL_lays 51 = .ok (.iload 4, 2) := by decide +kernel
theorem dL_lays_53 : decode cL_lays 53 = .ok (.iadd, 1) := by decide +kernel
theorem dL_lays_54 : decode cL_lays 54 = .ok (.invokevirtual 134, 3) := by decide +kernel
theorem dL_lays_57 : decode cL_lays 57 = .ok (.sipush 255, 3) := by decide +kernel
theorem dL_lays_60 : decode cL_lays 60 = .ok (.iand, 1) := by decide +kernel
theorem dL_lays_61 : decode cL_lays 61 = .ok (.goto 4, 3) := by decide +kernel
theorem dL_lays_64 : decode cL_lays 64 = .ok (.iconst 0, 1) := by decide +kernel
theorem dL_lays_65 : decode cL_lays 65 = .ok (.ior, 1) := by decide +kernel
theorem dL_lays_66 : decode cL_lays 66 = .ok (.istore_n 3, 1) := by decide +kernel
theorem dL_lays_67 : decode cL_lays 67 = .ok (.iinc 4 1, 3) := by decide +kernel
theorem dL_lays_70 : decode cL_lays 70 = .ok (.goto (-42), 3) := by decide +kernel
theorem dL_lays_73 : decode cL_lays 73 = .ok (.aload_n 0, 1) := by decide +kernel
theorem dL_lays_74 : decode cL_lays 74 = .ok (.getfield 10, 3) := by decide +kernel
theorem dL_lays_77 : decode cL_lays 77 = .ok (.iload_n 3, 1) := by decide +kernel
theorem dL_lays_78 : decode cL_lays 78 = .ok (.invokestatic 138, 3) := by decide +kernel
theorem dL_lays_81 : decode cL_lays 81 = .ok (.iload_n 2, 1) := by decide +kernel
theorem dL_lays_82 : decode cL_lays 82 = .ok (.iconst 4, 1) := by decide +kernel
theorem dL_lays_83 : decode cL_lays 83 = .ok (.iadd, 1) := by decide +kernel
theorem dL_lays_84 : decode cL_lays 84 = .ok (.if_icmp .eq 5, 3) := by decide +kernel
theorem dL_lays_87 : decode cL_lays 87 = .ok (.iconst 0, 1) := by decide +kernel
theorem dL_lays_88 : decode cL_lays 88 = .ok (.ireturn, 1) := by decide +kernel
theorem dL_lays_89 : decode cL_lays 89 = .ok (.iinc 2 4, 3) := by decide +kernel
theorem dL_lays_92 : decode cL_lays 92 = .ok (.goto (-77), 3) := by decide +kernel
theorem dL_lays_95 : decode cL_lays 95 = .ok (.aload_n 0, 1) := by decide +kernel
theorem dL_lays_96 : decode cL_lays 96 = .ok (.getfield 10, 3) := by decide +kernel
theorem dL_lays_99 : decode cL_lays 99 = .ok (.aload_n 1, 1) := by decide +kernel
theorem dL_lays_100 : decode cL_lays 100 = .ok (.invokevirtual 128, 3) := by decide +kernel
theorem dL_lays_103 : decode cL_lays 103 = .ok (.invokestatic 125, 3) := by decide +kernel
theorem dL_lays_106 : decode cL_lays 106 = .ok (.aload_n 1, 1) := by decide +kernel
theorem dL_lays_107 : decode cL_lays 107 = .ok (.invokevirtual 128, 3) := by decide +kernel
theorem dL_lays_110 : decode cL_lays 110 = .ok (.if_icmp .ne 7, 3) := by decide +kernel
theorem dL_lays_113 : decode cL_lays 113 = .ok (.iconst 1, 1) := by decide +kernel
theorem dL_lays_114 : decode cL_lays 114 = .ok (.goto 4, 3) := by decide +kernel
theorem dL_lays_117 : decode cL_lays 117 = .ok (.iconst 0, 1) := by decide +kernel
theorem dL_lays_118 : decode cL_lays 118 = .ok (.ireturn, 1) := by decide +kernel
theorem dL_ranked_0 : decode cL_ranked 0 = .ok (.aload_n 0, 1) := by decide +kernel
theorem dL_ranked_1 : decode cL_ranked 1 = .ok (.iload_n 1, 1) := by decide +kernel
theorem dL_ranked_2 : decode cL_ranked 2 = .ok (.invokevirtual 140, 3) := by decide +kernel
theorem dL_ranked_5 : decode cL_ranked 5 = .ok (.ireturn, 1) := by decide +kernel
theorem dL_ranked_6 : decode cL_ranked 6 = .ok (.astore_n 2, 1) := by decide +kernel
theorem dL_ranked_7 : decode cL_ranked 7 = .ok (.bipush (-104), 2) := by decide +kernel
theorem dL_ranked_9 : decode cL_ranked 9 = .ok (.ireturn, 1) := by decide +kernel
theorem dL_back_0 : decode cL_back 0 = .ok (.aload_n 0, 1) := by decide +kernel
theorem dL_back_1 : decode cL_back 1 = .ok (.invokevirtual 145, 3) := by decide +kernel
theorem dL_back_4 : decode cL_back 4 = .ok (.ireturn, 1) := by decide +kernel
theorem dL_back_5 : decode cL_back 5 = .ok (.astore_n 1, 1) := by decide +kernel
theorem dL_back_6 : decode cL_back 6 = .ok (.bipush (-103), 2) := by decide +kernel
theorem dL_back_8 : decode cL_back 8 = .ok (.ireturn, 1) := by decide +kernel
theorem dL_loads_0 : decode cL_loads 0 = .ok (.aload_n 0, 1) := by decide +kernel
theorem dL_loads_1 : decode cL_loads 1 = .ok (.getfield 19, 3) := by decide +kernel
theorem dL_loads_4 : decode cL_loads 4 = .ok (.invokevirtual 148, 3) := by decide +kernel
theorem dL_loads_7 : decode cL_loads 7 = .ok (.aload_n 0, 1) := by decide +kernel
theorem dL_loads_8 : decode cL_loads 8 = .ok (.aload_n 0, 1) := by decide +kernel
theorem dL_loads_9 : decode cL_loads 9 = .ok (.aload_n 0, 1) := by decide +kernel
theorem dL_loads_10 : decode cL_loads 10 = .ok (.aload_n 0, 1) := by decide +kernel
theorem dL_loads_11 : decode cL_loads 11 = .ok (.aload_n 0, 1) := by decide +kernel
theorem dL_loads_12 : decode cL_loads 12 = .ok (.aload_n 0, 1) := by decide +kernel
theorem dL_loads_13 : decode cL_loads 13 = .ok (.iconst 0, 1) := by decide +kernel
theorem dL_loads_14 : decode cL_loads 14 = .ok (.dup_x1, 1) := by decide +kernel
theorem dL_loads_15 : decode cL_loads 15 = .ok (.putfield 151, 3) := by decide +kernel
theorem dL_loads_18 : decode cL_loads 18 = .ok (.dup_x1, 1) := by decide +kernel
theorem dL_loads_19 : decode cL_loads 19 = .ok (.putfield 154, 3) := by decide +kernel
theorem dL_loads_22 : decode cL_loads 22 = .ok (.dup_x1, 1) := by decide +kernel
theorem dL_loads_23 : decode cL_loads 23 = .ok (.putfield 157, 3) := by decide +kernel
theorem dL_loads_26 : decode cL_loads 26 = .ok (.dup_x1, 1) := by decide +kernel
theorem dL_loads_27 : decode cL_loads 27 = .ok (.putfield 160, 3) := by decide +kernel
theorem dL_loads_30 : decode cL_loads 30 = .ok (.dup_x1, 1) := by decide +kernel
theorem dL_loads_31 : decode cL_loads 31 = .ok (.putfield 163, 3) := by decide +kernel
theorem dL_loads_34 : decode cL_loads 34 = .ok (.putfield 166, 3) := by decide +kernel
theorem dL_loads_37 : decode cL_loads 37 = .ok (.aload_n 0, 1) := by decide +kernel
theorem dL_loads_38 : decode cL_loads 38 = .ok (.aload_n 0, 1) := by decide +kernel
theorem dL_loads_39 : decode cL_loads 39 = .ok (.bipush 100, 2) := by decide +kernel
theorem dL_loads_41 : decode cL_loads 41 = .ok (.invokevirtual 169, 3) := by decide +kernel
theorem dL_loads_44 : decode cL_loads 44 = .ok (.putfield 172, 3) := by decide +kernel
theorem dL_loads_47 : decode cL_loads 47 = .ok (.aload_n 0, 1) := by decide +kernel
theorem dL_loads_48 : decode cL_loads 48 = .ok (.iconst 1, 1) := by decide +kernel
theorem dL_loads_49 : decode cL_loads 49 = .ok (.aload_n 0, 1) := by decide +kernel
theorem dL_loads_50 : decode cL_loads 50 = .ok (.bipush 8, 2) := by decide +kernel
theorem dL_loads_52 : decode cL_loads 52 = .ok (.invokevirtual 169, 3) := by decide +kernel
theorem dL_loads_55 : decode cL_loads 55 = .ok (.iadd, 1) := by decide +kernel
theorem dL_loads_56 : decode cL_loads 56 = .ok (.putfield 175, 3) := by decide +kernel
theorem dL_loads_59 : decode cL_loads 59 = .ok (.aload_n 0, 1) := by decide +kernel
theorem dL_loads_60 : decode cL_loads 60 = .ok (.aload_n 0, 1) := by decide +kernel
theorem dL_loads_61 : decode cL_loads 61 = .ok (.bipush 7, 2) := by decide +kernel
theorem dL_loads_63 : decode cL_loads 63 = .ok (.invokevirtual 169, 3) := by decide +kernel
theorem dL_loads_66 : decode cL_loads 66 = .ok (.putfield 178, 3) := by decide +kernel
theorem dL_loads_69 : decode cL_loads 69 = .ok (.aload_n 0, 1) := by decide +kernel
theorem dL_loads_70 : decode cL_loads 70 = .ok (.iconst 1, 1) := by decide +kernel
theorem dL_loads_71 : decode cL_loads 71 = .ok (.aload_n 0, 1) := by decide +kernel
theorem dL_loads_72 : decode cL_loads 72 = .ok (.bipush 6, 2) := by decide +kernel
theorem dL_loads_74 : decode cL_loads 74 = .ok (.invokevirtual 169, 3) := by decide +kernel
theorem dL_loads_77 : decode cL_loads 77 = .ok (.iadd, 1) := by decide +kernel
theorem dL_loads_78 : decode cL_loads 78 = .ok (.putfield 181, 3) := by decide +kernel
theorem dL_loads_81 : decode cL_loads 81 = .ok (.new 184, 3) := by decide +kernel
theorem dL_loads_84 : decode cL_loads 84 = .ok (.dup, 1) := by decide +kernel
theorem dL_loads_85 : decode cL_loads 85 = .ok (.ldc 186, 2) := by decide +kernel
theorem dL_loads_87 : decode cL_loads 87 = .ok (.invokespecial 188, 3) := by decide +kernel
theorem dL_loads_90 : decode cL_loads 90 = .ok (.aload_n 0, 1) := by decide +kernel
theorem dL_loads_91 : decode cL_loads 91 = .ok (.getfield 172, 3) := by decide +kernel
theorem dL_loads_94 : decode cL_loads 94 = .ok (.invokevirtual 191, 3) := by decide +kernel
theorem dL_loads_97 : decode cL_loads 97 = .ok (.ldc 195, 2) := by decide +kernel
theorem dL_loads_99 : decode cL_loads 99 = .ok (.invokevirtual 197, 3) := by decide +kernel
theorem dL_loads_102 : decode cL_loads 102 = .ok (.astore_n 1, 1) := by decide +kernel
theorem dL_loads_103 : decode cL_loads 103 = .ok (.iconst 0, 1) := by decide +kernel
theorem dL_loads_104 : decode cL_loads 104 = .ok (.istore_n 2, 1) := by decide +kernel
theorem dL_loads_105 : decode cL_loads 105 = .ok (.iload_n 2, 1) := by decide +kernel
theorem dL_loads_106 : decode cL_loads 106 = .ok (.aload_n 0, 1) := by decide +kernel
theorem dL_loads_107 : decode cL_loads 107 = .ok (.getfield 175, 3) := by decide +kernel
theorem dL_loads_110 : decode cL_loads 110 = .ok (.if_icmp .ge 32, 3) := by decide +kernel
theorem dL_loads_113 : decode cL_loads 113 = .ok (.aload_n 1, 1) := by decide +kernel
theorem dL_loads_114 : decode cL_loads 114 = .ok (.bipush 32, 2) := by decide +kernel
theorem dL_loads_116 : decode cL_loads 116 = .ok (.invokevirtual 200, 3) := by decide +kernel
theorem dL_loads_119 : decode cL_loads 119 = .ok (.aload_n 0, 1) := by decide +kernel
theorem dL_loads_120 : decode cL_loads 120 = .ok (.getfield 23, 3) := by decide +kernel
theorem dL_loads_123 : decode cL_loads 123 = .ok (.iload_n 2, 1) := by decide +kernel
theorem dL_loads_124 : decode cL_loads 124 = .ok (.aload_n 0, 1) := by decide +kernel
theorem dL_loads_125 : decode cL_loads 125 = .ok (.bipush 6, 2) := by decide +kernel
theorem dL_loads_127 : decode cL_loads 127 = .ok (.invokevirtual 169, 3) := by decide +kernel
theorem dL_loads_130 : decode cL_loads 130 = .ok (.dup_x2, 1) := by decide +kernel
theorem dL_loads_131 : decode cL_loads 131 = .ok (.iastore, 1) := by decide +kernel
theorem dL_loads_132 : decode cL_loads 132 = .ok (.invokevirtual 191, 3) := by decide +kernel
theorem dL_loads_135 : decode cL_loads 135 = .ok (.pop, 1) := by decide +kernel
theorem dL_loads_136 : decode cL_loads 136 = .ok (.iinc 2 1, 3) := by decide +kernel
theorem dL_loads_139 : decode cL_loads 139 = .ok (.goto (-34), 3) := by decide +kernel
theorem dL_loads_142 : decode cL_loads 142 = .ok (.aload_n 1, 1) := by decide +kernel
theorem dL_loads_143 : decode cL_loads 143 = .ok (.ldc 203, 2) := by decide +kernel
theorem dL_loads_145 : decode cL_loads 145 = .ok (.invokevirtual 197, 3) := by decide +kernel
theorem dL_loads_148 : decode cL_loads 148 = .ok (.pop, 1) := by decide +kernel
theorem dL_loads_149 : decode cL_loads 149 = .ok (.iconst 0, 1) := by decide +kernel
theorem dL_loads_150 : decode cL_loads 150 = .ok (.istore_n 2, 1) := by decide +kernel
theorem dL_loads_151 : decode cL_loads 151 = .ok (.iload_n 2, 1) := by decide +kernel
theorem dL_loads_152 : decode cL_loads 152 = .ok (.aload_n 0, 1) := by decide +kernel
theorem dL_loads_153 : decode cL_loads 153 = .ok (.getfield 178, 3) := by decide +kernel
theorem dL_loads_156 : decode cL_loads 156 = .ok (.if_icmp .ge 34, 3) := by decide +kernel
theorem dL_loads_159 : decode cL_loads 159 = .ok (.aload_n 1, 1) := by decide +kernel
theorem dL_loads_160 : decode cL_loads 160 = .ok (.bipush 32, 2) := by decide +kernel
theorem dL_loads_162 : decode cL_loads 162 = .ok (.invokevirtual 200, 3) := by decide +kernel
theorem dL_loads_165 : decode cL_loads 165 = .ok (.aload_n 0, 1) := by decide +kernel
theorem dL_loads_166 : decode cL_loads 166 = .ok (.getfield 27, 3) := by decide +kernel
theorem dL_loads_169 : decode cL_loads 169 = .ok (.iload_n 2, 1) := by decide +kernel
theorem dL_loads_170 : decode cL_loads 170 = .ok (.iconst 1, 1) := by decide +kernel
theorem dL_loads_171 : decode cL_loads 171 = .ok (.aload_n 0, 1) := by decide +kernel
theorem dL_loads_172 : decode cL_loads 172 = .ok (.bipush 9, 2) := by decide +kernel
theorem dL_loads_174 : decode cL_loads 174 = .ok (.invokevirtual 169, 3) := by decide +kernel
theorem dL_loads_177 : decode cL_loads 177 = .ok (.iadd, 1) := by decide +kernel
theorem dL_loads_178 : decode cL_loads 178 = .ok (.dup_x2, 1) := by decide +kernel
theorem dL_loads_179 : decode cL_loads 179 = .ok (.iastore, 1) := by decide +kernel
theorem dL_loads_180 : decode cL_loads 180 = .ok (.invokevirtual 191, 3) := by decide +kernel
theorem dL_loads_183 : decode cL_loads 183 = .ok (.pop, 1) := by decide +kernel
theorem dL_loads_184 : decode cL_loads 184 = .ok (.iinc 2 1, 3) := by decide +kernel
theorem dL_loads_187 : decode cL_loads 187 = .ok (.goto (-36), 3) := by decide +kernel
theorem dL_loads_190 : decode cL_loads 190 = .ok (.aload_n 1, 1) := by decide +kernel
theorem dL_loads_191 : decode cL_loads 191 = .ok (.ldc 205, 2) := by decide +kernel
theorem dL_loads_193 : decode cL_loads 193 = .ok (.invokevirtual 197, 3) := by decide +kernel
theorem dL_loads_196 : decode cL_loads 196 = .ok (.pop, 1) := by decide +kernel
theorem dL_loads_197 : decode cL_loads 197 = .ok (.iconst 0, 1) := by decide +kernel
theorem dL_loads_198 : decode cL_loads 198 = .ok (.istore_n 2, 1) := by decide +kernel
theorem dL_loads_199 : decode cL_loads 199 = .ok (.iload_n 2, 1) := by decide +kernel
theorem dL_loads_200 : decode cL_loads 200 = .ok (.aload_n 0, 1) := by decide +kernel
theorem dL_loads_201 : decode cL_loads 201 = .ok (.getfield 181, 3) := by decide +kernel
theorem dL_loads_204 : decode cL_loads 204 = .ok (.if_icmp .ge 32, 3) := by decide +kernel
theorem dL_loads_207 : decode cL_loads 207 = .ok (.aload_n 1, 1) := by decide +kernel
theorem dL_loads_208 : decode cL_loads 208 = .ok (.bipush 32, 2) := by decide +kernel
theorem dL_loads_210 : decode cL_loads 210 = .ok (.invokevirtual 200, 3) := by decide +kernel
theorem dL_loads_213 : decode cL_loads 213 = .ok (.aload_n 0, 1) := by decide +kernel
theorem dL_loads_214 : decode cL_loads 214 = .ok (.getfield 30, 3) := by decide +kernel
theorem dL_loads_217 : decode cL_loads 217 = .ok (.iload_n 2, 1) := by decide +kernel
theorem dL_loads_218 : decode cL_loads 218 = .ok (.aload_n 0, 1) := by decide +kernel
theorem dL_loads_219 : decode cL_loads 219 = .ok (.bipush 14, 2) := by decide +kernel
theorem dL_loads_221 : decode cL_loads 221 = .ok (.invokevirtual 169, 3) := by decide +kernel
theorem dL_loads_224 : decode cL_loads 224 = .ok (.dup_x2, 1) := by decide +kernel
theorem dL_loads_225 : decode cL_loads 225 = .ok (.iastore, 1) := by decide +kernel
theorem dL_loads_226 : decode cL_loads 226 = .ok (.invokevirtual 191, 3) := by decide +kernel
theorem dL_loads_229 : decode cL_loads 229 = .ok (.pop, 1) := by decide +kernel
theorem dL_loads_230 : decode cL_loads 230 = .ok (.iinc 2 1, 3) := by decide +kernel
theorem dL_loads_233 : decode cL_loads 233 = .ok (.goto (-34), 3) := by decide +kernel
theorem dL_loads_236 : decode cL_loads 236 = .ok (.aload_n 1, 1) := by decide +kernel
theorem dL_loads_237 : decode cL_loads 237 = .ok (.bipush 59, 2) := by decide +kernel
theorem dL_loads_239 : decode cL_loads 239 = .ok (.invokevirtual 200, 3) := by decide +kernel
theorem dL_loads_242 : decode cL_loads 242 = .ok (.pop, 1) := by decide +kernel
theorem dL_loads_243 : decode cL_loads 243 = .ok (.iconst 1, 1) := by decide +kernel
theorem dL_loads_244 : decode cL_loads 244 = .ok (.aload_n 0, 1) := by decide +kernel
theorem dL_loads_245 : decode cL_loads 245 = .ok (.bipush 7, 2) := by decide +kernel
theorem dL_loads_247 : decode cL_loads 247 = .ok (.invokevirtual 169, 3) := by decide +kernel
theorem dL_loads_250 : decode cL_loads 250 = .ok (.iadd, 1) := by decide +kernel
theorem dL_loads_251 : decode cL_loads 251 = .ok (.istore_n 2, 1) := by decide +kernel
theorem dL_loads_252 : decode cL_loads 252 = .ok (.iload_n 2, 1) := by decide +kernel
theorem dL_loads_253 : decode cL_loads 253 = .ok (.ifCond .le 112, 3) := by decide +kernel
theorem dL_loads_256 : decode cL_loads 256 = .ok (.new 207, 3) := by decide +kernel
theorem dL_loads_259 : decode cL_loads 259 = .ok (.dup, 1) := by decide +kernel
theorem dL_loads_260 : decode cL_loads 260 = .ok (.invokespecial 209, 3) := by decide +kernel
theorem dL_loads_263 : decode cL_loads 263 = .ok (.astore_n 3, 1) := by decide +kernel
theorem dL_loads_264 : decode cL_loads 264 = .ok (.aload_n 3, 1) := by decide +kernel
theorem dL_loads_265 : decode cL_loads 265 = .ok (.aload_n 0, 1) := by decide +kernel
theorem dL_loads_266 : decode cL_loads 266 = .ok (.getfield 19, 3) := by decide +kernel
theorem dL_loads_269 : decode cL_loads 269 = .ok (.invokevirtual 210, 3) := by decide +kernel
theorem dL_loads_272 : decode cL_loads 272 = .ok (.putfield 213, 3) := by decide +kernel
theorem dL_loads_275 : decode cL_loads 275 = .ok (.aload_n 3, 1) := by decide +kernel
theorem dL_loads_276 : decode cL_loads 276 = .ok (.iconst 1, 1) := by decide +kernel
theorem dL_loads_277 : decode cL_loads 277 = .ok (.aload_n 0, 1) := by decide +kernel
theorem dL_loads_278 : decode cL_loads 278 = .ok (.bipush 18, 2) := by decide +kernel
theorem dL_loads_280 : decode cL_loads 280 = .ok (.invokevirtual 169, 3) := by decide +kernel
theorem dL_loads_283 : decode cL_loads 283 = .ok (.iadd, 1) := by decide +kernel
theorem dL_loads_284 : decode cL_loads 284 = .ok (.putfield 216, 3) := by decide +kernel
theorem dL_loads_287 : decode cL_loads 287 = .ok (.aload_n 3, 1) := by decide +kernel
theorem dL_loads_288 : decode cL_loads 288 = .ok (.aload_n 0, 1) := by decide +kernel
theorem dL_loads_289 : decode cL_loads 289 = .ok (.bipush 10, 2) := by decide +kernel
theorem dL_loads_291 : decode cL_loads 291 = .ok (.invokevirtual 169, 3) := by decide +kernel
theorem dL_loads_294 : decode cL_loads 294 = .ok (.putfield 219, 3) := by decide +kernel
theorem dL_loads_297 : decode cL_loads 297 = .ok (.aload_n 3, 1) := by decide +kernel
theorem dL_loads_298 : decode cL_loads 298 = .ok (.aload_n 0, 1) := by decide +kernel
theorem dL_loads_299 : decode cL_loads 299 = .ok (.bipush 40, 2) := by decide +kernel
theorem dL_loads_301 : decode cL_loads 301 = .ok (.invokevirtual 169, 3) := by decide +kernel
theorem dL_loads_304 : decode cL_loads 304 = .ok (.putfield 222, 3) := by decide +kernel
theorem dL_loads_307 : decode cL_loads 307 = .ok (.aload_n 0, 1) := by decide +kernel
theorem dL_loads_308 : decode cL_loads 308 = .ok (.getfield 19, 3) := by decide +kernel
theorem dL_loads_311 : decode cL_loads 311 = .ok (.aload_n 3, 1) := by decide +kernel
theorem dL_loads_312 : decode cL_loads 312 = .ok (.invokevirtual 225, 3) := by decide +kernel
theorem dL_loads_315 : decode cL_loads 315 = .ok (.pop, 1) := by decide +kernel
theorem dL_loads_316 : decode cL_loads 316 = .ok (.aload_n 1, 1) := by decide +kernel
theorem dL_loads_317 : decode cL_loads 317 = .ok (.ldc 229, 2) := by decide +kernel
theorem dL_loads_319 : decode cL_loads 319 = .ok (.invokevirtual 197, 3) := by decide +kernel
theorem dL_loads_322 : decode cL_loads 322 = .ok (.aload_n 3, 1) := by decide +kernel
theorem dL_loads_323 : decode cL_loads 323 = .ok (.getfield 216, 3) := by decide +kernel
theorem dL_loads_326 : decode cL_loads 326 = .ok (.invokevirtual 191, 3) := by decide +kernel
theorem dL_loads_329 : decode cL_loads 329 = .ok (.bipush 32, 2) := by decide +kernel
theorem dL_loads_331 : decode cL_loads 331 = .ok (.invokevirtual 200, 3) := by decide +kernel
theorem dL_loads_334 : decode cL_loads 334 = .ok (.aload_n 3, 1) := by decide +kernel
theorem dL_loads_335 : decode cL_loads 335 = .ok (.getfield 219, 3) := by decide +kernel
theorem dL_loads_338 : decode cL_loads 338 = .ok (.invokevirtual 191, 3) := by decide +kernel
theorem dL_loads_341 : decode cL_loads 341 = .ok (.bipush 32, 2) := by decide +kernel
theorem dL_loads_343 : decode cL_loads 343 = .ok (.invokevirtual 200, 3) := by decide +kernel
theorem dL_loads_346 : decode cL_loads 346 = .ok (.aload_n 3, 1) := by decide +kernel
theorem dL_loads_347 : decode cL_loads 347 = .ok (.getfield 222, 3) := by decide +kernel
theorem dL_loads_350 : decode cL_loads 350 = .ok (.invokevirtual 191, 3) := by decide +kernel
theorem dL_loads_353 : decode cL_loads 353 = .ok (.bipush 59, 2) := by decide +kernel
theorem dL_loads_355 : decode cL_loads 355 = .ok (.invokevirtual 200, 3) := by decide +kernel
theorem dL_loads_358 : decode cL_loads 358 = .ok (.pop, 1) := by decide +kernel
theorem dL_loads_359 : decode cL_loads 359 = .ok (.iinc 2 (-1), 3) := by decide +kernel
theorem dL_loads_362 : decode cL_loads 362 = .ok (.goto (-110), 3) := by decide +kernel
theorem dL_loads_365 : decode cL_loads 365 = .ok (.aload_n 0, 1) := by decide +kernel
theorem dL_loads_366 : decode cL_loads 366 = .ok (.aload_n 1, 1) := by decide +kernel
theorem dL_loads_367 : decode cL_loads 367 = .ok (.invokevirtual 231, 3) := by decide +kernel
theorem dL_loads_370 : decode cL_loads 370 = .ok (.invokevirtual 235, 3) := by decide +kernel
theorem dL_loads_373 : decode cL_loads 373 = .ok (.ifCond .eq 36, 3) := by decide +kernel
theorem dL_loads_376 : decode cL_loads 376 = .ok (.aload_n 0, 1) := by decide +kernel
theorem dL_loads_377 : decode cL_loads 377 = .ok (.getfield 10, 3) := by decide +kernel
theorem dL_loads_380 : decode cL_loads 380 = .ok (.invokevirtual 239, 3) := by decide +kernel
theorem dL_loads_383 : decode cL_loads 383 = .ok (.aload_n 0, 1) := by decide +kernel
theorem dL_loads_384 : decode cL_loads 384 = .ok (.getfield 19, 3) := by decide +kernel
theorem dL_loads_387 : decode cL_loads 387 = .ok (.invokevirtual 210, 3) := by decide +kernel
theorem dL_loads_390 : decode cL_loads 390 = .ok (.if_icmp .ne 19, 3) := by decide +kernel
theorem dL_loads_393 : decode cL_loads 393 = .ok (.aload_n 0, 1) := by decide +kernel
theorem dL_loads_394 : decode cL_loads 394 = .ok (.getfield 10, 3) := by decide +kernel
theorem dL_loads_397 : decode cL_loads 397 = .ok (.invokestatic 242, 3) := by decide +kernel
theorem dL_loads_400 : decode cL_loads 400 = .ok (.bipush (-103), 2) := by decide +kernel
theorem dL_loads_402 : decode cL_loads 402 = .ok (.if_icmp .ne 7, 3) := by decide +kernel
theorem dL_loads_405 : decode cL_loads 405 = .ok (.iconst 1, 1) := by decide +kernel
theorem dL_loads_406 : decode cL_loads 406 = .ok (.goto 4, 3) := by decide +kernel
theorem dL_loads_409 : decode cL_loads 409 = .ok (.iconst 0, 1) := by decide +kernel
theorem dL_loads_410 : decode cL_loads 410 = .ok (.ireturn, 1) := by decide +kernel
theorem dL_in_0 : decode cL_in 0 = .ok (.iconst 0, 1) := by decide +kernel
theorem dL_in_1 : decode cL_in 1 = .ok (.istore_n 2, 1) := by decide +kernel
theorem dL_in_2 : decode cL_in 2 = .ok (.iload_n 2, 1) := by decide +kernel
theorem dL_in_3 : decode cL_in 3 = .ok (.aload_n 0, 1) := by decide +kernel
theorem dL_in_4 : decode cL_in 4 = .ok (.getfield 19, 3) := by decide +kernel
theorem dL_in_7 : decode cL_in 7 = .ok (.invokevirtual 210, 3) := by decide +kernel
theorem dL_in_10 : decode cL_in 10 = .ok (.if_icmp .ge 43, 3) := by decide +kernel
theorem dL_in_13 : decode cL_in 13 = .ok (.iload_n 1, 1) := by decide +kernel
theorem dL_in_14 : decode cL_in 14 = .ok (.ifCond .lt 33, 3) := by decide +kernel
theorem dL_in_17 : decode cL_in 17 = .ok (.aload_n 0, 1) := by decide +kernel
theorem dL_in_18 : decode cL_in 18 = .ok (.getfield 19, 3) := by decide +kernel
theorem dL_in_21 : decode cL_in 21 = .ok (.iload_n 2, 1) := by decide +kernel
theorem dL_in_22 : decode cL_in 22 = .ok (.invokevirtual 246, 3) := by decide +kernel
theorem dL_in_25 : decode cL_in 25 = .ok (.checkcast 207, 3) := by decide +kernel
theorem dL_in_28 : decode cL_in 28 = .ok (.getfield 250, 3) := by decide +kernel
theorem dL_in_31 : decode cL_in 31 = .ok (.iload_n 1, 1) := by decide +kernel
theorem dL_in_32 : decode cL_in 32 = .ok (.if_icmp .ne 15, 3) := by decide +kernel
theorem dL_in_35 : decode cL_in 35 = .ok (.aload_n 0, 1) := by decide +kernel
theorem dL_in_36 : decode cL_in 36 = .ok (.getfield 19, 3) := by decide +kernel
theorem dL_in_39 : decode cL_in 39 = .ok (.iload_n 2, 1) := by decide +kernel
theorem dL_in_40 : decode cL_in 40 = .ok (.invokevirtual 246, 3) := by decide +kernel
theorem dL_in_43 : decode cL_in 43 = .ok (.checkcast 207, 3) := by decide +kernel
theorem dL_in_46 : decode cL_in 46 = .ok (.areturn, 1) := by decide +kernel
theorem dL_in_47 : decode cL_in 47 = .ok (.iinc 2 1, 3) := by decide +kernel
theorem dL_in_50 : decode cL_in 50 = .ok (.goto (-48), 3) := by decide +kernel
theorem dL_in_53 : decode cL_in 53 = .ok (.aconst_null, 1) := by decide +kernel
theorem dL_in_54 : decode cL_in 54 = .ok (.areturn, 1) := by decide +kernel
theorem dL_under_0 : decode cL_under 0 = .ok (.iconst 0, 1) := by decide +kernel
theorem dL_under_1 : decode cL_under 1 = .ok (.istore_n 2, 1) := by decide +kernel
theorem dL_under_2 : decode cL_under 2 = .ok (.iload_n 2, 1) := by decide +kernel
theorem dL_under_3 : decode cL_under 3 = .ok (.aload_n 0, 1) := by decide +kernel
theorem dL_under_4 : decode cL_under 4 = .ok (.getfield 19, 3) := by decide +kernel
theorem dL_under_7 : decode cL_under 7 = .ok (.invokevirtual 210, 3) := by decide +kernel
theorem dL_under_10 : decode cL_under 10 = .ok (.if_icmp .ge 39, 3) := by decide +kernel
theorem dL_under_13 : decode cL_under 13 = .ok (.aload_n 0, 1) := by decide +kernel
theorem dL_under_14 : decode cL_under 14 = .ok (.getfield 19, 3) := by decide +kernel
theorem dL_under_17 : decode cL_under 17 = .ok (.iload_n 2, 1) := by decide +kernel
theorem dL_under_18 : decode cL_under 18 = .ok (.invokevirtual 246, 3) := by decide +kernel
theorem dL_under_21 : decode cL_under 21 = .ok (.checkcast 207, 3) := by decide +kernel
theorem dL_under_24 : decode cL_under 24 = .ok (.getfield 253, 3) := by decide +kernel
theorem dL_under_27 : decode cL_under 27 = .ok (.iload_n 1, 1) := by decide +kernel
theorem dL_under_28 : decode cL_under 28 = .ok (.if_icmp .ne 15, 3) := by decide +kernel
theorem dL_under_31 : decode cL_under 31 = .ok (.aload_n 0, 1) := by decide +kernel
theorem dL_under_32 : decode cL_under 32 = .ok (.getfield 19, 3) := by decide +kernel
theorem dL_under_35 : decode cL_under 35 = .ok (.iload_n 2, 1) := by decide +kernel
theorem dL_under_36 : decode cL_under 36 = .ok (.invokevirtual 246, 3) := by decide +kernel
theorem dL_under_39 : decode cL_under 39 = .ok (.checkcast 207, 3) := by decide +kernel
theorem dL_under_42 : decode cL_under 42 = .ok (.areturn, 1) := by decide +kernel
theorem dL_under_43 : decode cL_under 43 = .ok (.iinc 2 1, 3) := by decide +kernel
theorem dL_under_46 : decode cL_under 46 = .ok (.goto (-44), 3) := by decide +kernel
theorem dL_under_49 : decode cL_under 49 = .ok (.aconst_null, 1) := by decide +kernel
theorem dL_under_50 : decode cL_under 50 = .ok (.areturn, 1) := by decide +kernel
theorem dL_warm_0 : decode cL_warm 0 = .ok (.aload_n 0, 1) := by decide +kernel
theorem dL_warm_1 : decode cL_warm 1 = .ok (.getfield 30, 3) := by decide +kernel
theorem dL_warm_4 : decode cL_warm 4 = .ok (.aload_n 0, 1) := by decide +kernel
theorem dL_warm_5 : decode cL_warm 5 = .ok (.getfield 160, 3) := by decide +kernel
theorem dL_warm_8 : decode cL_warm 8 = .ok (.aload_n 0, 1) := by decide +kernel
theorem dL_warm_9 : decode cL_warm 9 = .ok (.getfield 181, 3) := by decide +kernel
theorem dL_warm_12 : decode cL_warm 12 = .ok (.irem, 1) := by decide +kernel
theorem dL_warm_13 : decode cL_warm 13 = .ok (.iaload, 1) := by decide +kernel
theorem dL_warm_14 : decode cL_warm 14 = .ok (.aload_n 0, 1) := by decide +kernel
theorem dL_warm_15 : decode cL_warm 15 = .ok (.getfield 163, 3) := by decide +kernel
theorem dL_warm_18 : decode cL_warm 18 = .ok (.iadd, 1) := by decide +kernel
theorem dL_warm_19 : decode cL_warm 19 = .ok (.aload_n 1, 1) := by decide +kernel
theorem dL_warm_20 : decode cL_warm 20 = .ok (.getfield 253, 3) := by decide +kernel
theorem dL_warm_23 : decode cL_warm 23 = .ok (.ifCond .ge 7, 3) := by decide +kernel
theorem dL_warm_26 : decode cL_warm 26 = .ok (.iconst 0, 1) := by decide +kernel
theorem dL_warm_27 : decode cL_warm 27 = .ok (.goto 12, 3) := by decide +kernel
theorem dL_warm_30 : decode cL_warm 30 = .ok (.aload_n 0, 1) := by decide +kernel
theorem dL_warm_31 : decode cL_warm 31 = .ok (.getfield 27, 3) := by decide +kernel
theorem dL_warm_34 : decode cL_warm 34 = .ok (.aload_n 1, 1) := by decide +kernel
theorem dL_warm_35 : decode cL_warm 35 = .ok (.getfield 253, 3) := by decide +kernel
theorem dL_warm_38 : decode cL_warm 38 = .ok (.iaload, 1) := by decide +kernel
theorem dL_warm_39 : decode cL_warm 39 = .ok (.iadd, 1) := by decide +kernel
theorem dL_warm_40 : decode cL_warm 40 = .ok (.istore_n 2, 1) := by decide +kernel
theorem dL_warm_41 : decode cL_warm 41 = .ok (.aload_n 1, 1) := by decide +kernel
theorem dL_warm_42 : decode cL_warm 42 = .ok (.getfield 250, 3) := by decide +kernel
theorem dL_warm_45 : decode cL_warm 45 = .ok (.ifCond .ge 5, 3) := by decide +kernel
theorem dL_warm_48 : decode cL_warm 48 = .ok (.iload_n 2, 1) := by decide +kernel
theorem dL_warm_49 : decode cL_warm 49 = .ok (.ireturn, 1) := by decide +kernel
theorem dL_warm_50 : decode cL_warm 50 = .ok (.iload_n 2, 1) := by decide +kernel
theorem dL_warm_51 : decode cL_warm 51 = .ok (.aload_n 0, 1) := by decide +kernel
theorem dL_warm_52 : decode cL_warm 52 = .ok (.getfield 23, 3) := by decide +kernel
theorem dL_warm_55 : decode cL_warm 55 = .ok (.aload_n 1, 1) := by decide +kernel
theorem dL_warm_56 : decode cL_warm 56 = .ok (.getfield 250, 3) := by decide +kernel
theorem dL_warm_59 : decode cL_warm 59 = .ok (.iaload, 1) := by decide +kernel
theorem dL_warm_60 : decode cL_warm 60 = .ok (.iadd, 1) := by decide +kernel
theorem dL_warm_61 : decode cL_warm 61 = .ok (.aload_n 0, 1) := by decide +kernel
theorem dL_warm_62 : decode cL_warm 62 = .ok (.aload_n 1, 1) := by decide +kernel
theorem dL_warm_63 : decode cL_warm 63 = .ok (.getfield 250, 3) := by decide +kernel
theorem dL_warm_66 : decode cL_warm 66 = .ok (.iconst 1, 1) := by decide +kernel
theorem dL_warm_67 : decode cL_warm 67 = .ok (.isub, 1) := by decide +kernel
theorem dL_warm_68 : decode cL_warm 68 = .ok (.invokevirtual 256, 3) := by decide +kernel
theorem dL_warm_71 : decode cL_warm 71 = .ok (.ifnonnull 7, 3) := by decide +kernel
theorem dL_warm_74 : decode cL_warm 74 = .ok (.iconst 0, 1) := by decide +kernel
theorem dL_warm_75 : decode cL_warm 75 = .ok (.goto 4, 3) := by decide +kernel
theorem dL_warm_78 : decode cL_warm 78 = .ok (.iconst 1, 1) := by decide +kernel
theorem dL_warm_79 : decode cL_warm 79 = .ok (.iadd, 1) := by decide +kernel
theorem dL_warm_80 : decode cL_warm 80 = .ok (.aload_n 0, 1) := by decide +kernel
theorem dL_warm_81 : decode cL_warm 81 = .ok (.aload_n 1, 1) := by decide +kernel
theorem dL_warm_82 : decode cL_warm 82 = .ok (.getfield 250, 3) := by decide +kernel
theorem dL_warm_85 : decode cL_warm 85 = .ok (.iconst 1, 1) := by decide +kernel
theorem dL_warm_86 : decode cL_warm 86 = .ok (.iadd, 1) := by decide +kernel
theorem dL_warm_87 : decode cL_warm 87 = .ok (.invokevirtual 256, 3) := by decide +kernel
theorem dL_warm_90 : decode cL_warm 90 = .ok (.ifnonnull 7, 3) := by decide +kernel
theorem dL_warm_93 : decode cL_warm 93 = .ok (.iconst 0, 1) := by decide +kernel
theorem dL_warm_94 : decode cL_warm 94 = .ok (.goto 4, 3) := by decide +kernel
theorem dL_warm_97 : decode cL_warm 97 = .ok (.iconst 1, 1) := by decide +kernel
theorem dL_warm_98 : decode cL_warm 98 = .ok (.iadd, 1) := by decide +kernel
theorem dL_warm_99 : decode cL_warm 99 = .ok (.ireturn, 1) := by decide +kernel
theorem dL_isCold_0 : decode cL_isCold 0 = .ok (.aload_n 0, 1) := by decide +kernel
theorem dL_isCold_1 : decode cL_isCold 1 = .ok (.aload_n 1, 1) := by decide +kernel
theorem dL_isCold_2 : decode cL_isCold 2 = .ok (.invokevirtual 260, 3) := by decide +kernel
theorem dL_isCold_5 : decode cL_isCold 5 = .ok (.aload_n 1, 1) := by decide +kernel
theorem dL_isCold_6 : decode cL_isCold 6 = .ok (.getfield 216, 3) := by decide +kernel
theorem dL_isCold_9 : decode cL_isCold 9 = .ok (.if_icmp .ge 7, 3) := by decide +kernel
theorem dL_isCold_12 : decode cL_isCold 12 = .ok (.iconst 1, 1) := by decide +kernel
theorem dL_isCold_13 : decode cL_isCold 13 = .ok (.goto 4, 3) := by decide +kernel
theorem dL_isCold_16 : decode cL_isCold 16 = .ok (.iconst 0, 1) := by decide +kernel
theorem dL_isCold_17 : decode cL_isCold 17 = .ok (.ireturn, 1) := by decide +kernel
theorem dL_loud_0 : decode cL_loud 0 = .ok (.aload_n 0, 1) := by decide +kernel
theorem dL_loud_1 : decode cL_loud 1 = .ok (.iload_n 1, 1) := by decide +kernel
theorem dL_loud_2 : decode cL_loud 2 = .ok (.invokevirtual 256, 3) := by decide +kernel
theorem dL_loud_5 : decode cL_loud 5 = .ok (.astore_n 2, 1) := by decide +kernel
theorem dL_loud_6 : decode cL_loud 6 = .ok (.aload_n 2, 1) := by decide +kernel
theorem dL_loud_7 : decode cL_loud 7 = .ok (.ifnull 11, 3) := by decide +kernel
theorem dL_loud_10 : decode cL_loud 10 = .ok (.aload_n 0, 1) := by decide +kernel
theorem dL_loud_11 : decode cL_loud 11 = .ok (.aload_n 2, 1) := by decide +kernel
theorem dL_loud_12 : decode cL_loud 12 = .ok (.invokevirtual 264, 3) := by decide +kernel
theorem dL_loud_15 : decode cL_loud 15 = .ok (.ifCond .eq 7, 3) := by decide +kernel
theorem dL_loud_18 : decode cL_loud 18 = .ok (.iconst 0, 1) := by decide +kernel
theorem dL_loud_19 : decode cL_loud 19 = .ok (.goto 7, 3) := by decide +kernel
theorem dL_loud_22 : decode cL_loud 22 = .ok (.aload_n 2, 1) := by decide +kernel
theorem dL_loud_23 : decode cL_loud 23 = .ok (.getfield 219, 3) := by decide +kernel
theorem dL_loud_26 : decode cL_loud 26 = .ok (.ireturn, 1) := by decide +kernel
theorem dL_noise_0 : decode cL_noise 0 = .ok (.aload_n 0, 1) := by decide +kernel
theorem dL_noise_1 : decode cL_noise 1 = .ok (.iload_n 1, 1) := by decide +kernel
theorem dL_noise_2 : decode cL_noise 2 = .ok (.iconst 2, 1) := by decide +kernel
theorem dL_noise_3 : decode cL_noise 3 = .ok (.isub, 1) := by decide +kernel
theorem dL_noise_4 : decode cL_noise 4 = .ok (.invokevirtual 268, 3) := by decide +kernel
theorem dL_noise_7 : decode cL_noise 7 = .ok (.aload_n 0, 1) := by decide +kernel
theorem dL_noise_8 : decode cL_noise 8 = .ok (.iload_n 1, 1) := by decide +kernel
theorem dL_noise_9 : decode cL_noise 9 = .ok (.iconst 2, 1) := by decide +kernel
theorem dL_noise_10 : decode cL_noise 10 = .ok (.iadd, 1) := by decide +kernel
theorem dL_noise_11 : decode cL_noise 11 = .ok (.invokevirtual 268, 3) := by decide +kernel
theorem dL_noise_14 : decode cL_noise 14 = .ok (.iadd, 1) := by decide +kernel
theorem dL_noise_15 : decode cL_noise 15 = .ok (.istore_n 2, 1) := by decide +kernel
theorem dL_noise_16 : decode cL_noise 16 = .ok (.aload_n 0, 1) := by decide +kernel
theorem dL_noise_17 : decode cL_noise 17 = .ok (.iload_n 1, 1) := by decide +kernel
theorem dL_noise_18 : decode cL_noise 18 = .ok (.iconst 1, 1) := by decide +kernel
theorem dL_noise_19 : decode cL_noise 19 = .ok (.isub, 1) := by decide +kernel
theorem dL_noise_20 : decode cL_noise 20 = .ok (.invokevirtual 268, 3) := by decide +kernel
theorem dL_noise_23 : decode cL_noise 23 = .ok (.aload_n 0, 1) := by decide +kernel
theorem dL_noise_24 : decode cL_noise 24 = .ok (.iload_n 1, 1) := by decide +kernel
theorem dL_noise_25 : decode cL_noise 25 = .ok (.iconst 1, 1) := by decide +kernel
theorem dL_noise_26 : decode cL_noise 26 = .ok (.iadd, 1) := by decide +kernel
theorem dL_noise_27 : decode cL_noise 27 = .ok (.invokevirtual 268, 3) := by decide +kernel
theorem dL_noise_30 : decode cL_noise 30 = .ok (.iadd, 1) := by decide +kernel
theorem dL_noise_31 : decode cL_noise 31 = .ok (.iload_n 2, 1) := by decide +kernel
theorem dL_noise_32 : decode cL_noise 32 = .ok (.iconst 2, 1) := by decide +kernel
theorem dL_noise_33 : decode cL_noise 33 = .ok (.idiv, 1) := by decide +kernel
theorem dL_noise_34 : decode cL_noise 34 = .ok (.iadd, 1) := by decide +kernel
theorem dL_noise_35 : decode cL_noise 35 = .ok (.ireturn, 1) := by decide +kernel
theorem dL_does_0 : decode cL_does 0 = .ok (.aload_n 0, 1) := by decide +kernel
theorem dL_does_1 : decode cL_does 1 = .ok (.aload_n 1, 1) := by decide +kernel
theorem dL_does_2 : decode cL_does 2 = .ok (.invokevirtual 264, 3) := by decide +kernel
theorem dL_does_5 : decode cL_does 5 = .ok (.ifCond .eq 7, 3) := by decide +kernel
theorem dL_does_8 : decode cL_does 8 = .ok (.iconst 0, 1) := by decide +kernel
theorem dL_does_9 : decode cL_does 9 = .ok (.goto 32, 3) := by decide +kernel
theorem dL_does_12 : decode cL_does 12 = .ok (.aload_n 1, 1) := by decide +kernel
theorem dL_does_13 : decode cL_does 13 = .ok (.getfield 250, 3) := by decide +kernel
theorem dL_does_16 : decode cL_does 16 = .ok (.ifCond .ge 7, 3) := by decide +kernel
theorem dL_does_19 : decode cL_does 19 = .ok (.iconst 3, 1) := by decide +kernel
theorem dL_does_20 : decode cL_does 20 = .ok (.goto 21, 3) := by decide +kernel
theorem dL_does_23 : decode cL_does 23 = .ok (.aload_n 0, 1) := by decide +kernel
theorem dL_does_24 : decode cL_does 24 = .ok (.aload_n 1, 1) := by decide +kernel
theorem dL_does_25 : decode cL_does 25 = .ok (.getfield 250, 3) := by decide +kernel
theorem dL_does_28 : decode cL_does 28 = .ok (.invokevirtual 271, 3) := by decide +kernel
theorem dL_does_31 : decode cL_does 31 = .ok (.bipush 6, 2) := by decide +kernel
theorem dL_does_33 : decode cL_does 33 = .ok (.if_icmp .le 7, 3) := by decide +kernel
theorem dL_does_36 : decode cL_does 36 = .ok (.iconst 1, 1) := by decide +kernel
theorem dL_does_37 : decode cL_does 37 = .ok (.goto 4, 3) := by decide +kernel
theorem dL_does_40 : decode cL_does 40 = .ok (.iconst 2, 1) := by decide +kernel
theorem dL_does_41 : decode cL_does 41 = .ok (.ireturn, 1) := by decide +kernel
theorem dL_pays_0 : decode cL_pays 0 = .ok (.aload_n 1, 1) := by decide +kernel
theorem dL_pays_1 : decode cL_pays 1 = .ok (.getfield 222, 3) := by decide +kernel
theorem dL_pays_4 : decode cL_pays 4 = .ok (.iload_n 2, 1) := by decide +kernel
theorem dL_pays_5 : decode cL_pays 5 = .ok (.invokestatic 274, 3) := by decide +kernel
theorem dL_pays_8 : decode cL_pays 8 = .ok (.istore_n 3, 1) := by decide +kernel
theorem dL_pays_9 : decode cL_pays 9 = .ok (.aload_n 1, 1) := by decide +kernel
theorem dL_pays_10 : decode cL_pays 10 = .ok (.dup, 1) := by decide +kernel
theorem dL_pays_11 : decode cL_pays 11 = .ok (.getfield 222, 3) := by decide +kernel
theorem dL_pays_14 : decode cL_pays 14 = .ok (.iload_n 3, 1) := by decide +kernel
theorem dL_pays_15 : decode cL_pays 15 = .ok (.isub, 1) := by decide +kernel
theorem dL_pays_16 : decode cL_pays 16 = .ok (.putfield 222, 3) := by decide +kernel
theorem dL_pays_19 : decode cL_pays 19 = .ok (.aload_n 1, 1) := by decide +kernel
theorem dL_pays_20 : decode cL_pays 20 = .ok (.dup, 1) := by decide +kernel
theorem dL_pays_21 : decode cL_pays 21 = .ok (.getfield 277, 3) := by decide +kernel
theorem dL_pays_24 : decode cL_pays 24 = .ok (.iload_n 2, 1) := by decide +kernel
theorem dL_pays_25 : decode cL_pays 25 = .ok (.iload_n 3, 1) := by decide +kernel
theorem dL_pays_26 : decode cL_pays 26 = .ok (.isub, 1) := by decide +kernel
theorem dL_pays_27 : decode cL_pays 27 = .ok (.iadd, 1) := by decide +kernel
theorem dL_pays_28 : decode cL_pays 28 = .ok (.putfield 277, 3) := by decide +kernel
theorem dL_pays_31 : decode cL_pays 31 = .ok (.iload_n 3, 1) := by decide +kernel
theorem dL_pays_32 : decode cL_pays 32 = .ok (.ireturn, 1) := by decide +kernel
theorem dL_dawns_0 : decode cL_dawns 0 = .ok (.aload_n 0, 1) := by decide +kernel
theorem dL_dawns_1 : decode cL_dawns 1 = .ok (.getfield 19, 3) := by decide +kernel
theorem dL_dawns_4 : decode cL_dawns 4 = .ok (.invokevirtual 210, 3) := by decide +kernel
theorem dL_dawns_7 : decode cL_dawns 7 = .ok (.istore_n 1, 1) := by decide +kernel
theorem dL_dawns_8 : decode cL_dawns 8 = .ok (.iconst 2, 1) := by decide +kernel
theorem dL_dawns_9 : decode cL_dawns 9 = .ok (.aload_n 0, 1) := by decide +kernel
theorem dL_dawns_10 : decode cL_dawns 10 = .ok (.getfield 154, 3) := by decide +kernel
theorem dL_dawns_13 : decode cL_dawns 13 = .ok (.imul, 1) := by decide +kernel
theorem dL_dawns_14 : decode cL_dawns 14 = .ok (.istore_n 2, 1) := by decide +kernel
theorem dL_dawns_15 : decode cL_dawns 15 = .ok (.iconst 0, 1) := by decide +kernel
theorem dL_dawns_16 : decode cL_dawns 16 = .ok (.istore_n 3, 1) := by decide +kernel
theorem dL_dawns_17 : decode cL_dawns 17 = .ok (.iconst 0, 1) := by decide +kernel
theorem dL_dawns_18 : decode cL_dawns 18 = .ok (.istore 4, 2) := by decide +kernel
theorem dL_dawns_20 : decode cL_dawns 20 = .ok (.iconst 0, 1) := by decide +kernel
theorem dL_dawns_21 : decode cL_dawns 21 = .ok (.istore 5, 2) := by decide +kernel
theorem dL_dawns_23 : decode cL_dawns 23 = .ok (.iload 5, 2) := by decide +kernel
theorem dL_dawns_25 : decode cL_dawns 25 = .ok (.iload_n 1, 1) := by decide +kernel
theorem dL_dawns_26 : decode cL_dawns 26 = .ok (.if_icmp .ge 35, 3) := by decide +kernel
theorem dL_dawns_29 : decode cL_dawns 29 = .ok (.aload_n 0, 1) := by decide +kernel
theorem dL_dawns_30 : decode cL_dawns 30 = .ok (.dup, 1) := by decide +kernel
theorem dL_dawns_31 : decode cL_dawns 31 = .ok (.getfield 151, 3) := by decide +kernel
theorem dL_dawns_34 : decode cL_dawns 34 = .ok (.aload_n 0, 1) := by decide +kernel
theorem dL_dawns_35 : decode cL_dawns 35 = .ok (.aload_n 0, 1) := by decide +kernel
theorem dL_dawns_36 : decode cL_dawns 36 = .ok (.getfield 19, 3) := by decide +kernel
theorem dL_dawns_39 : decode cL_dawns 39 = .ok (.iload 5, 2) := by decide +kernel
theorem dL_dawns_41 : decode cL_dawns 41 = .ok (.invokevirtual 246, 3) := by decide +kernel
theorem dL_dawns_44 : decode cL_dawns 44 = .ok (.checkcast 207, 3) := by decide +kernel
theorem dL_dawns_47 : decode cL_dawns 47 = .ok (.iconst 3, 1) := by decide +kernel
theorem dL_dawns_48 : decode cL_dawns 48 = .ok (.invokevirtual 280, 3) := by decide +kernel
theorem dL_dawns_51 : decode cL_dawns 51 = .ok (.iadd, 1) := by decide +kernel
theorem dL_dawns_52 : decode cL_dawns 52 = .ok (.putfield 151, 3) := by decide +kernel
theorem dL_dawns_55 : decode cL_dawns 55 = .ok (.iinc 5 1, 3) := by decide +kernel
theorem dL_dawns_58 : decode cL_dawns 58 = .ok (.goto (-35), 3) := by decide +kernel
theorem dL_dawns_61 : decode cL_dawns 61 = .ok (.iconst 0, 1) := by decide +kernel
theorem dL_dawns_62 : decode cL_dawns 62 = .ok (.istore 5, 2) := by decide +kernel
theorem dL_dawns_64 : decode cL_dawns 64 = .ok (.iload 5, 2) := by decide +kernel
theorem dL_dawns_66 : decode cL_dawns 66 = .ok (.iload_n 1, 1) := by decide +kernel
theorem dL_dawns_67 : decode cL_dawns 67 = .ok (.if_icmp .ge 37, 3) := by decide +kernel
theorem dL_dawns_70 : decode cL_dawns 70 = .ok (.aload_n 0, 1) := by decide +kernel
theorem dL_dawns_71 : decode cL_dawns 71 = .ok (.dup, 1) := by decide +kernel
theorem dL_dawns_72 : decode cL_dawns 72 = .ok (.getfield 151, 3) := by decide +kernel
theorem dL_dawns_75 : decode cL_dawns 75 = .ok (.aload_n 0, 1) := by decide +kernel
theorem dL_dawns_76 : decode cL_dawns 76 = .ok (.aload_n 0, 1) := by decide +kernel
theorem dL_dawns_77 : decode cL_dawns 77 = .ok (.getfield 19, 3) := by decide +kernel
theorem dL_dawns_80 : decode cL_dawns 80 = .ok (.iload 5, 2) := by decide +kernel
theorem dL_dawns_82 : decode cL_dawns 82 = .ok (.invokevirtual 246, 3) := by decide +kernel
theorem dL_dawns_85 : decode cL_dawns 85 = .ok (.checkcast 207, 3) := by decide +kernel
theorem dL_dawns_88 : decode cL_dawns 88 = .ok (.iload_n 2, 1) := by decide +kernel
theorem dL_dawns_89 : decode cL_dawns 89 = .ok (.iload_n 1, 1) := by decide +kernel
theorem dL_dawns_90 : decode cL_dawns 90 = .ok (.idiv, 1) := by decide +kernel
theorem dL_dawns_91 : decode cL_dawns 91 = .ok (.invokevirtual 280, 3) := by decide +kernel
theorem dL_dawns_94 : decode cL_dawns 94 = .ok (.iadd, 1) := by decide +kernel
theorem dL_dawns_95 : decode cL_dawns 95 = .ok (.putfield 151, 3) := by decide +kernel
theorem dL_dawns_98 : decode cL_dawns 98 = .ok (.iinc 5 1, 3) := by decide +kernel
theorem dL_dawns_101 : decode cL_dawns 101 = .ok (.goto (-37), 3) := by decide +kernel
theorem dL_dawns_104 : decode cL_dawns 104 = .ok (.iconst 0, 1) := by decide +kernel
theorem dL_dawns_105 : decode cL_dawns 105 = .ok (.istore 5, 2) := by decide +kernel
theorem dL_dawns_107 : decode cL_dawns 107 = .ok (.iload 5, 2) := by decide +kernel
theorem dL_dawns_109 : decode cL_dawns 109 = .ok (.iload_n 2, 1) := by decide +kernel
theorem dL_dawns_110 : decode cL_dawns 110 = .ok (.iload_n 2, 1) := by decide +kernel
theorem dL_dawns_111 : decode cL_dawns 111 = .ok (.iload_n 1, 1) := by decide +kernel
theorem dL_dawns_112 : decode cL_dawns 112 = .ok (.idiv, 1) := by decide +kernel
theorem dL_dawns_113 : decode cL_dawns 113 = .ok (.iload_n 1, 1) := by decide +kernel
theorem dL_dawns_114 : decode cL_dawns 114 = .ok (.imul, 1) := by decide +kernel
theorem dL_dawns_115 : decode cL_dawns 115 = .ok (.isub, 1) := by decide +kernel
theorem dL_dawns_116 : decode cL_dawns 116 = .ok (.if_icmp .ge 35, 3) := by decide +kernel
theorem dL_dawns_119 : decode cL_dawns 119 = .ok (.aload_n 0, 1) := by decide +kernel
theorem dL_dawns_120 : decode cL_dawns 120 = .ok (.dup, 1) := by decide +kernel
theorem dL_dawns_121 : decode cL_dawns 121 = .ok (.getfield 151, 3) := by decide +kernel
theorem dL_dawns_124 : decode cL_dawns 124 = .ok (.aload_n 0, 1) := by decide +kernel
theorem dL_dawns_125 : decode cL_dawns 125 = .ok (.aload_n 0, 1) := by decide +kernel
theorem dL_dawns_126 : decode cL_dawns 126 = .ok (.getfield 19, 3) := by decide +kernel
theorem dL_dawns_129 : decode cL_dawns 129 = .ok (.iload 5, 2) := by decide +kernel
theorem dL_dawns_131 : decode cL_dawns 131 = .ok (.invokevirtual 246, 3) := by decide +kernel
theorem dL_dawns_134 : decode cL_dawns 134 = .ok (.checkcast 207, 3) := by decide +kernel
theorem dL_dawns_137 : decode cL_dawns 137 = .ok (.iconst 1, 1) := by decide +kernel
theorem dL_dawns_138 : decode cL_dawns 138 = .ok (.invokevirtual 280, 3) := by decide +kernel
theorem dL_dawns_141 : decode cL_dawns 141 = .ok (.iadd, 1) := by decide +kernel
theorem dL_dawns_142 : decode cL_dawns 142 = .ok (.putfield 151, 3) := by decide +kernel
theorem dL_dawns_145 : decode cL_dawns 145 = .ok (.iinc 5 1, 3) := by decide +kernel
theorem dL_dawns_148 : decode cL_dawns 148 = .ok (.goto (-41), 3) := by decide +kernel
theorem dL_dawns_151 : decode cL_dawns 151 = .ok (.iconst 0, 1) := by decide +kernel
theorem dL_dawns_152 : decode cL_dawns 152 = .ok (.istore 5, 2) := by decide +kernel
theorem dL_dawns_154 : decode cL_dawns 154 = .ok (.iload 5, 2) := by decide +kernel
theorem dL_dawns_156 : decode cL_dawns 156 = .ok (.iload_n 1, 1) := by decide +kernel
theorem dL_dawns_157 : decode cL_dawns 157 = .ok (.if_icmp .ge 79, 3) := by decide +kernel
theorem dL_dawns_160 : decode cL_dawns 160 = .ok (.aload_n 0, 1) := by decide +kernel
theorem dL_dawns_161 : decode cL_dawns 161 = .ok (.getfield 19, 3) := by decide +kernel
theorem dL_dawns_164 : decode cL_dawns 164 = .ok (.iload 5, 2) := by decide +kernel
theorem dL_dawns_166 : decode cL_dawns 166 = .ok (.invokevirtual 246, 3) := by decide +kernel
theorem dL_dawns_169 : decode cL_dawns 169 = .ok (.checkcast 207, 3) := by decide +kernel
theorem dL_dawns_172 : decode cL_dawns 172 = .ok (.astore 6, 2) := by decide +kernel
theorem dL_dawns_174 : decode cL_dawns 174 = .ok (.aload 6, 2) := by decide +kernel
theorem dL_dawns_176 : decode cL_dawns 176 = .ok (.getfield 253, 3) := by decide +kernel
theorem dL_dawns_179 : decode cL_dawns 179 = .ok (.ifCond .ge 9, 3) := by decide +kernel
theorem dL_dawns_182 : decode cL_dawns 182 = .ok (.iinc 4 1, 3) := by decide +kernel
theorem dL_dawns_185 : decode cL_dawns 185 = .ok (.goto 45, 3) := by decide +kernel
theorem dL_dawns_188 : decode cL_dawns 188 = .ok (.iload_n 3, 1) := by decide +kernel
theorem dL_dawns_189 : decode cL_dawns 189 = .ok (.aload_n 0, 1) := by decide +kernel
theorem dL_dawns_190 : decode cL_dawns 190 = .ok (.aload 6, 2) := by decide +kernel
theorem dL_dawns_192 : decode cL_dawns 192 = .ok (.aload_n 0, 1) := by decide +kernel
theorem dL_dawns_193 : decode cL_dawns 193 = .ok (.getfield 27, 3) := by decide +kernel
theorem dL_dawns_196 : decode cL_dawns 196 = .ok (.aload 6, 2) := by decide +kernel
theorem dL_dawns_198 : decode cL_dawns 198 = .ok (.getfield 253, 3) := by decide +kernel
theorem dL_dawns_201 : decode cL_dawns 201 = .ok (.iaload, 1) := by decide +kernel
theorem dL_dawns_202 : decode cL_dawns 202 = .ok (.iconst 3, 1) := by decide +kernel
theorem dL_dawns_203 : decode cL_dawns 203 = .ok (.idiv, 1) := by decide +kernel
theorem dL_dawns_204 : decode cL_dawns 204 = .ok (.aload_n 0, 1) := by decide +kernel
theorem dL_dawns_205 : decode cL_dawns 205 = .ok (.getfield 27, 3) := by decide +kernel
theorem dL_dawns_208 : decode cL_dawns 208 = .ok (.aload 6, 2) := by decide +kernel
theorem dL_dawns_210 : decode cL_dawns 210 = .ok (.getfield 253, 3) := by decide +kernel
theorem dL_dawns_213 : decode cL_dawns 213 = .ok (.iaload, 1) := by decide +kernel
theorem dL_dawns_214 : decode cL_dawns 214 = .ok (.iconst 3, 1) := by decide +kernel
theorem dL_dawns_215 : decode cL_dawns 215 = .ok (.irem, 1) := by decide +kernel
theorem dL_dawns_216 : decode cL_dawns 216 = .ok (.ifCond .le 7, 3) := by decide +kernel
theorem dL_dawns_219 : decode cL_dawns 219 = .ok (.iconst 1, 1) := by decide +kernel
theorem dL_dawns_220 : decode cL_dawns 220 = .ok (.goto 4, 3) := by decide +kernel
theorem dL_dawns_223 : decode cL_dawns 223 = .ok (.iconst 0, 1) := by decide +kernel
theorem dL_dawns_224 : decode cL_dawns 224 = .ok (.iadd, 1) := by decide +kernel
theorem dL_dawns_225 : decode cL_dawns 225 = .ok (.invokevirtual 280, 3) := by decide +kernel
theorem dL_dawns_228 : decode cL_dawns 228 = .ok (.iadd, 1) := by decide +kernel
theorem dL_dawns_229 : decode cL_dawns 229 = .ok (.istore_n 3, 1) := by decide +kernel
theorem dL_dawns_230 : decode cL_dawns 230 = .ok (.iinc 5 1, 3) := by decide +kernel
theorem dL_dawns_233 : decode cL_dawns 233 = .ok (.goto (-79), 3) := by decide +kernel
theorem dL_dawns_236 : decode cL_dawns 236 = .ok (.iconst 0, 1) := by decide +kernel
theorem dL_dawns_237 : decode cL_dawns 237 = .ok (.istore 5, 2) := by decide +kernel
theorem dL_dawns_239 : decode cL_dawns 239 = .ok (.iload 5, 2) := by decide +kernel
theorem dL_dawns_241 : decode cL_dawns 241 = .ok (.iload_n 1, 1) := by decide +kernel
theorem dL_dawns_242 : decode cL_dawns 242 = .ok (.if_icmp .ge 55, 3) := by decide +kernel
theorem dL_dawns_245 : decode cL_dawns 245 = .ok (.aload_n 0, 1) := by decide +kernel
theorem dL_dawns_246 : decode cL_dawns 246 = .ok (.getfield 19, 3) := by decide +kernel
theorem dL_dawns_249 : decode cL_dawns 249 = .ok (.iload 5, 2) := by decide +kernel
theorem dL_dawns_251 : decode cL_dawns 251 = .ok (.invokevirtual 246, 3) := by decide +kernel
theorem dL_dawns_254 : decode cL_dawns 254 = .ok (.checkcast 207, 3) := by decide +kernel
theorem dL_dawns_257 : decode cL_dawns 257 = .ok (.dup, 1) := by decide +kernel
theorem dL_dawns_258 : decode cL_dawns 258 = .ok (.getfield 222, 3) := by decide +kernel
theorem dL_dawns_261 : decode cL_dawns 261 = .ok (.aload_n 0, 1) := by decide +kernel
theorem dL_dawns_262 : decode cL_dawns 262 = .ok (.getfield 19, 3) := by decide +kernel
theorem dL_dawns_265 : decode cL_dawns 265 = .ok (.iload 5, 2) := by decide +kernel
theorem dL_dawns_267 : decode cL_dawns 267 = .ok (.invokevirtual 246, 3) := by decide +kernel
theorem dL_dawns_270 : decode cL_dawns 270 = .ok (.checkcast 207, 3) := by decide +kernel
theorem dL_dawns_273 : decode cL_dawns 273 = .ok (.getfield 253, 3) := by decide +kernel
theorem dL_dawns_276 : decode cL_dawns 276 = .ok (.ifCond .ge 10, 3) := by decide +kernel
theorem dL_dawns_279 : decode cL_dawns 279 = .ok (.iload_n 3, 1) := by decide +kernel
theorem dL_dawns_280 : decode cL_dawns 280 = .ok (.iload 4, 2) := by decide +kernel
theorem dL_dawns_282 : decode cL_dawns 282 = .ok (.idiv, 1) := by decide +kernel
theorem dL_dawns_283 : decode cL_dawns 283 = .ok (.goto 4, 3) := by decide +kernel
theorem dL_dawns_286 : decode cL_dawns 286 = .ok (.iconst 0, 1) := by decide +kernel
theorem dL_dawns_287 : decode cL_dawns 287 = .ok (.iadd, 1) := by decide +kernel
theorem dL_dawns_288 : decode cL_dawns 288 = .ok (.putfield 222, 3) := by decide +kernel
theorem dL_dawns_291 : decode cL_dawns 291 = .ok (.iinc 5 1, 3) := by decide +kernel
theorem dL_dawns_294 : decode cL_dawns 294 = .ok (.goto (-55), 3) := by decide +kernel
theorem dL_dawns_297 : decode cL_dawns 297 = .ok (.aload_n 0, 1) := by decide +kernel
theorem dL_dawns_298 : decode cL_dawns 298 = .ok (.dup, 1) := by decide +kernel
theorem dL_dawns_299 : decode cL_dawns 299 = .ok (.getfield 151, 3) := by decide +kernel
theorem dL_dawns_302 : decode cL_dawns 302 = .ok (.iload 4, 2) := by decide +kernel
theorem dL_dawns_304 : decode cL_dawns 304 = .ok (.ifCond .ne 7, 3) := by decide +kernel
theorem dL_dawns_307 : decode cL_dawns 307 = .ok (.iload_n 3, 1) := by decide +kernel
theorem dL_dawns_308 : decode cL_dawns 308 = .ok (.goto 7, 3) := by decide +kernel
theorem dL_dawns_311 : decode cL_dawns 311 = .ok (.iload_n 3, 1) := by decide +kernel
theorem dL_dawns_312 : decode cL_dawns 312 = .ok (.iload 4, 2) := by decide +kernel
theorem dL_dawns_314 : decode cL_dawns 314 = .ok (.irem, 1) := by decide +kernel
theorem dL_dawns_315 : decode cL_dawns 315 = .ok (.iadd, 1) := by decide +kernel
theorem dL_dawns_316 : decode cL_dawns 316 = .ok (.putfield 151, 3) := by decide +kernel
theorem dL_dawns_319 : decode cL_dawns 319 = .ok (.aload_n 0, 1) := by decide +kernel
theorem dL_dawns_320 : decode cL_dawns 320 = .ok (.iconst 0, 1) := by decide +kernel
theorem dL_dawns_321 : decode cL_dawns 321 = .ok (.putfield 154, 3) := by decide +kernel
theorem dL_dawns_324 : decode cL_dawns 324 = .ok (.return_, 1) := by decide +kernel
theorem dL_passes_0 : decode cL_passes 0 = .ok (.aload_n 0, 1) := by decide +kernel
theorem dL_passes_1 : decode cL_passes 1 = .ok (.getfield 172, 3) := by decide +kernel
theorem dL_passes_4 : decode cL_passes 4 = .ok (.aload_n 0, 1) := by decide +kernel
theorem dL_passes_5 : decode cL_passes 5 = .ok (.getfield 166, 3) := by decide +kernel
theorem dL_passes_8 : decode cL_passes 8 = .ok (.if_icmp .ge 10, 3) := by decide +kernel
theorem dL_passes_11 : decode cL_passes 11 = .ok (.aload_n 0, 1) := by decide +kernel
theorem dL_passes_12 : decode cL_passes 12 = .ok (.getfield 172, 3) := by decide +kernel
theorem dL_passes_15 : decode cL_passes 15 = .ok (.goto 7, 3) := by decide +kernel
theorem dL_passes_18 : decode cL_passes 18 = .ok (.aload_n 0, 1) := by decide +kernel
theorem dL_passes_19 : decode cL_passes 19 = .ok (.getfield 166, 3) := by decide +kernel
theorem dL_passes_22 : decode cL_passes 22 = .ok (.istore_n 1, 1) := by decide +kernel
theorem dL_passes_23 : decode cL_passes 23 = .ok (.aload_n 0, 1) := by decide +kernel
theorem dL_passes_24 : decode cL_passes 24 = .ok (.dup, 1) := by decide +kernel
theorem dL_passes_25 : decode cL_passes 25 = .ok (.getfield 172, 3) := by decide +kernel
theorem dL_passes_28 : decode cL_passes 28 = .ok (.iload_n 1, 1) := by decide +kernel
theorem dL_passes_29 : decode cL_passes 29 = .ok (.isub, 1) := by decide +kernel
theorem dL_passes_30 : decode cL_passes 30 = .ok (.putfield 172, 3) := by decide +kernel
theorem dL_passes_33 : decode cL_passes 33 = .ok (.aload_n 0, 1) := by decide +kernel
theorem dL_passes_34 : decode cL_passes 34 = .ok (.dup, 1) := by decide +kernel
theorem dL_passes_35 : decode cL_passes 35 = .ok (.getfield 157, 3) := by decide +kernel
theorem dL_passes_38 : decode cL_passes 38 = .ok (.iload_n 1, 1) := by decide +kernel
theorem dL_passes_39 : decode cL_passes 39 = .ok (.iadd, 1) := by decide +kernel
theorem dL_passes_40 : decode cL_passes 40 = .ok (.putfield 157, 3) := by decide +kernel
theorem dL_passes_43 : decode cL_passes 43 = .ok (.aload_n 0, 1) := by decide +kernel
theorem dL_passes_44 : decode cL_passes 44 = .ok (.dup, 1) := by decide +kernel
theorem dL_passes_45 : decode cL_passes 45 = .ok (.getfield 154, 3) := by decide +kernel
theorem dL_passes_48 : decode cL_passes 48 = .ok (.iload_n 1, 1) := by decide +kernel
theorem dL_passes_49 : decode cL_passes 49 = .ok (.iadd, 1) := by decide +kernel
theorem dL_passes_50 : decode cL_passes 50 = .ok (.putfield 154, 3) := by decide +kernel
theorem dL_passes_53 : decode cL_passes 53 = .ok (.aload_n 0, 1) := by decide +kernel
theorem dL_passes_54 : decode cL_passes 54 = .ok (.aload_n 0, 1) := by decide +kernel
theorem dL_passes_55 : decode cL_passes 55 = .ok (.getfield 163, 3) := by decide +kernel
theorem dL_passes_58 : decode cL_passes 58 = .ok (.iconst 2, 1) := by decide +kernel
theorem dL_passes_59 : decode cL_passes 59 = .ok (.idiv, 1) := by decide +kernel
theorem dL_passes_60 : decode cL_passes 60 = .ok (.iconst 4, 1) := by decide +kernel
theorem dL_passes_61 : decode cL_passes 61 = .ok (.iload_n 1, 1) := by decide +kernel
theorem dL_passes_62 : decode cL_passes 62 = .ok (.imul, 1) := by decide +kernel
theorem dL_passes_63 : decode cL_passes 63 = .ok (.iadd, 1) := by decide +kernel
theorem dL_passes_64 : decode cL_passes 64 = .ok (.putfield 163, 3) := by decide +kernel
theorem dL_passes_67 : decode cL_passes 67 = .ok (.iconst 0, 1) := by decide +kernel
theorem dL_passes_68 : decode cL_passes 68 = .ok (.istore_n 2, 1) := by decide +kernel
theorem dL_passes_69 : decode cL_passes 69 = .ok (.iload_n 2, 1) := by decide +kernel
theorem dL_passes_70 : decode cL_passes 70 = .ok (.aload_n 0, 1) := by decide +kernel
theorem dL_passes_71 : decode cL_passes 71 = .ok (.getfield 19, 3) := by decide +kernel
theorem dL_passes_74 : decode cL_passes 74 = .ok (.invokevirtual 210, 3) := by decide +kernel
theorem dL_passes_77 : decode cL_passes 77 = .ok (.if_icmp .ge 43, 3) := by decide +kernel
theorem dL_passes_80 : decode cL_passes 80 = .ok (.aload_n 0, 1) := by decide +kernel
theorem dL_passes_81 : decode cL_passes 81 = .ok (.getfield 19, 3) := by decide +kernel
theorem dL_passes_84 : decode cL_passes 84 = .ok (.iload_n 2, 1) := by decide +kernel
theorem dL_passes_85 : decode cL_passes 85 = .ok (.invokevirtual 246, 3) := by decide +kernel
theorem dL_passes_88 : decode cL_passes 88 = .ok (.checkcast 207, 3) := by decide +kernel
theorem dL_passes_91 : decode cL_passes 91 = .ok (.getfield 284, 3) := by decide +kernel
theorem dL_passes_94 : decode cL_passes 94 = .ok (.aload_n 0, 1) := by decide +kernel
theorem dL_passes_95 : decode cL_passes 95 = .ok (.aload_n 0, 1) := by decide +kernel
theorem dL_passes_96 : decode cL_passes 96 = .ok (.getfield 19, 3) := by decide +kernel
theorem dL_passes_99 : decode cL_passes 99 = .ok (.iload_n 2, 1) := by decide +kernel
theorem dL_passes_100 : decode cL_passes 100 = .ok (.invokevirtual 246, 3) := by decide +kernel
theorem dL_passes_103 : decode cL_passes 103 = .ok (.checkcast 207, 3) := by decide +kernel
theorem dL_passes_106 : decode cL_passes 106 = .ok (.invokevirtual 287, 3) := by decide +kernel
theorem dL_passes_109 : decode cL_passes 109 = .ok (.dup2, 1) := by decide +kernel
theorem dL_passes_110 : decode cL_passes 110 = .ok (.iaload, 1) := by decide +kernel
theorem dL_passes_111 : decode cL_passes 111 = .ok (.iconst 1, 1) := by decide +kernel
theorem dL_passes_112 : decode cL_passes 112 = .ok (.iadd, 1) := by decide +kernel
theorem dL_passes_113 : decode cL_passes 113 = .ok (.iastore, 1) := by decide +kernel
theorem dL_passes_114 : decode cL_passes 114 = .ok (.iinc 2 1, 3) := by decide +kernel
theorem dL_passes_117 : decode cL_passes 117 = .ok (.goto (-48), 3) := by decide +kernel
theorem dL_passes_120 : decode cL_passes 120 = .ok (.aload_n 0, 1) := by decide +kernel
theorem dL_passes_121 : decode cL_passes 121 = .ok (.dup, 1) := by decide +kernel
theorem dL_passes_122 : decode cL_passes 122 = .ok (.getfield 160, 3) := by decide +kernel
theorem dL_passes_125 : decode cL_passes 125 = .ok (.iconst 1, 1) := by decide +kernel
theorem dL_passes_126 : decode cL_passes 126 = .ok (.iadd, 1) := by decide +kernel
theorem dL_passes_127 : decode cL_passes 127 = .ok (.putfield 160, 3) := by decide +kernel
theorem dL_passes_130 : decode cL_passes 130 = .ok (.aload_n 0, 1) := by decide +kernel
theorem dL_passes_131 : decode cL_passes 131 = .ok (.getfield 160, 3) := by decide +kernel
theorem dL_passes_134 : decode cL_passes 134 = .ok (.bipush 8, 2) := by decide +kernel
theorem dL_passes_136 : decode cL_passes 136 = .ok (.irem, 1) := by decide +kernel
theorem dL_passes_137 : decode cL_passes 137 = .ok (.ifCond .ne 7, 3) := by decide +kernel
theorem dL_passes_140 : decode cL_passes 140 = .ok (.aload_n 0, 1) := by decide +kernel
theorem dL_passes_141 : decode cL_passes 141 = .ok (.invokevirtual 290, 3) := by decide +kernel
theorem dL_passes_144 : decode cL_passes 144 = .ok (.return_, 1) := by decide +kernel
theorem dL_same_0 : decode cL_same 0 = .ok (.iconst 0, 1) := by decide +kernel
theorem dL_same_1 : decode cL_same 1 = .ok (.istore_n 1, 1) := by decide +kernel
theorem dL_same_2 : decode cL_same 2 = .ok (.iconst 0, 1) := by decide +kernel
theorem dL_same_3 : decode cL_same 3 = .ok (.istore_n 2, 1) := by decide +kernel
theorem dL_same_4 : decode cL_same 4 = .ok (.iconst 0, 1) := by decide +kernel
theorem dL_same_5 : decode cL_same 5 = .ok (.istore_n 3, 1) := by decide +kernel
theorem dL_same_6 : decode cL_same 6 = .ok (.iconst 0, 1) := by decide +kernel
theorem dL_same_7 : decode cL_same 7 = .ok (.istore 4, 2) := by decide +kernel
theorem dL_same_9 : decode cL_same 9 = .ok (.iconst 0, 1) := by decide +kernel
theorem dL_same_10 : decode cL_same 10 = .ok (.istore 5, 2) := by decide +kernel
theorem dL_same_12 : decode cL_same 12 = .ok (.iconst 0, 1) := by decide +kernel
theorem dL_same_13 : decode cL_same 13 = .ok (.istore 6, 2) := by decide +kernel
theorem dL_same_15 : decode cL_same 15 = .ok (.iload 6, 2) := by decide +kernel
theorem dL_same_17 : decode cL_same 17 = .ok (.aload_n 0, 1) := by decide +kernel
theorem dL_same_18 : decode cL_same 18 = .ok (.getfield 19, 3) := by decide +kernel
theorem dL_same_21 : decode cL_same 21 = .ok (.invokevirtual 210, 3) := by decide +kernel
theorem dL_same_24 : decode cL_same 24 = .ok (.if_icmp .ge 232, 3) := by decide +kernel
theorem dL_same_27 : decode cL_same 27 = .ok (.aload_n 0, 1) := by decide +kernel
theorem dL_same_28 : decode cL_same 28 = .ok (.getfield 19, 3) := by decide +kernel
theorem dL_same_31 : decode cL_same 31 = .ok (.iload 6, 2) := by decide +kernel
theorem dL_same_33 : decode cL_same 33 = .ok (.invokevirtual 246, 3) := by decide +kernel
theorem dL_same_36 : decode cL_same 36 = .ok (.checkcast 207, 3) := by decide +kernel
theorem dL_same_39 : decode cL_same 39 = .ok (.astore 7, 2) := by decide +kernel
theorem dL_same_41 : decode cL_same 41 = .ok (.iconst 0, 1) := by decide +kernel
theorem dL_same_42 : decode cL_same 42 = .ok (.istore 8, 2) := by decide +kernel
theorem dL_same_44 : decode cL_same 44 = .ok (.iload 8, 2) := by decide +kernel
theorem dL_same_46 : decode cL_same 46 = .ok (.iconst 4, 1) := by decide +kernel
theorem dL_same_47 : decode cL_same 47 = .ok (.if_icmp .ge 33, 3) := by decide +kernel
theorem dL_same_50 : decode cL_same 50 = .ok (.aload_n 0, 1) := by decide +kernel
theorem dL_same_51 : decode cL_same 51 = .ok (.getfield 10, 3) := by decide +kernel
theorem dL_same_54 : decode cL_same 54 = .ok (.iload 6, 2) := by decide +kernel
theorem dL_same_56 : decode cL_same 56 = .ok (.iload 8, 2) := by decide +kernel
theorem dL_same_58 : decode cL_same 58 = .ok (.invokestatic 293, 3) := by decide +kernel
theorem dL_same_61 : decode cL_same 61 = .ok (.aload 7, 2) := by decide +kernel
theorem dL_same_63 : decode cL_same 63 = .ok (.getfield 284, 3) := by decide +kernel
theorem dL_same_66 : decode cL_same 66 = .ok (.iload 8, 2) := by decide +kernel
theorem dL_same_68 : decode cL_same 68 = .ok (.iaload, 1) := by decide +kernel
theorem dL_same_69 : decode cL_same 69 = .ok (.if_icmp .eq 5, 3) := by decide +kernel
theorem dL_same_72 : decode cL_same 72 = .ok (.iconst 0, 1) := by decide +kernel
theorem dL_same_73 : decode cL_same 73 = .ok (.ireturn, 1) := by decide +kernel
theorem dL_same_74 : decode cL_same 74 = .ok (.iinc 8 1, 3) := by decide +kernel
theorem dL_same_77 : decode cL_same 77 = .ok (.goto (-33), 3) := by decide +kernel
theorem dL_same_80 : decode cL_same 80 = .ok (.aload_n 0, 1) := by decide +kernel
theorem dL_same_81 : decode cL_same 81 = .ok (.getfield 10, 3) := by decide +kernel
theorem dL_same_84 : decode cL_same 84 = .ok (.iload 6, 2) := by decide +kernel
theorem dL_same_86 : decode cL_same 86 = .ok (.invokestatic 296, 3) := by decide +kernel
theorem dL_same_89 : decode cL_same 89 = .ok (.aload 7, 2) := by decide +kernel
theorem dL_same_91 : decode cL_same 91 = .ok (.getfield 250, 3) := by decide +kernel
theorem dL_same_94 : decode cL_same 94 = .ok (.if_icmp .ne 90, 3) := by decide +kernel
theorem dL_same_97 : decode cL_same 97 = .ok (.aload_n 0, 1) := by decide +kernel
theorem dL_same_98 : decode cL_same 98 = .ok (.getfield 10, 3) := by decide +kernel
theorem dL_same_101 : decode cL_same 101 = .ok (.iload 6, 2) := by decide +kernel
theorem dL_same_103 : decode cL_same 103 = .ok (.invokestatic 298, 3) := by decide +kernel
theorem dL_same_106 : decode cL_same 106 = .ok (.aload 7, 2) := by decide +kernel
theorem dL_same_108 : decode cL_same 108 = .ok (.getfield 253, 3) := by decide +kernel
theorem dL_same_111 : decode cL_same 111 = .ok (.if_icmp .ne 73, 3) := by decide +kernel
theorem dL_same_114 : decode cL_same 114 = .ok (.aload_n 0, 1) := by decide +kernel
theorem dL_same_115 : decode cL_same 115 = .ok (.getfield 10, 3) := by decide +kernel
theorem dL_same_118 : decode cL_same 118 = .ok (.iload 6, 2) := by decide +kernel
theorem dL_same_120 : decode cL_same 120 = .ok (.invokestatic 300, 3) := by decide +kernel
theorem dL_same_123 : decode cL_same 123 = .ok (.aload_n 0, 1) := by decide +kernel
theorem dL_same_124 : decode cL_same 124 = .ok (.aload 7, 2) := by decide +kernel
theorem dL_same_126 : decode cL_same 126 = .ok (.invokevirtual 260, 3) := by decide +kernel
theorem dL_same_129 : decode cL_same 129 = .ok (.if_icmp .ne 55, 3) := by decide +kernel
theorem dL_same_132 : decode cL_same 132 = .ok (.aload_n 0, 1) := by decide +kernel
theorem dL_same_133 : decode cL_same 133 = .ok (.getfield 10, 3) := by decide +kernel
theorem dL_same_136 : decode cL_same 136 = .ok (.iload 6, 2) := by decide +kernel
theorem dL_same_138 : decode cL_same 138 = .ok (.invokestatic 302, 3) := by decide +kernel
theorem dL_same_141 : decode cL_same 141 = .ok (.aload_n 0, 1) := by decide +kernel
theorem dL_same_142 : decode cL_same 142 = .ok (.aload 7, 2) := by decide +kernel
theorem dL_same_144 : decode cL_same 144 = .ok (.invokevirtual 287, 3) := by decide +kernel
theorem dL_same_147 : decode cL_same 147 = .ok (.if_icmp .ne 37, 3) := by decide +kernel
theorem dL_same_150 : decode cL_same 150 = .ok (.aload_n 0, 1) := by decide +kernel
theorem dL_same_151 : decode cL_same 151 = .ok (.getfield 10, 3) := by decide +kernel
theorem dL_same_154 : decode cL_same 154 = .ok (.iload 6, 2) := by decide +kernel
theorem dL_same_156 : decode cL_same 156 = .ok (.invokestatic 304, 3) := by decide +kernel
theorem dL_same_159 : decode cL_same 159 = .ok (.aload 7, 2) := by decide +kernel
theorem dL_same_161 : decode cL_same 161 = .ok (.getfield 222, 3) := by decide +kernel
theorem dL_same_164 : decode cL_same 164 = .ok (.if_icmp .ne 20, 3) := by decide +kernel
theorem dL_same_167 : decode cL_same 167 = .ok (.aload_n 0, 1) := by decide +kernel
theorem dL_same_168 : decode cL_same 168 = .ok (.getfield 10, 3) := by decide +kernel
theorem dL_same_171 : decode cL_same 171 = .ok (.iload 6, 2) := by decide +kernel
theorem dL_same_173 : decode cL_same 173 = .ok (.invokestatic 306, 3) := by decide +kernel
theorem dL_same_176 : decode cL_same 176 = .ok (.aload 7, 2) := by decide +kernel
theorem dL_same_178 : decode cL_same 178 = .ok (.getfield 277, 3) := by decide +kernel
theorem dL_same_181 : decode cL_same 181 = .ok (.if_icmp .eq 5, 3) := by decide +kernel
theorem dL_same_184 : decode cL_same 184 = .ok (.iconst 0, 1) := by decide +kernel
theorem dL_same_185 : decode cL_same 185 = .ok (.ireturn, 1) := by decide +kernel
theorem dL_same_186 : decode cL_same 186 = .ok (.iload_n 1, 1) := by decide +kernel
theorem dL_same_187 : decode cL_same 187 = .ok (.aload 7, 2) := by decide +kernel
theorem dL_same_189 : decode cL_same 189 = .ok (.getfield 277, 3) := by decide +kernel
theorem dL_same_192 : decode cL_same 192 = .ok (.iadd, 1) := by decide +kernel
theorem dL_same_193 : decode cL_same 193 = .ok (.istore_n 1, 1) := by decide +kernel
theorem dL_same_194 : decode cL_same 194 = .ok (.iload_n 2, 1) := by decide +kernel
theorem dL_same_195 : decode cL_same 195 = .ok (.aload_n 0, 1) := by decide +kernel
theorem dL_same_196 : decode cL_same 196 = .ok (.aload 7, 2) := by decide +kernel
theorem dL_same_198 : decode cL_same 198 = .ok (.invokevirtual 264, 3) := by decide +kernel
theorem dL_same_201 : decode cL_same 201 = .ok (.ifCond .eq 7, 3) := by decide +kernel
theorem dL_same_204 : decode cL_same 204 = .ok (.iconst 1, 1) := by decide +kernel
theorem dL_same_205 : decode cL_same 205 = .ok (.goto 4, 3) := by decide +kernel
theorem dL_same_208 : decode cL_same 208 = .ok (.iconst 0, 1) := by decide +kernel
theorem dL_same_209 : decode cL_same 209 = .ok (.iadd, 1) := by decide +kernel
theorem dL_same_210 : decode cL_same 210 = .ok (.istore_n 2, 1) := by decide +kernel
theorem dL_same_211 : decode cL_same 211 = .ok (.iload_n 3, 1) := by decide +kernel
theorem dL_same_212 : decode cL_same 212 = .ok (.aload 7, 2) := by decide +kernel
theorem dL_same_214 : decode cL_same 214 = .ok (.getfield 284, 3) := by decide +kernel
theorem dL_same_217 : decode cL_same 217 = .ok (.iconst 2, 1) := by decide +kernel
theorem dL_same_218 : decode cL_same 218 = .ok (.iaload, 1) := by decide +kernel
theorem dL_same_219 : decode cL_same 219 = .ok (.iadd, 1) := by decide +kernel
theorem dL_same_220 : decode cL_same 220 = .ok (.istore_n 3, 1) := by decide +kernel
theorem dL_same_221 : decode cL_same 221 = .ok (.iload 4, 2) := by decide +kernel
theorem dL_same_223 : decode cL_same 223 = .ok (.aload 7, 2) := by decide +kernel
theorem dL_same_225 : decode cL_same 225 = .ok (.getfield 253, 3) := by decide +kernel
theorem dL_same_228 : decode cL_same 228 = .ok (.ifCond .ge 7, 3) := by decide +kernel
theorem dL_same_231 : decode cL_same 231 = .ok (.iconst 1, 1) := by decide +kernel
theorem dL_same_232 : decode cL_same 232 = .ok (.goto 4, 3) := by decide +kernel
theorem dL_same_235 : decode cL_same 235 = .ok (.iconst 0, 1) := by decide +kernel
theorem dL_same_236 : decode cL_same 236 = .ok (.iadd, 1) := by decide +kernel
theorem dL_same_237 : decode cL_same 237 = .ok (.istore 4, 2) := by decide +kernel
theorem dL_same_239 : decode cL_same 239 = .ok (.iload 5, 2) := by decide +kernel
theorem dL_same_241 : decode cL_same 241 = .ok (.aload_n 0, 1) := by decide +kernel
theorem dL_same_242 : decode cL_same 242 = .ok (.aload 7, 2) := by decide +kernel
theorem dL_same_244 : decode cL_same 244 = .ok (.invokevirtual 260, 3) := by decide +kernel
theorem dL_same_247 : decode cL_same 247 = .ok (.iadd, 1) := by decide +kernel
theorem dL_same_248 : decode cL_same 248 = .ok (.istore 5, 2) := by decide +kernel
theorem dL_same_250 : decode cL_same 250 = .ok (.iinc 6 1, 3) := by decide +kernel
theorem dL_same_253 : decode cL_same 253 = .ok (.goto (-238), 3) := by decide +kernel
theorem dL_same_256 : decode cL_same 256 = .ok (.iconst 0, 1) := by decide +kernel
theorem dL_same_257 : decode cL_same 257 = .ok (.istore 6, 2) := by decide +kernel
theorem dL_same_259 : decode cL_same 259 = .ok (.iload 6, 2) := by decide +kernel
theorem dL_same_261 : decode cL_same 261 = .ok (.aload_n 0, 1) := by decide +kernel
theorem dL_same_262 : decode cL_same 262 = .ok (.getfield 175, 3) := by decide +kernel
theorem dL_same_265 : decode cL_same 265 = .ok (.if_icmp .ge 63, 3) := by decide +kernel
theorem dL_same_268 : decode cL_same 268 = .ok (.aload_n 0, 1) := by decide +kernel
theorem dL_same_269 : decode cL_same 269 = .ok (.getfield 10, 3) := by decide +kernel
theorem dL_same_272 : decode cL_same 272 = .ok (.iload 6, 2) := by decide +kernel
theorem dL_same_274 : decode cL_same 274 = .ok (.invokestatic 308, 3) := by decide +kernel
theorem dL_same_277 : decode cL_same 277 = .ok (.aload_n 0, 1) := by decide +kernel
theorem dL_same_278 : decode cL_same 278 = .ok (.iload 6, 2) := by decide +kernel
theorem dL_same_280 : decode cL_same 280 = .ok (.invokevirtual 256, 3) := by decide +kernel
theorem dL_same_283 : decode cL_same 283 = .ok (.ifnonnull 7, 3) := by decide +kernel
theorem dL_same_286 : decode cL_same 286 = .ok (.iconst (-1), 1) := by decide +kernel
theorem dL_same_287 : decode cL_same 287 = .ok (.goto 12, 3) := by decide +kernel
theorem dL_same_290 : decode cL_same 290 = .ok (.aload_n 0, 1) := by decide +kernel
theorem dL_same_291 : decode cL_same 291 = .ok (.iload 6, 2) := by decide +kernel
theorem dL_same_293 : decode cL_same 293 = .ok (.invokevirtual 256, 3) := by decide +kernel
theorem dL_same_296 : decode cL_same 296 = .ok (.getfield 213, 3) := by decide +kernel
theorem dL_same_299 : decode cL_same 299 = .ok (.if_icmp .ne 21, 3) := by decide +kernel
theorem dL_same_302 : decode cL_same 302 = .ok (.aload_n 0, 1) := by decide +kernel
theorem dL_same_303 : decode cL_same 303 = .ok (.getfield 10, 3) := by decide +kernel
theorem dL_same_306 : decode cL_same 306 = .ok (.iload 6, 2) := by decide +kernel
theorem dL_same_308 : decode cL_same 308 = .ok (.invokestatic 310, 3) := by decide +kernel
theorem dL_same_311 : decode cL_same 311 = .ok (.aload_n 0, 1) := by decide +kernel
theorem dL_same_312 : decode cL_same 312 = .ok (.iload 6, 2) := by decide +kernel
theorem dL_same_314 : decode cL_same 314 = .ok (.invokevirtual 271, 3) := by decide +kernel
theorem dL_same_317 : decode cL_same 317 = .ok (.if_icmp .eq 5, 3) := by decide +kernel
theorem dL_same_320 : decode cL_same 320 = .ok (.iconst 0, 1) := by decide +kernel
theorem dL_same_321 : decode cL_same 321 = .ok (.ireturn, 1) := by decide +kernel
theorem dL_same_322 : decode cL_same 322 = .ok (.iinc 6 1, 3) := by decide +kernel
theorem dL_same_325 : decode cL_same 325 = .ok (.goto (-66), 3) := by decide +kernel
theorem dL_same_328 : decode cL_same 328 = .ok (.iconst 0, 1) := by decide +kernel
theorem dL_same_329 : decode cL_same 329 = .ok (.istore 6, 2) := by decide +kernel
theorem dL_same_331 : decode cL_same 331 = .ok (.iload 6, 2) := by decide +kernel
theorem dL_same_333 : decode cL_same 333 = .ok (.aload_n 0, 1) := by decide +kernel
theorem dL_same_334 : decode cL_same 334 = .ok (.getfield 178, 3) := by decide +kernel
theorem dL_same_337 : decode cL_same 337 = .ok (.if_icmp .ge 45, 3) := by decide +kernel
theorem dL_same_340 : decode cL_same 340 = .ok (.aload_n 0, 1) := by decide +kernel
theorem dL_same_341 : decode cL_same 341 = .ok (.getfield 10, 3) := by decide +kernel
theorem dL_same_344 : decode cL_same 344 = .ok (.iload 6, 2) := by decide +kernel
theorem dL_same_346 : decode cL_same 346 = .ok (.invokestatic 312, 3) := by decide +kernel
theorem dL_same_349 : decode cL_same 349 = .ok (.aload_n 0, 1) := by decide +kernel
theorem dL_same_350 : decode cL_same 350 = .ok (.iload 6, 2) := by decide +kernel
theorem dL_same_352 : decode cL_same 352 = .ok (.invokevirtual 314, 3) := by decide +kernel
theorem dL_same_355 : decode cL_same 355 = .ok (.ifnonnull 7, 3) := by decide +kernel
theorem dL_same_358 : decode cL_same 358 = .ok (.iconst (-1), 1) := by decide +kernel
theorem dL_same_359 : decode cL_same 359 = .ok (.goto 12, 3) := by decide +kernel
theorem dL_same_362 : decode cL_same 362 = .ok (.aload_n 0, 1) := by decide +kernel
theorem dL_same_363 : decode cL_same 363 = .ok (.iload 6, 2) := by decide +kernel
theorem dL_same_365 : decode cL_same 365 = .ok (.invokevirtual 314, 3) := by decide +kernel
theorem dL_same_368 : decode cL_same 368 = .ok (.getfield 213, 3) := by decide +kernel
theorem dL_same_371 : decode cL_same 371 = .ok (.if_icmp .eq 5, 3) := by decide +kernel
theorem dL_same_374 : decode cL_same 374 = .ok (.iconst 0, 1) := by decide +kernel
theorem dL_same_375 : decode cL_same 375 = .ok (.ireturn, 1) := by decide +kernel
theorem dL_same_376 : decode cL_same 376 = .ok (.iinc 6 1, 3) := by decide +kernel
theorem dL_same_379 : decode cL_same 379 = .ok (.goto (-48), 3) := by decide +kernel
theorem dL_same_382 : decode cL_same 382 = .ok (.iconst 1, 1) := by decide +kernel
theorem dL_same_383 : decode cL_same 383 = .ok (.istore 6, 2) := by decide +kernel
theorem dL_same_385 : decode cL_same 385 = .ok (.iload 6, 2) := by decide +kernel
theorem dL_same_387 : decode cL_same 387 = .ok (.aload_n 0, 1) := by decide +kernel
theorem dL_same_388 : decode cL_same 388 = .ok (.getfield 19, 3) := by decide +kernel
theorem dL_same_391 : decode cL_same 391 = .ok (.invokevirtual 210, 3) := by decide +kernel
theorem dL_same_394 : decode cL_same 394 = .ok (.if_icmp .ge 130, 3) := by decide +kernel
theorem dL_same_397 : decode cL_same 397 = .ok (.aload_n 0, 1) := by decide +kernel
theorem dL_same_398 : decode cL_same 398 = .ok (.getfield 19, 3) := by decide +kernel
theorem dL_same_401 : decode cL_same 401 = .ok (.aload_n 0, 1) := by decide +kernel
theorem dL_same_402 : decode cL_same 402 = .ok (.getfield 10, 3) := by decide +kernel
theorem dL_same_405 : decode cL_same 405 = .ok (.iload 6, 2) := by decide +kernel
theorem dL_same_407 : decode cL_same 407 = .ok (.iconst 1, 1) := by decide +kernel
theorem dL_same_408 : decode cL_same 408 = .ok (.isub, 1) := by decide +kernel
theorem dL_same_409 : decode cL_same 409 = .ok (.invokestatic 317, 3) := by decide +kernel
theorem dL_same_412 : decode cL_same 412 = .ok (.invokevirtual 246, 3) := by decide +kernel
theorem dL_same_415 : decode cL_same 415 = .ok (.checkcast 207, 3) := by decide +kernel
theorem dL_same_418 : decode cL_same 418 = .ok (.astore 7, 2) := by decide +kernel
theorem dL_same_420 : decode cL_same 420 = .ok (.aload_n 0, 1) := by decide +kernel
theorem dL_same_421 : decode cL_same 421 = .ok (.getfield 19, 3) := by decide +kernel
theorem dL_same_424 : decode cL_same 424 = .ok (.aload_n 0, 1) := by decide +kernel
theorem dL_same_425 : decode cL_same 425 = .ok (.getfield 10, 3) := by decide +kernel
theorem dL_same_428 : decode cL_same 428 = .ok (.iload 6, 2) := by decide +kernel
theorem dL_same_430 : decode cL_same 430 = .ok (.invokestatic 317, 3) := by decide +kernel
theorem dL_same_433 : decode cL_same 433 = .ok (.invokevirtual 246, 3) := by decide +kernel
theorem dL_same_436 : decode cL_same 436 = .ok (.checkcast 207, 3) := by decide +kernel
theorem dL_same_439 : decode cL_same 439 = .ok (.astore 8, 2) := by decide +kernel
theorem dL_same_441 : decode cL_same 441 = .ok (.aload 7, 2) := by decide +kernel
theorem dL_same_443 : decode cL_same 443 = .ok (.getfield 284, 3) := by decide +kernel
theorem dL_same_446 : decode cL_same 446 = .ok (.iconst 2, 1) := by decide +kernel
theorem dL_same_447 : decode cL_same 447 = .ok (.iaload, 1) := by decide +kernel
theorem dL_same_448 : decode cL_same 448 = .ok (.aload 8, 2) := by decide +kernel
theorem dL_same_450 : decode cL_same 450 = .ok (.getfield 284, 3) := by decide +kernel
theorem dL_same_453 : decode cL_same 453 = .ok (.iconst 2, 1) := by decide +kernel
theorem dL_same_454 : decode cL_same 454 = .ok (.iaload, 1) := by decide +kernel
theorem dL_same_455 : decode cL_same 455 = .ok (.if_icmp .eq 21, 3) := by decide +kernel
theorem dL_same_458 : decode cL_same 458 = .ok (.aload 7, 2) := by decide +kernel
theorem dL_same_460 : decode cL_same 460 = .ok (.getfield 284, 3) := by decide +kernel
theorem dL_same_463 : decode cL_same 463 = .ok (.iconst 2, 1) := by decide +kernel
theorem dL_same_464 : decode cL_same 464 = .ok (.iaload, 1) := by decide +kernel
theorem dL_same_465 : decode cL_same 465 = .ok (.aload 8, 2) := by decide +kernel
theorem dL_same_467 : decode cL_same 467 = .ok (.getfield 284, 3) := by decide +kernel
theorem dL_same_470 : decode cL_same 470 = .ok (.iconst 2, 1) := by decide +kernel
theorem dL_same_471 : decode cL_same 471 = .ok (.iaload, 1) := by decide +kernel
theorem dL_same_472 : decode cL_same 472 = .ok (.isub, 1) := by decide +kernel
theorem dL_same_473 : decode cL_same 473 = .ok (.goto 18, 3) := by decide +kernel
theorem dL_same_476 : decode cL_same 476 = .ok (.aload 8, 2) := by decide +kernel
theorem dL_same_478 : decode cL_same 478 = .ok (.getfield 284, 3) := by decide +kernel
theorem dL_same_481 : decode cL_same 481 = .ok (.iconst 0, 1) := by decide +kernel
theorem dL_same_482 : decode cL_same 482 = .ok (.iaload, 1) := by decide +kernel
theorem dL_same_483 : decode cL_same 483 = .ok (.aload 7, 2) := by decide +kernel
theorem dL_same_485 : decode cL_same 485 = .ok (.getfield 284, 3) := by decide +kernel
theorem dL_same_488 : decode cL_same 488 = .ok (.iconst 0, 1) := by decide +kernel
theorem dL_same_489 : decode cL_same 489 = .ok (.iaload, 1) := by decide +kernel
theorem dL_same_490 : decode cL_same 490 = .ok (.isub, 1) := by decide +kernel
theorem dL_same_491 : decode cL_same 491 = .ok (.istore 9, 2) := by decide +kernel
theorem dL_same_493 : decode cL_same 493 = .ok (.iload 9, 2) := by decide +kernel
theorem dL_same_495 : decode cL_same 495 = .ok (.ifCond .lt 21, 3) := by decide +kernel
theorem dL_same_498 : decode cL_same 498 = .ok (.iload 9, 2) := by decide +kernel
theorem dL_same_500 : decode cL_same 500 = .ok (.ifCond .ne 18, 3) := by decide +kernel
theorem dL_same_503 : decode cL_same 503 = .ok (.aload 7, 2) := by decide +kernel
theorem dL_same_505 : decode cL_same 505 = .ok (.getfield 213, 3) := by decide +kernel
theorem dL_same_508 : decode cL_same 508 = .ok (.aload 8, 2) := by decide +kernel
theorem dL_same_510 : decode cL_same 510 = .ok (.getfield 213, 3) := by decide +kernel
theorem dL_same_513 : decode cL_same 513 = .ok (.if_icmp .le 5, 3) := by decide +kernel
theorem dL_same_516 : decode cL_same 516 = .ok (.iconst 0, 1) := by decide +kernel
theorem dL_same_517 : decode cL_same 517 = .ok (.ireturn, 1) := by decide +kernel
theorem dL_same_518 : decode cL_same 518 = .ok (.iinc 6 1, 3) := by decide +kernel
theorem dL_same_521 : decode cL_same 521 = .ok (.goto (-136), 3) := by decide +kernel
theorem dL_same_524 : decode cL_same 524 = .ok (.aload_n 0, 1) := by decide +kernel
theorem dL_same_525 : decode cL_same 525 = .ok (.getfield 160, 3) := by decide +kernel
theorem dL_same_528 : decode cL_same 528 = .ok (.aload_n 0, 1) := by decide +kernel
theorem dL_same_529 : decode cL_same 529 = .ok (.getfield 19, 3) := by decide +kernel
theorem dL_same_532 : decode cL_same 532 = .ok (.invokevirtual 210, 3) := by decide +kernel
theorem dL_same_535 : decode cL_same 535 = .ok (.imul, 1) := by decide +kernel
theorem dL_same_536 : decode cL_same 536 = .ok (.istore 6, 2) := by decide +kernel
theorem dL_same_538 : decode cL_same 538 = .ok (.aload_n 0, 1) := by decide +kernel
theorem dL_same_539 : decode cL_same 539 = .ok (.getfield 10, 3) := by decide +kernel
theorem dL_same_542 : decode cL_same 542 = .ok (.invokevirtual 320, 3) := by decide +kernel
theorem dL_same_545 : decode cL_same 545 = .ok (.aload_n 0, 1) := by decide +kernel
theorem dL_same_546 : decode cL_same 546 = .ok (.getfield 160, 3) := by decide +kernel
theorem dL_same_549 : decode cL_same 549 = .ok (.if_icmp .ne 190, 3) := by decide +kernel
theorem dL_same_552 : decode cL_same 552 = .ok (.aload_n 0, 1) := by decide +kernel
theorem dL_same_553 : decode cL_same 553 = .ok (.getfield 10, 3) := by decide +kernel
theorem dL_same_556 : decode cL_same 556 = .ok (.invokevirtual 322, 3) := by decide +kernel
theorem dL_same_559 : decode cL_same 559 = .ok (.aload_n 0, 1) := by decide +kernel
theorem dL_same_560 : decode cL_same 560 = .ok (.getfield 172, 3) := by decide +kernel
theorem dL_same_563 : decode cL_same 563 = .ok (.if_icmp .ne 176, 3) := by decide +kernel
theorem dL_same_566 : decode cL_same 566 = .ok (.aload_n 0, 1) := by decide +kernel
theorem dL_same_567 : decode cL_same 567 = .ok (.getfield 10, 3) := by decide +kernel
theorem dL_same_570 : decode cL_same 570 = .ok (.invokevirtual 324, 3) := by decide +kernel
theorem dL_same_573 : decode cL_same 573 = .ok (.aload_n 0, 1) := by decide +kernel
theorem dL_same_574 : decode cL_same 574 = .ok (.getfield 30, 3) := by decide +kernel
theorem dL_same_577 : decode cL_same 577 = .ok (.aload_n 0, 1) := by decide +kernel
theorem dL_same_578 : decode cL_same 578 = .ok (.getfield 160, 3) := by decide +kernel
theorem dL_same_581 : decode cL_same 581 = .ok (.aload_n 0, 1) := by decide +kernel
theorem dL_same_582 : decode cL_same 582 = .ok (.getfield 181, 3) := by decide +kernel
theorem dL_same_585 : decode cL_same 585 = .ok (.irem, 1) := by decide +kernel
theorem dL_same_586 : decode cL_same 586 = .ok (.iaload, 1) := by decide +kernel
theorem dL_same_587 : decode cL_same 587 = .ok (.aload_n 0, 1) := by decide +kernel
theorem dL_same_588 : decode cL_same 588 = .ok (.getfield 163, 3) := by decide +kernel
theorem dL_same_591 : decode cL_same 591 = .ok (.iadd, 1) := by decide +kernel
theorem dL_same_592 : decode cL_same 592 = .ok (.if_icmp .ne 147, 3) := by decide +kernel
theorem dL_same_595 : decode cL_same 595 = .ok (.aload_n 0, 1) := by decide +kernel
theorem dL_same_596 : decode cL_same 596 = .ok (.getfield 10, 3) := by decide +kernel
theorem dL_same_599 : decode cL_same 599 = .ok (.invokevirtual 327, 3) := by decide +kernel
theorem dL_same_602 : decode cL_same 602 = .ok (.aload_n 0, 1) := by decide +kernel
theorem dL_same_603 : decode cL_same 603 = .ok (.getfield 151, 3) := by decide +kernel
theorem dL_same_606 : decode cL_same 606 = .ok (.if_icmp .ne 133, 3) := by decide +kernel
theorem dL_same_609 : decode cL_same 609 = .ok (.aload_n 0, 1) := by decide +kernel
theorem dL_same_610 : decode cL_same 610 = .ok (.getfield 10, 3) := by decide +kernel
theorem dL_same_613 : decode cL_same 613 = .ok (.invokevirtual 330, 3) := by decide +kernel
theorem dL_same_616 : decode cL_same 616 = .ok (.aload_n 0, 1) := by decide +kernel
theorem dL_same_617 : decode cL_same 617 = .ok (.getfield 157, 3) := by decide +kernel
theorem dL_same_620 : decode cL_same 620 = .ok (.if_icmp .ne 119, 3) := by decide +kernel
theorem dL_same_623 : decode cL_same 623 = .ok (.aload_n 0, 1) := by decide +kernel
theorem dL_same_624 : decode cL_same 624 = .ok (.getfield 10, 3) := by decide +kernel
theorem dL_same_627 : decode cL_same 627 = .ok (.invokevirtual 333, 3) := by decide +kernel
theorem dL_same_630 : decode cL_same 630 = .ok (.iload_n 1, 1) := by decide +kernel
theorem dL_same_631 : decode cL_same 631 = .ok (.if_icmp .ne 108, 3) := by decide +kernel
theorem dL_same_634 : decode cL_same 634 = .ok (.aload_n 0, 1) := by decide +kernel
theorem dL_same_635 : decode cL_same 635 = .ok (.getfield 10, 3) := by decide +kernel
theorem dL_same_638 : decode cL_same 638 = .ok (.invokevirtual 336, 3) := by decide +kernel
theorem dL_same_641 : decode cL_same 641 = .ok (.iload_n 2, 1) := by decide +kernel
theorem dL_same_642 : decode cL_same 642 = .ok (.if_icmp .ne 97, 3) := by decide +kernel
theorem dL_same_645 : decode cL_same 645 = .ok (.aload_n 0, 1) := by decide +kernel
theorem dL_same_646 : decode cL_same 646 = .ok (.getfield 10, 3) := by decide +kernel
theorem dL_same_649 : decode cL_same 649 = .ok (.invokevirtual 339, 3) := by decide +kernel
theorem dL_same_652 : decode cL_same 652 = .ok (.iload 4, 2) := by decide +kernel
theorem dL_same_654 : decode cL_same 654 = .ok (.if_icmp .ne 85, 3) := by decide +kernel
theorem dL_same_657 : decode cL_same 657 = .ok (.aload_n 0, 1) := by decide +kernel
theorem dL_same_658 : decode cL_same 658 = .ok (.getfield 10, 3) := by decide +kernel
theorem dL_same_661 : decode cL_same 661 = .ok (.invokevirtual 342, 3) := by decide +kernel
theorem dL_same_664 : decode cL_same 664 = .ok (.iload 5, 2) := by decide +kernel
theorem dL_same_666 : decode cL_same 666 = .ok (.i2d, 1) := by decide +kernel
theorem dL_same_667 : decode cL_same 667 = .ok (.aload_n 0, 1) := by decide +kernel
theorem dL_same_668 : decode cL_same 668 = .ok (.getfield 19, 3) := by decide +kernel
theorem dL_same_671 : decode cL_same 671 = .ok (.invokevirtual 210, 3) := by decide +kernel
theorem dL_same_674 : decode cL_same 674 = .ok (.i2d, 1) := by decide +kernel
theorem dL_same_675 : decode cL_same 675 = .ok (.ddiv, 1) := by decide +kernel
theorem dL_same_676 : decode cL_same 676 = .ok (.dcmp .l, 1) := by decide +kernel
theorem dL_same_677 : decode cL_same 677 = .ok (.ifCond .ne 62, 3) := by decide +kernel
theorem dL_same_680 : decode cL_same 680 = .ok (.aload_n 0, 1) := by decide +kernel
theorem dL_same_681 : decode cL_same 681 = .ok (.getfield 10, 3) := by decide +kernel
theorem dL_same_684 : decode cL_same 684 = .ok (.invokevirtual 346, 3) := by decide +kernel
theorem dL_same_687 : decode cL_same 687 = .ok (.iload 6, 2) := by decide +kernel
theorem dL_same_689 : decode cL_same 689 = .ok (.ifCond .ne 7, 3) := by decide +kernel
theorem dL_same_692 : decode cL_same 692 = .ok (.fconst 0, 1) := by decide +kernel
theorem dL_same_693 : decode cL_same 693 = .ok (.goto 9, 3) := by decide +kernel
theorem dL_same_696 : decode cL_same 696 = .ok (.iload_n 3, 1) := by decide +kernel
theorem dL_same_697 : decode cL_same 697 = .ok (.i2f, 1) := by decide +kernel
theorem dL_same_698 : decode cL_same 698 = .ok (.iload 6, 2) := by decide +kernel
theorem dL_same_700 : decode cL_same 700 = .ok (.i2f, 1) := by decide +kernel
theorem dL_same_701 : decode cL_same 701 = .ok (.fdiv, 1) := by decide +kernel
theorem dL_same_702 : decode cL_same 702 = .ok (.fcmp .l, 1) := by decide +kernel
theorem dL_same_703 : decode cL_same 703 = .ok (.ifCond .ne 36, 3) := by decide +kernel
theorem dL_same_706 : decode cL_same 706 = .ok (.aload_n 0, 1) := by decide +kernel
theorem dL_same_707 : decode cL_same 707 = .ok (.getfield 10, 3) := by decide +kernel
theorem dL_same_710 : decode cL_same 710 = .ok (.aload_n 0, 1) := by decide +kernel
theorem dL_same_711 : decode cL_same 711 = .ok (.getfield 19, 3) := by decide +kernel
theorem dL_same_714 : decode cL_same 714 = .ok (.invokevirtual 210, 3) := by decide +kernel
theorem dL_same_717 : decode cL_same 717 = .ok (.invokestatic 317, 3) := by decide +kernel
theorem dL_same_720 : decode cL_same 720 = .ok (.bipush (-104), 2) := by decide +kernel
theorem dL_same_722 : decode cL_same 722 = .ok (.if_icmp .ne 17, 3) := by decide +kernel
theorem dL_same_725 : decode cL_same 725 = .ok (.aload_n 0, 1) := by decide +kernel
theorem dL_same_726 : decode cL_same 726 = .ok (.getfield 10, 3) := by decide +kernel
theorem dL_same_729 : decode cL_same 729 = .ok (.invokevirtual 350, 3) := by decide +kernel
theorem dL_same_732 : decode cL_same 732 = .ok (.ifCond .ne 7, 3) := by decide +kernel
theorem dL_same_735 : decode cL_same 735 = .ok (.iconst 1, 1) := by decide +kernel
theorem dL_same_736 : decode cL_same 736 = .ok (.goto 4, 3) := by decide +kernel
theorem dL_same_739 : decode cL_same 739 = .ok (.iconst 0, 1) := by decide +kernel
theorem dL_same_740 : decode cL_same 740 = .ok (.ireturn, 1) := by decide +kernel
theorem dL_act_0 : decode cL_act 0 = .ok (.aload_n 0, 1) := by decide +kernel
theorem dL_act_1 : decode cL_act 1 = .ok (.getfield 19, 3) := by decide +kernel
theorem dL_act_4 : decode cL_act 4 = .ok (.aload_n 0, 1) := by decide +kernel
theorem dL_act_5 : decode cL_act 5 = .ok (.aload_n 0, 1) := by decide +kernel
theorem dL_act_6 : decode cL_act 6 = .ok (.getfield 19, 3) := by decide +kernel
theorem dL_act_9 : decode cL_act 9 = .ok (.invokevirtual 210, 3) := by decide +kernel
theorem dL_act_12 : decode cL_act 12 = .ok (.invokevirtual 169, 3) := by decide +kernel
theorem dL_act_15 : decode cL_act 15 = .ok (.invokevirtual 246, 3) := by decide +kernel
theorem dL_act_18 : decode cL_act 18 = .ok (.checkcast 207, 3) := by decide +kernel
theorem dL_act_21 : decode cL_act 21 = .ok (.astore_n 1, 1) := by decide +kernel
theorem dL_act_22 : decode cL_act 22 = .ok (.aload_n 0, 1) := by decide +kernel
theorem dL_act_23 : decode cL_act 23 = .ok (.getfield 19, 3) := by decide +kernel
theorem dL_act_26 : decode cL_act 26 = .ok (.aload_n 0, 1) := by decide +kernel
theorem dL_act_27 : decode cL_act 27 = .ok (.aload_n 0, 1) := by decide +kernel
theorem dL_act_28 : decode cL_act 28 = .ok (.getfield 19, 3) := by decide +kernel
theorem dL_act_31 : decode cL_act 31 = .ok (.invokevirtual 210, 3) := by decide +kernel
theorem dL_act_34 : decode cL_act 34 = .ok (.invokevirtual 169, 3) := by decide +kernel
theorem dL_act_37 : decode cL_act 37 = .ok (.invokevirtual 246, 3) := by decide +kernel
theorem dL_act_40 : decode cL_act 40 = .ok (.checkcast 207, 3) := by decide +kernel
theorem dL_act_43 : decode cL_act 43 = .ok (.astore_n 2, 1) := by decide +kernel
theorem dL_act_44 : decode cL_act 44 = .ok (.aload_n 1, 1) := by decide +kernel
theorem dL_act_45 : decode cL_act 45 = .ok (.getfield 213, 3) := by decide +kernel
theorem dL_act_48 : decode cL_act 48 = .ok (.istore_n 3, 1) := by decide +kernel
theorem dL_act_49 : decode cL_act 49 = .ok (.aload_n 0, 1) := by decide +kernel
theorem dL_act_50 : decode cL_act 50 = .ok (.aload_n 0, 1) := by decide +kernel
theorem dL_act_51 : decode cL_act 51 = .ok (.getfield 175, 3) := by decide +kernel
theorem dL_act_54 : decode cL_act 54 = .ok (.invokevirtual 169, 3) := by decide +kernel
theorem dL_act_57 : decode cL_act 57 = .ok (.istore 4, 2) := by decide +kernel
theorem dL_act_59 : decode cL_act 59 = .ok (.iconst 1, 1) := by decide +kernel
theorem dL_act_60 : decode cL_act 60 = .ok (.aload_n 0, 1) := by decide +kernel
theorem dL_act_61 : decode cL_act 61 = .ok (.bipush 6, 2) := by decide +kernel
theorem dL_act_63 : decode cL_act 63 = .ok (.invokevirtual 169, 3) := by decide +kernel
theorem dL_act_66 : decode cL_act 66 = .ok (.iadd, 1) := by decide +kernel
theorem dL_act_67 : decode cL_act 67 = .ok (.istore 5, 2) := by decide +kernel
theorem dL_act_69 : decode cL_act 69 = .ok (.aload_n 0, 1) := by decide +kernel
theorem dL_act_70 : decode cL_act 70 = .ok (.bipush 14, 2) := by decide +kernel
theorem dL_act_72 : decode cL_act 72 = .ok (.invokevirtual 169, 3) := by decide +kernel
theorem dL_act_75 : decode cL_act 75 = .ok (.tableswitch 662 0 11 #[61, 61, 158, 198, 336, 336, 336, 397, 437, 474, 539, 634], 61) := by decide +kernel
theorem dL_act_136 : decode cL_act 136 = .ok (.aload_n 0, 1) := by decide +kernel
theorem dL_act_137 : decode cL_act 137 = .ok (.getfield 178, 3) := by decide +kernel
theorem dL_act_140 : decode cL_act 140 = .ok (.ifCond .ne 23, 3) := by decide +kernel
theorem dL_act_143 : decode cL_act 143 = .ok (.aload_n 0, 1) := by decide +kernel
theorem dL_act_144 : decode cL_act 144 = .ok (.getfield 10, 3) := by decide +kernel
theorem dL_act_147 : decode cL_act 147 = .ok (.iload_n 3, 1) := by decide +kernel
theorem dL_act_148 : decode cL_act 148 = .ok (.iconst 0, 1) := by decide +kernel
theorem dL_act_149 : decode cL_act 149 = .ok (.invokestatic 353, 3) := by decide +kernel
theorem dL_act_152 : decode cL_act 152 = .ok (.bipush (-101), 2) := by decide +kernel
theorem dL_act_154 : decode cL_act 154 = .ok (.if_icmp .ne 7, 3) := by decide +kernel
theorem dL_act_157 : decode cL_act 157 = .ok (.iconst 1, 1) := by decide +kernel
theorem dL_act_158 : decode cL_act 158 = .ok (.goto 4, 3) := by decide +kernel
theorem dL_act_161 : decode cL_act 161 = .ok (.iconst 0, 1) := by decide +kernel
theorem dL_act_162 : decode cL_act 162 = .ok (.ireturn, 1) := by decide +kernel
theorem dL_act_163 : decode cL_act 163 = .ok (.aload_n 0, 1) := by decide +kernel
theorem dL_act_164 : decode cL_act 164 = .ok (.aload_n 0, 1) := by decide +kernel
theorem dL_act_165 : decode cL_act 165 = .ok (.getfield 178, 3) := by decide +kernel
theorem dL_act_168 : decode cL_act 168 = .ok (.invokevirtual 169, 3) := by decide +kernel
theorem dL_act_171 : decode cL_act 171 = .ok (.istore 7, 2) := by decide +kernel
theorem dL_act_173 : decode cL_act 173 = .ok (.aload_n 0, 1) := by decide +kernel
theorem dL_act_174 : decode cL_act 174 = .ok (.iload 7, 2) := by decide +kernel
theorem dL_act_176 : decode cL_act 176 = .ok (.invokevirtual 314, 3) := by decide +kernel
theorem dL_act_179 : decode cL_act 179 = .ok (.ifnull 24, 3) := by decide +kernel
theorem dL_act_182 : decode cL_act 182 = .ok (.aload_n 0, 1) := by decide +kernel
theorem dL_act_183 : decode cL_act 183 = .ok (.getfield 10, 3) := by decide +kernel
theorem dL_act_186 : decode cL_act 186 = .ok (.iload_n 3, 1) := by decide +kernel
theorem dL_act_187 : decode cL_act 187 = .ok (.iload 7, 2) := by decide +kernel
theorem dL_act_189 : decode cL_act 189 = .ok (.invokestatic 353, 3) := by decide +kernel
theorem dL_act_192 : decode cL_act 192 = .ok (.bipush (-103), 2) := by decide +kernel
theorem dL_act_194 : decode cL_act 194 = .ok (.if_icmp .ne 7, 3) := by decide +kernel
theorem dL_act_197 : decode cL_act 197 = .ok (.iconst 1, 1) := by decide +kernel
theorem dL_act_198 : decode cL_act 198 = .ok (.goto 4, 3) := by decide +kernel
theorem dL_act_201 : decode cL_act 201 = .ok (.iconst 0, 1) := by decide +kernel
theorem dL_act_202 : decode cL_act 202 = .ok (.ireturn, 1) := by decide +kernel
theorem dL_act_203 : decode cL_act 203 = .ok (.aload_n 1, 1) := by decide +kernel
theorem dL_act_204 : decode cL_act 204 = .ok (.iload 7, 2) := by decide +kernel
theorem dL_act_206 : decode cL_act 206 = .ok (.putfield 253, 3) := by decide +kernel
theorem dL_act_209 : decode cL_act 209 = .ok (.aload_n 0, 1) := by decide +kernel
theorem dL_act_210 : decode cL_act 210 = .ok (.getfield 10, 3) := by decide +kernel
theorem dL_act_213 : decode cL_act 213 = .ok (.iload_n 3, 1) := by decide +kernel
theorem dL_act_214 : decode cL_act 214 = .ok (.iload 7, 2) := by decide +kernel
theorem dL_act_216 : decode cL_act 216 = .ok (.invokestatic 353, 3) := by decide +kernel
theorem dL_act_219 : decode cL_act 219 = .ok (.aload_n 0, 1) := by decide +kernel
theorem dL_act_220 : decode cL_act 220 = .ok (.aload_n 1, 1) := by decide +kernel
theorem dL_act_221 : decode cL_act 221 = .ok (.invokevirtual 260, 3) := by decide +kernel
theorem dL_act_224 : decode cL_act 224 = .ok (.if_icmp .ne 7, 3) := by decide +kernel
theorem dL_act_227 : decode cL_act 227 = .ok (.iconst 1, 1) := by decide +kernel
theorem dL_act_228 : decode cL_act 228 = .ok (.goto 4, 3) := by decide +kernel
theorem dL_act_231 : decode cL_act 231 = .ok (.iconst 0, 1) := by decide +kernel
theorem dL_act_232 : decode cL_act 232 = .ok (.ireturn, 1) := by decide +kernel
theorem dL_act_233 : decode cL_act 233 = .ok (.aload_n 1, 1) := by decide +kernel
theorem dL_act_234 : decode cL_act 234 = .ok (.getfield 253, 3) := by decide +kernel
theorem dL_act_237 : decode cL_act 237 = .ok (.istore 6, 2) := by decide +kernel
theorem dL_act_239 : decode cL_act 239 = .ok (.aload_n 1, 1) := by decide +kernel
theorem dL_act_240 : decode cL_act 240 = .ok (.iconst (-1), 1) := by decide +kernel
theorem dL_act_241 : decode cL_act 241 = .ok (.putfield 253, 3) := by decide +kernel
theorem dL_act_244 : decode cL_act 244 = .ok (.aload_n 0, 1) := by decide +kernel
theorem dL_act_245 : decode cL_act 245 = .ok (.getfield 10, 3) := by decide +kernel
theorem dL_act_248 : decode cL_act 248 = .ok (.iload_n 3, 1) := by decide +kernel
theorem dL_act_249 : decode cL_act 249 = .ok (.invokestatic 355, 3) := by decide +kernel
theorem dL_act_252 : decode cL_act 252 = .ok (.iload 6, 2) := by decide +kernel
theorem dL_act_254 : decode cL_act 254 = .ok (.ifCond .ge 8, 3) := by decide +kernel
theorem dL_act_257 : decode cL_act 257 = .ok (.bipush (-103), 2) := by decide +kernel
theorem dL_act_259 : decode cL_act 259 = .ok (.goto 5, 3) := by decide +kernel
theorem dL_act_262 : decode cL_act 262 = .ok (.iload 6, 2) := by decide +kernel
theorem dL_act_264 : decode cL_act 264 = .ok (.if_icmp .ne 7, 3) := by decide +kernel
theorem dL_act_267 : decode cL_act 267 = .ok (.iconst 1, 1) := by decide +kernel
theorem dL_act_268 : decode cL_act 268 = .ok (.goto 4, 3) := by decide +kernel
theorem dL_act_271 : decode cL_act 271 = .ok (.iconst 0, 1) := by decide +kernel
theorem dL_act_272 : decode cL_act 272 = .ok (.ireturn, 1) := by decide +kernel
theorem dL_act_273 : decode cL_act 273 = .ok (.aload_n 1, 1) := by decide +kernel
theorem dL_act_274 : decode cL_act 274 = .ok (.aload_n 2, 1) := by decide +kernel
theorem dL_act_275 : decode cL_act 275 = .ok (.if_acmp .eq 17, 3) := by decide +kernel
theorem dL_act_278 : decode cL_act 278 = .ok (.aload_n 1, 1) := by decide +kernel
theorem dL_act_279 : decode cL_act 279 = .ok (.getfield 253, 3) := by decide +kernel
theorem dL_act_282 : decode cL_act 282 = .ok (.ifCond .ge 33, 3) := by decide +kernel
theorem dL_act_285 : decode cL_act 285 = .ok (.aload_n 2, 1) := by decide +kernel
theorem dL_act_286 : decode cL_act 286 = .ok (.getfield 253, 3) := by decide +kernel
theorem dL_act_289 : decode cL_act 289 = .ok (.ifCond .ge 26, 3) := by decide +kernel
theorem dL_act_292 : decode cL_act 292 = .ok (.aload_n 0, 1) := by decide +kernel
theorem dL_act_293 : decode cL_act 293 = .ok (.getfield 10, 3) := by decide +kernel
theorem dL_act_296 : decode cL_act 296 = .ok (.iload_n 3, 1) := by decide +kernel
theorem dL_act_297 : decode cL_act 297 = .ok (.aload_n 2, 1) := by decide +kernel
theorem dL_act_298 : decode cL_act 298 = .ok (.getfield 213, 3) := by decide +kernel
theorem dL_act_301 : decode cL_act 301 = .ok (.invokestatic 357, 3) := by decide +kernel
theorem dL_act_304 : decode cL_act 304 = .ok (.bipush (-103), 2) := by decide +kernel
theorem dL_act_306 : decode cL_act 306 = .ok (.if_icmp .ne 7, 3) := by decide +kernel
theorem dL_act_309 : decode cL_act 309 = .ok (.iconst 1, 1) := by decide +kernel
theorem dL_act_310 : decode cL_act 310 = .ok (.goto 4, 3) := by decide +kernel
theorem dL_act_313 : decode cL_act 313 = .ok (.iconst 0, 1) := by decide +kernel
theorem dL_act_314 : decode cL_act 314 = .ok (.ireturn, 1) := by decide +kernel
theorem dL_act_315 : decode cL_act 315 = .ok (.aload_n 1, 1) := by decide +kernel
theorem dL_act_316 : decode cL_act 316 = .ok (.getfield 253, 3) := by decide +kernel
theorem dL_act_319 : decode cL_act 319 = .ok (.istore 6, 2) := by decide +kernel
theorem dL_act_321 : decode cL_act 321 = .ok (.aload_n 1, 1) := by decide +kernel
theorem dL_act_322 : decode cL_act 322 = .ok (.aload_n 2, 1) := by decide +kernel
theorem dL_act_323 : decode cL_act 323 = .ok (.getfield 253, 3) := by decide +kernel
theorem dL_act_326 : decode cL_act 326 = .ok (.putfield 253, 3) := by decide +kernel
theorem dL_act_329 : decode cL_act 329 = .ok (.aload_n 2, 1) := by decide +kernel
theorem dL_act_330 : decode cL_act 330 = .ok (.iload 6, 2) := by decide +kernel
theorem dL_act_332 : decode cL_act 332 = .ok (.putfield 253, 3) := by decide +kernel
theorem dL_act_335 : decode cL_act 335 = .ok (.iconst 0, 1) := by decide +kernel
theorem dL_act_336 : decode cL_act 336 = .ok (.istore 7, 2) := by decide +kernel
theorem dL_act_338 : decode cL_act 338 = .ok (.iconst 0, 1) := by decide +kernel
theorem dL_act_339 : decode cL_act 339 = .ok (.istore 8, 2) := by decide +kernel
theorem dL_act_341 : decode cL_act 341 = .ok (.iload 8, 2) := by decide +kernel
theorem dL_act_343 : decode cL_act 343 = .ok (.aload_n 0, 1) := by decide +kernel
theorem dL_act_344 : decode cL_act 344 = .ok (.getfield 19, 3) := by decide +kernel
theorem dL_act_347 : decode cL_act 347 = .ok (.invokevirtual 210, 3) := by decide +kernel
theorem dL_act_350 : decode cL_act 350 = .ok (.if_icmp .ge 38, 3) := by decide +kernel
theorem dL_act_353 : decode cL_act 353 = .ok (.iload 7, 2) := by decide +kernel
theorem dL_act_355 : decode cL_act 355 = .ok (.aload_n 0, 1) := by decide +kernel
theorem dL_act_356 : decode cL_act 356 = .ok (.aload_n 0, 1) := by decide +kernel
theorem dL_act_357 : decode cL_act 357 = .ok (.getfield 19, 3) := by decide +kernel
theorem dL_act_360 : decode cL_act 360 = .ok (.iload 8, 2) := by decide +kernel
theorem dL_act_362 : decode cL_act 362 = .ok (.invokevirtual 246, 3) := by decide +kernel
theorem dL_act_365 : decode cL_act 365 = .ok (.checkcast 207, 3) := by decide +kernel
theorem dL_act_368 : decode cL_act 368 = .ok (.invokevirtual 264, 3) := by decide +kernel
theorem dL_act_371 : decode cL_act 371 = .ok (.ifCond .eq 7, 3) := by decide +kernel
theorem dL_act_374 : decode cL_act 374 = .ok (.iconst 1, 1) := by decide +kernel
theorem dL_act_375 : decode cL_act 375 = .ok (.goto 4, 3) := by decide +kernel
theorem dL_act_378 : decode cL_act 378 = .ok (.iconst 0, 1) := by decide +kernel
theorem dL_act_379 : decode cL_act 379 = .ok (.iadd, 1) := by decide +kernel
theorem dL_act_380 : decode cL_act 380 = .ok (.istore 7, 2) := by decide +kernel
theorem dL_act_382 : decode cL_act 382 = .ok (.iinc 8 1, 3) := by decide +kernel
theorem dL_act_385 : decode cL_act 385 = .ok (.goto (-44), 3) := by decide +kernel
theorem dL_act_388 : decode cL_act 388 = .ok (.aload_n 0, 1) := by decide +kernel
theorem dL_act_389 : decode cL_act 389 = .ok (.getfield 10, 3) := by decide +kernel
theorem dL_act_392 : decode cL_act 392 = .ok (.iload_n 3, 1) := by decide +kernel
theorem dL_act_393 : decode cL_act 393 = .ok (.aload_n 2, 1) := by decide +kernel
theorem dL_act_394 : decode cL_act 394 = .ok (.getfield 213, 3) := by decide +kernel
theorem dL_act_397 : decode cL_act 397 = .ok (.invokestatic 357, 3) := by decide +kernel
theorem dL_act_400 : decode cL_act 400 = .ok (.iload 7, 2) := by decide +kernel
theorem dL_act_402 : decode cL_act 402 = .ok (.if_icmp .ne 7, 3) := by decide +kernel
theorem dL_act_405 : decode cL_act 405 = .ok (.iconst 1, 1) := by decide +kernel
theorem dL_act_406 : decode cL_act 406 = .ok (.goto 4, 3) := by decide +kernel
theorem dL_act_409 : decode cL_act 409 = .ok (.iconst 0, 1) := by decide +kernel
theorem dL_act_410 : decode cL_act 410 = .ok (.ireturn, 1) := by decide +kernel
theorem dL_act_411 : decode cL_act 411 = .ok (.aload_n 0, 1) := by decide +kernel
theorem dL_act_412 : decode cL_act 412 = .ok (.iload 4, 2) := by decide +kernel
theorem dL_act_414 : decode cL_act 414 = .ok (.invokevirtual 256, 3) := by decide +kernel
theorem dL_act_417 : decode cL_act 417 = .ok (.ifnull 24, 3) := by decide +kernel
theorem dL_act_420 : decode cL_act 420 = .ok (.aload_n 0, 1) := by decide +kernel
theorem dL_act_421 : decode cL_act 421 = .ok (.getfield 10, 3) := by decide +kernel
theorem dL_act_424 : decode cL_act 424 = .ok (.iload_n 3, 1) := by decide +kernel
theorem dL_act_425 : decode cL_act 425 = .ok (.iload 4, 2) := by decide +kernel
theorem dL_act_427 : decode cL_act 427 = .ok (.invokestatic 359, 3) := by decide +kernel
theorem dL_act_430 : decode cL_act 430 = .ok (.bipush (-103), 2) := by decide +kernel
theorem dL_act_432 : decode cL_act 432 = .ok (.if_icmp .ne 7, 3) := by decide +kernel
theorem dL_act_435 : decode cL_act 435 = .ok (.iconst 1, 1) := by decide +kernel
theorem dL_act_436 : decode cL_act 436 = .ok (.goto 4, 3) := by decide +kernel
theorem dL_act_439 : decode cL_act 439 = .ok (.iconst 0, 1) := by decide +kernel
theorem dL_act_440 : decode cL_act 440 = .ok (.ireturn, 1) := by decide +kernel
theorem dL_act_441 : decode cL_act 441 = .ok (.aload_n 1, 1) := by decide +kernel
theorem dL_act_442 : decode cL_act 442 = .ok (.iload 4, 2) := by decide +kernel
theorem dL_act_444 : decode cL_act 444 = .ok (.putfield 250, 3) := by decide +kernel
theorem dL_act_447 : decode cL_act 447 = .ok (.aload_n 0, 1) := by decide +kernel
theorem dL_act_448 : decode cL_act 448 = .ok (.getfield 10, 3) := by decide +kernel
theorem dL_act_451 : decode cL_act 451 = .ok (.iload_n 3, 1) := by decide +kernel
theorem dL_act_452 : decode cL_act 452 = .ok (.iload 4, 2) := by decide +kernel
theorem dL_act_454 : decode cL_act 454 = .ok (.invokestatic 359, 3) := by decide +kernel
theorem dL_act_457 : decode cL_act 457 = .ok (.aload_n 0, 1) := by decide +kernel
theorem dL_act_458 : decode cL_act 458 = .ok (.iload 4, 2) := by decide +kernel
theorem dL_act_460 : decode cL_act 460 = .ok (.invokevirtual 271, 3) := by decide +kernel
theorem dL_act_463 : decode cL_act 463 = .ok (.if_icmp .ne 7, 3) := by decide +kernel
theorem dL_act_466 : decode cL_act 466 = .ok (.iconst 1, 1) := by decide +kernel
theorem dL_act_467 : decode cL_act 467 = .ok (.goto 4, 3) := by decide +kernel
theorem dL_act_470 : decode cL_act 470 = .ok (.iconst 0, 1) := by decide +kernel
theorem dL_act_471 : decode cL_act 471 = .ok (.ireturn, 1) := by decide +kernel
theorem dL_act_472 : decode cL_act 472 = .ok (.aload_n 1, 1) := by decide +kernel
theorem dL_act_473 : decode cL_act 473 = .ok (.getfield 250, 3) := by decide +kernel
theorem dL_act_476 : decode cL_act 476 = .ok (.istore 6, 2) := by decide +kernel
theorem dL_act_478 : decode cL_act 478 = .ok (.aload_n 1, 1) := by decide +kernel
theorem dL_act_479 : decode cL_act 479 = .ok (.iconst (-1), 1) := by decide +kernel
theorem dL_act_480 : decode cL_act 480 = .ok (.putfield 250, 3) := by decide +kernel
theorem dL_act_483 : decode cL_act 483 = .ok (.aload_n 0, 1) := by decide +kernel
theorem dL_act_484 : decode cL_act 484 = .ok (.getfield 10, 3) := by decide +kernel
theorem dL_act_487 : decode cL_act 487 = .ok (.iload_n 3, 1) := by decide +kernel
theorem dL_act_488 : decode cL_act 488 = .ok (.invokestatic 361, 3) := by decide +kernel
theorem dL_act_491 : decode cL_act 491 = .ok (.iload 6, 2) := by decide +kernel
theorem dL_act_493 : decode cL_act 493 = .ok (.ifCond .ge 8, 3) := by decide +kernel
theorem dL_act_496 : decode cL_act 496 = .ok (.bipush (-103), 2) := by decide +kernel
theorem dL_act_498 : decode cL_act 498 = .ok (.goto 5, 3) := by decide +kernel
theorem dL_act_501 : decode cL_act 501 = .ok (.iload 6, 2) := by decide +kernel
theorem dL_act_503 : decode cL_act 503 = .ok (.if_icmp .ne 7, 3) := by decide +kernel
theorem dL_act_506 : decode cL_act 506 = .ok (.iconst 1, 1) := by decide +kernel
theorem dL_act_507 : decode cL_act 507 = .ok (.goto 4, 3) := by decide +kernel
theorem dL_act_510 : decode cL_act 510 = .ok (.iconst 0, 1) := by decide +kernel
theorem dL_act_511 : decode cL_act 511 = .ok (.ireturn, 1) := by decide +kernel
theorem dL_act_512 : decode cL_act 512 = .ok (.aload_n 0, 1) := by decide +kernel
theorem dL_act_513 : decode cL_act 513 = .ok (.getfield 166, 3) := by decide +kernel
theorem dL_act_516 : decode cL_act 516 = .ok (.istore 6, 2) := by decide +kernel
theorem dL_act_518 : decode cL_act 518 = .ok (.aload_n 0, 1) := by decide +kernel
theorem dL_act_519 : decode cL_act 519 = .ok (.aload_n 0, 1) := by decide +kernel
theorem dL_act_520 : decode cL_act 520 = .ok (.iconst 4, 1) := by decide +kernel
theorem dL_act_521 : decode cL_act 521 = .ok (.invokevirtual 169, 3) := by decide +kernel
theorem dL_act_524 : decode cL_act 524 = .ok (.putfield 166, 3) := by decide +kernel
theorem dL_act_527 : decode cL_act 527 = .ok (.aload_n 0, 1) := by decide +kernel
theorem dL_act_528 : decode cL_act 528 = .ok (.getfield 10, 3) := by decide +kernel
theorem dL_act_531 : decode cL_act 531 = .ok (.aload_n 0, 1) := by decide +kernel
theorem dL_act_532 : decode cL_act 532 = .ok (.getfield 166, 3) := by decide +kernel
theorem dL_act_535 : decode cL_act 535 = .ok (.invokestatic 363, 3) := by decide +kernel
theorem dL_act_538 : decode cL_act 538 = .ok (.iload 6, 2) := by decide +kernel
theorem dL_act_540 : decode cL_act 540 = .ok (.if_icmp .ne 7, 3) := by decide +kernel
theorem dL_act_543 : decode cL_act 543 = .ok (.iconst 1, 1) := by decide +kernel
theorem dL_act_544 : decode cL_act 544 = .ok (.goto 4, 3) := by decide +kernel
theorem dL_act_547 : decode cL_act 547 = .ok (.iconst 0, 1) := by decide +kernel
theorem dL_act_548 : decode cL_act 548 = .ok (.ireturn, 1) := by decide +kernel
theorem dL_act_549 : decode cL_act 549 = .ok (.aload_n 0, 1) := by decide +kernel
theorem dL_act_550 : decode cL_act 550 = .ok (.getfield 172, 3) := by decide +kernel
theorem dL_act_553 : decode cL_act 553 = .ok (.iload 5, 2) := by decide +kernel
theorem dL_act_555 : decode cL_act 555 = .ok (.iadd, 1) := by decide +kernel
theorem dL_act_556 : decode cL_act 556 = .ok (.bipush 99, 2) := by decide +kernel
theorem dL_act_558 : decode cL_act 558 = .ok (.if_icmp .le 23, 3) := by decide +kernel
theorem dL_act_561 : decode cL_act 561 = .ok (.aload_n 0, 1) := by decide +kernel
theorem dL_act_562 : decode cL_act 562 = .ok (.getfield 10, 3) := by decide +kernel
theorem dL_act_565 : decode cL_act 565 = .ok (.iload 5, 2) := by decide +kernel
theorem dL_act_567 : decode cL_act 567 = .ok (.invokestatic 365, 3) := by decide +kernel
theorem dL_act_570 : decode cL_act 570 = .ok (.bipush (-103), 2) := by decide +kernel
theorem dL_act_572 : decode cL_act 572 = .ok (.if_icmp .ne 7, 3) := by decide +kernel
theorem dL_act_575 : decode cL_act 575 = .ok (.iconst 1, 1) := by decide +kernel
theorem dL_act_576 : decode cL_act 576 = .ok (.goto 4, 3) := by decide +kernel
theorem dL_act_579 : decode cL_act 579 = .ok (.iconst 0, 1) := by decide +kernel
theorem dL_act_580 : decode cL_act 580 = .ok (.ireturn, 1) := by decide +kernel
theorem dL_act_581 : decode cL_act 581 = .ok (.aload_n 0, 1) := by decide +kernel
theorem dL_act_582 : decode cL_act 582 = .ok (.dup, 1) := by decide +kernel
theorem dL_act_583 : decode cL_act 583 = .ok (.getfield 172, 3) := by decide +kernel
theorem dL_act_586 : decode cL_act 586 = .ok (.iload 5, 2) := by decide +kernel
theorem dL_act_588 : decode cL_act 588 = .ok (.iadd, 1) := by decide +kernel
theorem dL_act_589 : decode cL_act 589 = .ok (.putfield 172, 3) := by decide +kernel
theorem dL_act_592 : decode cL_act 592 = .ok (.aload_n 0, 1) := by decide +kernel
theorem dL_act_593 : decode cL_act 593 = .ok (.getfield 10, 3) := by decide +kernel
theorem dL_act_596 : decode cL_act 596 = .ok (.iload 5, 2) := by decide +kernel
theorem dL_act_598 : decode cL_act 598 = .ok (.invokestatic 365, 3) := by decide +kernel
theorem dL_act_601 : decode cL_act 601 = .ok (.aload_n 0, 1) := by decide +kernel
theorem dL_act_602 : decode cL_act 602 = .ok (.getfield 172, 3) := by decide +kernel
theorem dL_act_605 : decode cL_act 605 = .ok (.if_icmp .ne 7, 3) := by decide +kernel
theorem dL_act_608 : decode cL_act 608 = .ok (.iconst 1, 1) := by decide +kernel
theorem dL_act_609 : decode cL_act 609 = .ok (.goto 4, 3) := by decide +kernel
theorem dL_act_612 : decode cL_act 612 = .ok (.iconst 0, 1) := by decide +kernel
theorem dL_act_613 : decode cL_act 613 = .ok (.ireturn, 1) := by decide +kernel
theorem dL_act_614 : decode cL_act 614 = .ok (.aload_n 1, 1) := by decide +kernel
theorem dL_act_615 : decode cL_act 615 = .ok (.getfield 222, 3) := by decide +kernel
theorem dL_act_618 : decode cL_act 618 = .ok (.iload 5, 2) := by decide +kernel
theorem dL_act_620 : decode cL_act 620 = .ok (.if_icmp .lt 12, 3) := by decide +kernel
theorem dL_act_623 : decode cL_act 623 = .ok (.aload_n 1, 1) := by decide +kernel
theorem dL_act_624 : decode cL_act 624 = .ok (.getfield 277, 3) := by decide +kernel
theorem dL_act_627 : decode cL_act 627 = .ok (.iload 5, 2) := by decide +kernel
theorem dL_act_629 : decode cL_act 629 = .ok (.if_icmp .ge 24, 3) := by decide +kernel
theorem dL_act_632 : decode cL_act 632 = .ok (.aload_n 0, 1) := by decide +kernel
theorem dL_act_633 : decode cL_act 633 = .ok (.getfield 10, 3) := by decide +kernel
theorem dL_act_636 : decode cL_act 636 = .ok (.iload_n 3, 1) := by decide +kernel
theorem dL_act_637 : decode cL_act 637 = .ok (.iload 5, 2) := by decide +kernel
theorem dL_act_639 : decode cL_act 639 = .ok (.invokestatic 367, 3) := by decide +kernel
theorem dL_act_642 : decode cL_act 642 = .ok (.bipush (-103), 2) := by decide +kernel
theorem dL_act_644 : decode cL_act 644 = .ok (.if_icmp .ne 7, 3) := by decide +kernel
theorem dL_act_647 : decode cL_act 647 = .ok (.iconst 1, 1) := by decide +kernel
theorem dL_act_648 : decode cL_act 648 = .ok (.goto 4, 3) := by decide +kernel
theorem dL_act_651 : decode cL_act 651 = .ok (.iconst 0, 1) := by decide +kernel
theorem dL_act_652 : decode cL_act 652 = .ok (.ireturn, 1) := by decide +kernel
theorem dL_act_653 : decode cL_act 653 = .ok (.aload_n 1, 1) := by decide +kernel
theorem dL_act_654 : decode cL_act 654 = .ok (.dup, 1) := by decide +kernel
theorem dL_act_655 : decode cL_act 655 = .ok (.getfield 222, 3) := by decide +kernel
theorem dL_act_658 : decode cL_act 658 = .ok (.iload 5, 2) := by decide +kernel
theorem dL_act_660 : decode cL_act 660 = .ok (.isub, 1) := by decide +kernel
theorem dL_act_661 : decode cL_act 661 = .ok (.putfield 222, 3) := by decide +kernel
theorem dL_act_664 : decode cL_act 664 = .ok (.aload_n 1, 1) := by decide +kernel
theorem dL_act_665 : decode cL_act 665 = .ok (.dup, 1) := by decide +kernel
theorem dL_act_666 : decode cL_act 666 = .ok (.getfield 277, 3) := by decide +kernel
theorem dL_act_669 : decode cL_act 669 = .ok (.iload 5, 2) := by decide +kernel
theorem dL_act_671 : decode cL_act 671 = .ok (.isub, 1) := by decide +kernel
theorem dL_act_672 : decode cL_act 672 = .ok (.putfield 277, 3) := by decide +kernel
theorem dL_act_675 : decode cL_act 675 = .ok (.aload_n 0, 1) := by decide +kernel
theorem dL_act_676 : decode cL_act 676 = .ok (.dup, 1) := by decide +kernel
theorem dL_act_677 : decode cL_act 677 = .ok (.getfield 151, 3) := by decide +kernel
theorem dL_act_680 : decode cL_act 680 = .ok (.iload 5, 2) := by decide +kernel
theorem dL_act_682 : decode cL_act 682 = .ok (.iadd, 1) := by decide +kernel
theorem dL_act_683 : decode cL_act 683 = .ok (.putfield 151, 3) := by decide +kernel
theorem dL_act_686 : decode cL_act 686 = .ok (.aload_n 0, 1) := by decide +kernel
theorem dL_act_687 : decode cL_act 687 = .ok (.getfield 10, 3) := by decide +kernel
theorem dL_act_690 : decode cL_act 690 = .ok (.iload_n 3, 1) := by decide +kernel
theorem dL_act_691 : decode cL_act 691 = .ok (.iload 5, 2) := by decide +kernel
theorem dL_act_693 : decode cL_act 693 = .ok (.invokestatic 367, 3) := by decide +kernel
theorem dL_act_696 : decode cL_act 696 = .ok (.aload_n 1, 1) := by decide +kernel
theorem dL_act_697 : decode cL_act 697 = .ok (.getfield 277, 3) := by decide +kernel
theorem dL_act_700 : decode cL_act 700 = .ok (.if_icmp .ne 7, 3) := by decide +kernel
theorem dL_act_703 : decode cL_act 703 = .ok (.iconst 1, 1) := by decide +kernel
theorem dL_act_704 : decode cL_act 704 = .ok (.goto 4, 3) := by decide +kernel
theorem dL_act_707 : decode cL_act 707 = .ok (.iconst 0, 1) := by decide +kernel
theorem dL_act_708 : decode cL_act 708 = .ok (.ireturn, 1) := by decide +kernel
theorem dL_act_709 : decode cL_act 709 = .ok (.aload_n 0, 1) := by decide +kernel
theorem dL_act_710 : decode cL_act 710 = .ok (.getfield 10, 3) := by decide +kernel
theorem dL_act_713 : decode cL_act 713 = .ok (.iload 5, 2) := by decide +kernel
theorem dL_act_715 : decode cL_act 715 = .ok (.invokestatic 369, 3) := by decide +kernel
theorem dL_act_718 : decode cL_act 718 = .ok (.ifCond .lt 17, 3) := by decide +kernel
theorem dL_act_721 : decode cL_act 721 = .ok (.aload_n 0, 1) := by decide +kernel
theorem dL_act_722 : decode cL_act 722 = .ok (.getfield 10, 3) := by decide +kernel
theorem dL_act_725 : decode cL_act 725 = .ok (.invokestatic 242, 3) := by decide +kernel
theorem dL_act_728 : decode cL_act 728 = .ok (.ifCond .lt 7, 3) := by decide +kernel
theorem dL_act_731 : decode cL_act 731 = .ok (.iconst 1, 1) := by decide +kernel
theorem dL_act_732 : decode cL_act 732 = .ok (.goto 4, 3) := by decide +kernel
theorem dL_act_735 : decode cL_act 735 = .ok (.iconst 0, 1) := by decide +kernel
theorem dL_act_736 : decode cL_act 736 = .ok (.ireturn, 1) := by decide +kernel
theorem dL_act_737 : decode cL_act 737 = .ok (.aload_n 0, 1) := by decide +kernel
theorem dL_act_738 : decode cL_act 738 = .ok (.getfield 151, 3) := by decide +kernel
theorem dL_act_741 : decode cL_act 741 = .ok (.istore 6, 2) := by decide +kernel
theorem dL_act_743 : decode cL_act 743 = .ok (.iconst 0, 1) := by decide +kernel
theorem dL_act_744 : decode cL_act 744 = .ok (.istore 7, 2) := by decide +kernel
theorem dL_act_746 : decode cL_act 746 = .ok (.iload 7, 2) := by decide +kernel
theorem dL_act_748 : decode cL_act 748 = .ok (.iload 5, 2) := by decide +kernel
theorem dL_act_750 : decode cL_act 750 = .ok (.if_icmp .ge 13, 3) := by decide +kernel
theorem dL_act_753 : decode cL_act 753 = .ok (.aload_n 0, 1) := by decide +kernel
theorem dL_act_754 : decode cL_act 754 = .ok (.invokevirtual 371, 3) := by decide +kernel
theorem dL_act_757 : decode cL_act 757 = .ok (.iinc 7 1, 3) := by decide +kernel
theorem dL_act_760 : decode cL_act 760 = .ok (.goto (-14), 3) := by decide +kernel
theorem dL_act_763 : decode cL_act 763 = .ok (.aload_n 0, 1) := by decide +kernel
theorem dL_act_764 : decode cL_act 764 = .ok (.getfield 10, 3) := by decide +kernel
theorem dL_act_767 : decode cL_act 767 = .ok (.iload 5, 2) := by decide +kernel
theorem dL_act_769 : decode cL_act 769 = .ok (.invokestatic 369, 3) := by decide +kernel
theorem dL_act_772 : decode cL_act 772 = .ok (.aload_n 0, 1) := by decide +kernel
theorem dL_act_773 : decode cL_act 773 = .ok (.getfield 151, 3) := by decide +kernel
theorem dL_act_776 : decode cL_act 776 = .ok (.iload 6, 2) := by decide +kernel
theorem dL_act_778 : decode cL_act 778 = .ok (.isub, 1) := by decide +kernel
theorem dL_act_779 : decode cL_act 779 = .ok (.if_icmp .ne 7, 3) := by decide +kernel
theorem dL_act_782 : decode cL_act 782 = .ok (.iconst 1, 1) := by decide +kernel
theorem dL_act_783 : decode cL_act 783 = .ok (.goto 4, 3) := by decide +kernel
theorem dL_act_786 : decode cL_act 786 = .ok (.iconst 0, 1) := by decide +kernel
theorem dL_act_787 : decode cL_act 787 = .ok (.ireturn, 1) := by decide +kernel
theorem dL_holds_0 : decode cL_holds 0 = .ok (.aload_n 0, 1) := by decide +kernel
theorem dL_holds_1 : decode cL_holds 1 = .ok (.aload_n 1, 1) := by decide +kernel
theorem dL_holds_2 : decode cL_holds 2 = .ok (.putfield 35, 3) := by decide +kernel
theorem dL_holds_5 : decode cL_holds 5 = .ok (.iconst 0, 1) := by decide +kernel
theorem dL_holds_6 : decode cL_holds 6 = .ok (.istore_n 2, 1) := by decide +kernel
theorem dL_holds_7 : decode cL_holds 7 = .ok (.iload_n 2, 1) := by decide +kernel
theorem dL_holds_8 : decode cL_holds 8 = .ok (.iconst 2, 1) := by decide +kernel
theorem dL_holds_9 : decode cL_holds 9 = .ok (.if_icmp .ge 62, 3) := by decide +kernel
theorem dL_holds_12 : decode cL_holds 12 = .ok (.aload_n 0, 1) := by decide +kernel
theorem dL_holds_13 : decode cL_holds 13 = .ok (.invokevirtual 374, 3) := by decide +kernel
theorem dL_holds_16 : decode cL_holds 16 = .ok (.ifCond .eq 10, 3) := by decide +kernel
theorem dL_holds_19 : decode cL_holds 19 = .ok (.aload_n 0, 1) := by decide +kernel
theorem dL_holds_20 : decode cL_holds 20 = .ok (.invokevirtual 378, 3) := by decide +kernel
theorem dL_holds_23 : decode cL_holds 23 = .ok (.ifCond .ne 5, 3) := by decide +kernel
theorem dL_holds_26 : decode cL_holds 26 = .ok (.iconst 0, 1) := by decide +kernel
theorem dL_holds_27 : decode cL_holds 27 = .ok (.ireturn, 1) := by decide +kernel
theorem dL_holds_28 : decode cL_holds 28 = .ok (.iconst 0, 1) := by decide +kernel
theorem dL_holds_29 : decode cL_holds 29 = .ok (.istore_n 3, 1) := by decide +kernel
theorem dL_holds_30 : decode cL_holds 30 = .ok (.iload_n 3, 1) := by decide +kernel
theorem dL_holds_31 : decode cL_holds 31 = .ok (.bipush 34, 2) := by decide +kernel
theorem dL_holds_33 : decode cL_holds 33 = .ok (.if_icmp .ge 32, 3) := by decide +kernel
theorem dL_holds_36 : decode cL_holds 36 = .ok (.aload_n 0, 1) := by decide +kernel
theorem dL_holds_37 : decode cL_holds 37 = .ok (.invokevirtual 381, 3) := by decide +kernel
theorem dL_holds_40 : decode cL_holds 40 = .ok (.ifCond .eq 17, 3) := by decide +kernel
theorem dL_holds_43 : decode cL_holds 43 = .ok (.iload_n 3, 1) := by decide +kernel
theorem dL_holds_44 : decode cL_holds 44 = .ok (.iconst 4, 1) := by decide +kernel
theorem dL_holds_45 : decode cL_holds 45 = .ok (.irem, 1) := by decide +kernel
theorem dL_holds_46 : decode cL_holds 46 = .ok (.iconst 3, 1) := by decide +kernel
theorem dL_holds_47 : decode cL_holds 47 = .ok (.if_icmp .ne 12, 3) := by decide +kernel
theorem dL_holds_50 : decode cL_holds 50 = .ok (.aload_n 0, 1) := by decide +kernel
theorem dL_holds_51 : decode cL_holds 51 = .ok (.invokevirtual 378, 3) := by decide +kernel
theorem dL_holds_54 : decode cL_holds 54 = .ok (.ifCond .ne 5, 3) := by decide +kernel
theorem dL_holds_57 : decode cL_holds 57 = .ok (.iconst 0, 1) := by decide +kernel
theorem dL_holds_58 : decode cL_holds 58 = .ok (.ireturn, 1) := by decide +kernel
theorem dL_holds_59 : decode cL_holds 59 = .ok (.iinc 3 1, 3) := by decide +kernel
theorem dL_holds_62 : decode cL_holds 62 = .ok (.goto (-32), 3) := by decide +kernel
theorem dL_holds_65 : decode cL_holds 65 = .ok (.iinc 2 1, 3) := by decide +kernel
theorem dL_holds_68 : decode cL_holds 68 = .ok (.goto (-61), 3) := by decide +kernel
theorem dL_holds_71 : decode cL_holds 71 = .ok (.iconst 1, 1) := by decide +kernel
theorem dL_holds_72 : decode cL_holds 72 = .ok (.ireturn, 1) := by decide +kernel
theorem dL_law_0 : decode cL_law 0 = .ok (.new 11, 3) := by decide +kernel
theorem dL_law_3 : decode cL_law 3 = .ok (.dup, 1) := by decide +kernel
theorem dL_law_4 : decode cL_law 4 = .ok (.invokespecial 384, 3) := by decide +kernel
theorem dL_law_7 : decode cL_law 7 = .ok (.aload_n 0, 1) := by decide +kernel
theorem dL_law_8 : decode cL_law 8 = .ok (.invokevirtual 385, 3) := by decide +kernel
theorem dL_law_11 : decode cL_law 11 = .ok (.ireturn, 1) := by decide +kernel
