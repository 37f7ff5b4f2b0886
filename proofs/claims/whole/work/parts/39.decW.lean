theorem dL_appendText_0 : decode cL_appendText 0 = .ok (.aload_n 2, 1) := by decide +kernel
theorem dL_appendText_1 : decode cL_appendText 1 = .ok (.iconst 0, 1) := by decide +kernel
theorem dL_appendText_2 : decode cL_appendText 2 = .ok (.aload_n 0, 1) := by decide +kernel
theorem dL_appendText_3 : decode cL_appendText 3 = .ok (.iload_n 1, 1) := by decide +kernel
theorem dL_appendText_4 : decode cL_appendText 4 = .ok (.invokevirtual 7, 3) := by decide +kernel
theorem dL_appendText_7 : decode cL_appendText 7 = .ok (.i2l, 1) := by decide +kernel
theorem dL_appendText_8 : decode cL_appendText 8 = .ok (.lastore, 1) := by decide +kernel
theorem dL_appendText_9 : decode cL_appendText 9 = .ok (.goto 6, 3) := by decide +kernel
theorem dL_appendText_12 : decode cL_appendText 12 = .ok (.astore_n 3, 1) := by decide +kernel
theorem dL_appendText_13 : decode cL_appendText 13 = .ok (.iconst 1, 1) := by decide +kernel
theorem dL_appendText_14 : decode cL_appendText 14 = .ok (.ireturn, 1) := by decide +kernel
theorem dL_appendText_15 : decode cL_appendText 15 = .ok (.iconst 0, 1) := by decide +kernel
theorem dL_appendText_16 : decode cL_appendText 16 = .ok (.ireturn, 1) := by decide +kernel
theorem dL_truncateText_0 : decode cL_truncateText 0 = .ok (.aload_n 2, 1) := by decide +kernel
theorem dL_truncateText_1 : decode cL_truncateText 1 = .ok (.iconst 0, 1) := by decide +kernel
theorem dL_truncateText_2 : decode cL_truncateText 2 = .ok (.aload_n 0, 1) := by decide +kernel
theorem dL_truncateText_3 : decode cL_truncateText 3 = .ok (.iload_n 1, 1) := by decide +kernel
theorem dL_truncateText_4 : decode cL_truncateText 4 = .ok (.invokevirtual 15, 3) := by decide +kernel
theorem dL_truncateText_7 : decode cL_truncateText 7 = .ok (.i2l, 1) := by decide +kernel
theorem dL_truncateText_8 : decode cL_truncateText 8 = .ok (.lastore, 1) := by decide +kernel
theorem dL_truncateText_9 : decode cL_truncateText 9 = .ok (.goto 6, 3) := by decide +kernel
theorem dL_truncateText_12 : decode cL_truncateText 12 = .ok (.astore_n 3, 1) := by decide +kernel
theorem dL_truncateText_13 : decode cL_truncateText 13 = .ok (.iconst 1, 1) := by decide +kernel
theorem dL_truncateText_14 : decode cL_truncateText 14 = .ok (.ireturn, 1) := by decide +kernel
theorem dL_truncateText_15 : decode cL_truncateText 15 = .ok (.iconst 0, 1) := by decide +kernel
theorem dL_truncateText_16 : decode cL_truncateText 16 = .ok (.ireturn, 1) := by decide +kernel
theorem dL_hikerIn_0 : decode cL_hikerIn 0 = .ok (.aload_n 2, 1) := by decide +kernel
theorem dL_hikerIn_1 : decode cL_hikerIn 1 = .ok (.iconst 0, 1) := by decide +kernel
theorem dL_hikerIn_2 : decode cL_hikerIn 2 = .ok (.aload_n 0, 1) := by decide +kernel
theorem dL_hikerIn_3 : decode cL_hikerIn 3 = .ok (.iload_n 1, 1) := by decide +kernel
theorem dL_hikerIn_4 : decode cL_hikerIn 4 = .ok (.invokevirtual 20, 3) := by decide +kernel
theorem dL_hikerIn_7 : decode cL_hikerIn 7 = .ok (.i2l, 1) := by decide +kernel
theorem dL_hikerIn_8 : decode cL_hikerIn 8 = .ok (.lastore, 1) := by decide +kernel
theorem dL_hikerIn_9 : decode cL_hikerIn 9 = .ok (.goto 6, 3) := by decide +kernel
theorem dL_hikerIn_12 : decode cL_hikerIn 12 = .ok (.astore_n 3, 1) := by decide +kernel
theorem dL_hikerIn_13 : decode cL_hikerIn 13 = .ok (.iconst 1, 1) := by decide +kernel
theorem dL_hikerIn_14 : decode cL_hikerIn 14 = .ok (.ireturn, 1) := by decide +kernel
theorem dL_hikerIn_15 : decode cL_hikerIn 15 = .ok (.iconst 0, 1) := by decide +kernel
theorem dL_hikerIn_16 : decode cL_hikerIn 16 = .ok (.ireturn, 1) := by decide +kernel
theorem dL_noiseIn_0 : decode cL_noiseIn 0 = .ok (.aload_n 2, 1) := by decide +kernel
theorem dL_noiseIn_1 : decode cL_noiseIn 1 = .ok (.iconst 0, 1) := by decide +kernel
theorem dL_noiseIn_2 : decode cL_noiseIn 2 = .ok (.aload_n 0, 1) := by decide +kernel
theorem dL_noiseIn_3 : decode cL_noiseIn 3 = .ok (.iload_n 1, 1) := by decide +kernel
theorem dL_noiseIn_4 : decode cL_noiseIn 4 = .ok (.invokevirtual 25, 3) := by decide +kernel
theorem dL_noiseIn_7 : decode cL_noiseIn 7 = .ok (.i2l, 1) := by decide +kernel
theorem dL_noiseIn_8 : decode cL_noiseIn 8 = .ok (.lastore, 1) := by decide +kernel
theorem dL_noiseIn_9 : decode cL_noiseIn 9 = .ok (.goto 6, 3) := by decide +kernel
theorem dL_noiseIn_12 : decode cL_noiseIn 12 = .ok (.astore_n 3, 1) := by decide +kernel
theorem dL_noiseIn_13 : decode cL_noiseIn 13 = .ok (.iconst 1, 1) := by decide +kernel
theorem dL_noiseIn_14 : decode cL_noiseIn 14 = .ok (.ireturn, 1) := by decide +kernel
theorem dL_noiseIn_15 : decode cL_noiseIn 15 = .ok (.iconst 0, 1) := by decide +kernel
theorem dL_noiseIn_16 : decode cL_noiseIn 16 = .ok (.ireturn, 1) := by decide +kernel
theorem dL_bestPlaceFor_0 : decode cL_bestPlaceFor 0 = .ok (.aload_n 2, 1) := by decide +kernel
theorem dL_bestPlaceFor_1 : decode cL_bestPlaceFor 1 = .ok (.iconst 0, 1) := by decide +kernel
theorem dL_bestPlaceFor_2 : decode cL_bestPlaceFor 2 = .ok (.aload_n 0, 1) := by decide +kernel
theorem dL_bestPlaceFor_3 : decode cL_bestPlaceFor 3 = .ok (.iload_n 1, 1) := by decide +kernel
theorem dL_bestPlaceFor_4 : decode cL_bestPlaceFor 4 = .ok (.invokevirtual 28, 3) := by decide +kernel
theorem dL_bestPlaceFor_7 : decode cL_bestPlaceFor 7 = .ok (.i2l, 1) := by decide +kernel
theorem dL_bestPlaceFor_8 : decode cL_bestPlaceFor 8 = .ok (.lastore, 1) := by decide +kernel
theorem dL_bestPlaceFor_9 : decode cL_bestPlaceFor 9 = .ok (.goto 6, 3) := by decide +kernel
theorem dL_bestPlaceFor_12 : decode cL_bestPlaceFor 12 = .ok (.astore_n 3, 1) := by decide +kernel
theorem dL_bestPlaceFor_13 : decode cL_bestPlaceFor 13 = .ok (.iconst 1, 1) := by decide +kernel
theorem dL_bestPlaceFor_14 : decode cL_bestPlaceFor 14 = .ok (.ireturn, 1) := by decide +kernel
theorem dL_bestPlaceFor_15 : decode cL_bestPlaceFor 15 = .ok (.iconst 0, 1) := by decide +kernel
theorem dL_bestPlaceFor_16 : decode cL_bestPlaceFor 16 = .ok (.ireturn, 1) := by decide +kernel
theorem dL_userOf_0 : decode cL_userOf 0 = .ok (.aload_n 2, 1) := by decide +kernel
theorem dL_userOf_1 : decode cL_userOf 1 = .ok (.iconst 0, 1) := by decide +kernel
theorem dL_userOf_2 : decode cL_userOf 2 = .ok (.aload_n 0, 1) := by decide +kernel
theorem dL_userOf_3 : decode cL_userOf 3 = .ok (.iload_n 1, 1) := by decide +kernel
theorem dL_userOf_4 : decode cL_userOf 4 = .ok (.invokevirtual 31, 3) := by decide +kernel
theorem dL_userOf_7 : decode cL_userOf 7 = .ok (.i2l, 1) := by decide +kernel
theorem dL_userOf_8 : decode cL_userOf 8 = .ok (.lastore, 1) := by decide +kernel
theorem dL_userOf_9 : decode cL_userOf 9 = .ok (.goto 6, 3) := by decide +kernel
theorem dL_userOf_12 : decode cL_userOf 12 = .ok (.astore_n 3, 1) := by decide +kernel
theorem dL_userOf_13 : decode cL_userOf 13 = .ok (.iconst 1, 1) := by decide +kernel
theorem dL_userOf_14 : decode cL_userOf 14 = .ok (.ireturn, 1) := by decide +kernel
theorem dL_userOf_15 : decode cL_userOf 15 = .ok (.iconst 0, 1) := by decide +kernel
theorem dL_userOf_16 : decode cL_userOf 16 = .ok (.ireturn, 1) := by decide +kernel
theorem dL_blanketOnPile_0 : decode cL_blanketOnPile 0 = .ok (.aload_n 2, 1) := by decide +kernel
theorem dL_blanketOnPile_1 : decode cL_blanketOnPile 1 = .ok (.iconst 0, 1) := by decide +kernel
theorem dL_blanketOnPile_2 : decode cL_blanketOnPile 2 = .ok (.aload_n 0, 1) := by decide +kernel
theorem dL_blanketOnPile_3 : decode cL_blanketOnPile 3 = .ok (.iload_n 1, 1) := by decide +kernel
theorem dL_blanketOnPile_4 : decode cL_blanketOnPile 4 = .ok (.invokevirtual 34, 3) := by decide +kernel
theorem dL_blanketOnPile_7 : decode cL_blanketOnPile 7 = .ok (.i2l, 1) := by decide +kernel
theorem dL_blanketOnPile_8 : decode cL_blanketOnPile 8 = .ok (.lastore, 1) := by decide +kernel
theorem dL_blanketOnPile_9 : decode cL_blanketOnPile 9 = .ok (.goto 6, 3) := by decide +kernel
theorem dL_blanketOnPile_12 : decode cL_blanketOnPile 12 = .ok (.astore_n 3, 1) := by decide +kernel
theorem dL_blanketOnPile_13 : decode cL_blanketOnPile 13 = .ok (.iconst 1, 1) := by decide +kernel
theorem dL_blanketOnPile_14 : decode cL_blanketOnPile 14 = .ok (.ireturn, 1) := by decide +kernel
theorem dL_blanketOnPile_15 : decode cL_blanketOnPile 15 = .ok (.iconst 0, 1) := by decide +kernel
theorem dL_blanketOnPile_16 : decode cL_blanketOnPile 16 = .ok (.ireturn, 1) := by decide +kernel
theorem dL_fittingBlanket_0 : decode cL_fittingBlanket 0 = .ok (.aload_n 2, 1) := by decide +kernel
theorem dL_fittingBlanket_1 : decode cL_fittingBlanket 1 = .ok (.iconst 0, 1) := by decide +kernel
theorem dL_fittingBlanket_2 : decode cL_fittingBlanket 2 = .ok (.aload_n 0, 1) := by decide +kernel
theorem dL_fittingBlanket_3 : decode cL_fittingBlanket 3 = .ok (.iload_n 1, 1) := by decide +kernel
theorem dL_fittingBlanket_4 : decode cL_fittingBlanket 4 = .ok (.invokevirtual 39, 3) := by decide +kernel
theorem dL_fittingBlanket_7 : decode cL_fittingBlanket 7 = .ok (.i2l, 1) := by decide +kernel
theorem dL_fittingBlanket_8 : decode cL_fittingBlanket 8 = .ok (.lastore, 1) := by decide +kernel
theorem dL_fittingBlanket_9 : decode cL_fittingBlanket 9 = .ok (.goto 6, 3) := by decide +kernel
theorem dL_fittingBlanket_12 : decode cL_fittingBlanket 12 = .ok (.astore_n 3, 1) := by decide +kernel
theorem dL_fittingBlanket_13 : decode cL_fittingBlanket 13 = .ok (.iconst 1, 1) := by decide +kernel
theorem dL_fittingBlanket_14 : decode cL_fittingBlanket 14 = .ok (.ireturn, 1) := by decide +kernel
theorem dL_fittingBlanket_15 : decode cL_fittingBlanket 15 = .ok (.iconst 0, 1) := by decide +kernel
theorem dL_fittingBlanket_16 : decode cL_fittingBlanket 16 = .ok (.ireturn, 1) := by decide +kernel
theorem dL_bunkOf_0 : decode cL_bunkOf 0 = .ok (.aload_n 2, 1) := by decide +kernel
theorem dL_bunkOf_1 : decode cL_bunkOf 1 = .ok (.iconst 0, 1) := by decide +kernel
theorem dL_bunkOf_2 : decode cL_bunkOf 2 = .ok (.aload_n 0, 1) := by decide +kernel
theorem dL_bunkOf_3 : decode cL_bunkOf 3 = .ok (.iload_n 1, 1) := by decide +kernel
theorem dL_bunkOf_4 : decode cL_bunkOf 4 = .ok (.invokevirtual 42, 3) := by decide +kernel
theorem dL_bunkOf_7 : decode cL_bunkOf 7 = .ok (.i2l, 1) := by decide +kernel
theorem dL_bunkOf_8 : decode cL_bunkOf 8 = .ok (.lastore, 1) := by decide +kernel
theorem dL_bunkOf_9 : decode cL_bunkOf 9 = .ok (.goto 6, 3) := by decide +kernel
theorem dL_bunkOf_12 : decode cL_bunkOf 12 = .ok (.astore_n 3, 1) := by decide +kernel
theorem dL_bunkOf_13 : decode cL_bunkOf 13 = .ok (.iconst 1, 1) := by decide +kernel
theorem dL_bunkOf_14 : decode cL_bunkOf 14 = .ok (.ireturn, 1) := by decide +kernel
theorem dL_bunkOf_15 : decode cL_bunkOf 15 = .ok (.iconst 0, 1) := by decide +kernel
theorem dL_bunkOf_16 : decode cL_bunkOf 16 = .ok (.ireturn, 1) := by decide +kernel
theorem dL_blanketOf_0 : decode cL_blanketOf 0 = .ok (.aload_n 2, 1) := by decide +kernel
theorem dL_blanketOf_1 : decode cL_blanketOf 1 = .ok (.iconst 0, 1) := by decide +kernel
theorem dL_blanketOf_2 : decode cL_blanketOf 2 = .ok (.aload_n 0, 1) := by decide +kernel
theorem dL_blanketOf_3 : decode cL_blanketOf 3 = .ok (.iload_n 1, 1) := by decide +kernel
theorem dL_blanketOf_4 : decode cL_blanketOf 4 = .ok (.invokevirtual 45, 3) := by decide +kernel
theorem dL_blanketOf_7 : decode cL_blanketOf 7 = .ok (.i2l, 1) := by decide +kernel
theorem dL_blanketOf_8 : decode cL_blanketOf 8 = .ok (.lastore, 1) := by decide +kernel
theorem dL_blanketOf_9 : decode cL_blanketOf 9 = .ok (.goto 6, 3) := by decide +kernel
theorem dL_blanketOf_12 : decode cL_blanketOf 12 = .ok (.astore_n 3, 1) := by decide +kernel
theorem dL_blanketOf_13 : decode cL_blanketOf 13 = .ok (.iconst 1, 1) := by decide +kernel
theorem dL_blanketOf_14 : decode cL_blanketOf 14 = .ok (.ireturn, 1) := by decide +kernel
theorem dL_blanketOf_15 : decode cL_blanketOf 15 = .ok (.iconst 0, 1) := by decide +kernel
theorem dL_blanketOf_16 : decode cL_blanketOf 16 = .ok (.ireturn, 1) := by decide +kernel
theorem dL_warmth_0 : decode cL_warmth 0 = .ok (.aload_n 2, 1) := by decide +kernel
theorem dL_warmth_1 : decode cL_warmth 1 = .ok (.iconst 0, 1) := by decide +kernel
theorem dL_warmth_2 : decode cL_warmth 2 = .ok (.aload_n 0, 1) := by decide +kernel
theorem dL_warmth_3 : decode cL_warmth 3 = .ok (.iload_n 1, 1) := by decide +kernel
theorem dL_warmth_4 : decode cL_warmth 4 = .ok (.invokevirtual 48, 3) := by decide +kernel
theorem dL_warmth_7 : decode cL_warmth 7 = .ok (.i2l, 1) := by decide +kernel
theorem dL_warmth_8 : decode cL_warmth 8 = .ok (.lastore, 1) := by decide +kernel
theorem dL_warmth_9 : decode cL_warmth 9 = .ok (.goto 6, 3) := by decide +kernel
theorem dL_warmth_12 : decode cL_warmth 12 = .ok (.astore_n 3, 1) := by decide +kernel
theorem dL_warmth_13 : decode cL_warmth 13 = .ok (.iconst 1, 1) := by decide +kernel
theorem dL_warmth_14 : decode cL_warmth 14 = .ok (.ireturn, 1) := by decide +kernel
theorem dL_warmth_15 : decode cL_warmth 15 = .ok (.iconst 0, 1) := by decide +kernel
theorem dL_warmth_16 : decode cL_warmth 16 = .ok (.ireturn, 1) := by decide +kernel
theorem dL_activity_0 : decode cL_activity 0 = .ok (.aload_n 2, 1) := by decide +kernel
theorem dL_activity_1 : decode cL_activity 1 = .ok (.iconst 0, 1) := by decide +kernel
theorem dL_activity_2 : decode cL_activity 2 = .ok (.aload_n 0, 1) := by decide +kernel
theorem dL_activity_3 : decode cL_activity 3 = .ok (.iload_n 1, 1) := by decide +kernel
theorem dL_activity_4 : decode cL_activity 4 = .ok (.invokevirtual 51, 3) := by decide +kernel
theorem dL_activity_7 : decode cL_activity 7 = .ok (.i2l, 1) := by decide +kernel
theorem dL_activity_8 : decode cL_activity 8 = .ok (.lastore, 1) := by decide +kernel
theorem dL_activity_9 : decode cL_activity 9 = .ok (.goto 6, 3) := by decide +kernel
theorem dL_activity_12 : decode cL_activity 12 = .ok (.astore_n 3, 1) := by decide +kernel
theorem dL_activity_13 : decode cL_activity 13 = .ok (.iconst 1, 1) := by decide +kernel
theorem dL_activity_14 : decode cL_activity 14 = .ok (.ireturn, 1) := by decide +kernel
theorem dL_activity_15 : decode cL_activity 15 = .ok (.iconst 0, 1) := by decide +kernel
theorem dL_activity_16 : decode cL_activity 16 = .ok (.ireturn, 1) := by decide +kernel
theorem dL_hoursOf_0 : decode cL_hoursOf 0 = .ok (.aload_n 3, 1) := by decide +kernel
theorem dL_hoursOf_1 : decode cL_hoursOf 1 = .ok (.iconst 0, 1) := by decide +kernel
theorem dL_hoursOf_2 : decode cL_hoursOf 2 = .ok (.aload_n 0, 1) := by decide +kernel
theorem dL_hoursOf_3 : decode cL_hoursOf 3 = .ok (.iload_n 1, 1) := by decide +kernel
theorem dL_hoursOf_4 : decode cL_hoursOf 4 = .ok (.iload_n 2, 1) := by decide +kernel
theorem dL_hoursOf_5 : decode cL_hoursOf 5 = .ok (.invokevirtual 54, 3) := by decide +kernel
theorem dL_hoursOf_8 : decode cL_hoursOf 8 = .ok (.i2l, 1) := by decide +kernel
theorem dL_hoursOf_9 : decode cL_hoursOf 9 = .ok (.lastore, 1) := by decide +kernel
theorem dL_hoursOf_10 : decode cL_hoursOf 10 = .ok (.goto 11, 3) := by decide +kernel
theorem dL_hoursOf_13 : decode cL_hoursOf 13 = .ok (.astore 4, 2) := by decide +kernel
theorem dL_hoursOf_15 : decode cL_hoursOf 15 = .ok (.iconst 1, 1) := by decide +kernel
theorem dL_hoursOf_16 : decode cL_hoursOf 16 = .ok (.ireturn, 1) := by decide +kernel
theorem dL_hoursOf_17 : decode cL_hoursOf 17 = .ok (.astore 4, 2) := by decide +kernel
theorem dL_hoursOf_19 : decode cL_hoursOf 19 = .ok (.iconst 2, 1) := by decide +kernel
theorem dL_hoursOf_20 : decode cL_hoursOf 20 = .ok (.ireturn, 1) := by decide +kernel
theorem dL_hoursOf_21 : decode cL_hoursOf 21 = .ok (.iconst 0, 1) := by decide +kernel
theorem dL_hoursOf_22 : decode cL_hoursOf 22 = .ok (.ireturn, 1) := by decide +kernel
theorem dL_coinsOf_0 : decode cL_coinsOf 0 = .ok (.aload_n 2, 1) := by decide +kernel
theorem dL_coinsOf_1 : decode cL_coinsOf 1 = .ok (.iconst 0, 1) := by decide +kernel
theorem dL_coinsOf_2 : decode cL_coinsOf 2 = .ok (.aload_n 0, 1) := by decide +kernel
theorem dL_coinsOf_3 : decode cL_coinsOf 3 = .ok (.iload_n 1, 1) := by decide +kernel
theorem dL_coinsOf_4 : decode cL_coinsOf 4 = .ok (.invokevirtual 58, 3) := by decide +kernel
theorem dL_coinsOf_7 : decode cL_coinsOf 7 = .ok (.i2l, 1) := by decide +kernel
theorem dL_coinsOf_8 : decode cL_coinsOf 8 = .ok (.lastore, 1) := by decide +kernel
theorem dL_coinsOf_9 : decode cL_coinsOf 9 = .ok (.goto 6, 3) := by decide +kernel
theorem dL_coinsOf_12 : decode cL_coinsOf 12 = .ok (.astore_n 3, 1) := by decide +kernel
theorem dL_coinsOf_13 : decode cL_coinsOf 13 = .ok (.iconst 1, 1) := by decide +kernel
theorem dL_coinsOf_14 : decode cL_coinsOf 14 = .ok (.ireturn, 1) := by decide +kernel
theorem dL_coinsOf_15 : decode cL_coinsOf 15 = .ok (.iconst 0, 1) := by decide +kernel
theorem dL_coinsOf_16 : decode cL_coinsOf 16 = .ok (.ireturn, 1) := by decide +kernel
theorem dL_debtOf_0 : decode cL_debtOf 0 = .ok (.aload_n 2, 1) := by decide +kernel
theorem dL_debtOf_1 : decode cL_debtOf 1 = .ok (.iconst 0, 1) := by decide +kernel
theorem dL_debtOf_2 : decode cL_debtOf 2 = .ok (.aload_n 0, 1) := by decide +kernel
theorem dL_debtOf_3 : decode cL_debtOf 3 = .ok (.iload_n 1, 1) := by decide +kernel
theorem dL_debtOf_4 : decode cL_debtOf 4 = .ok (.invokevirtual 61, 3) := by decide +kernel
theorem dL_debtOf_7 : decode cL_debtOf 7 = .ok (.i2l, 1) := by decide +kernel
theorem dL_debtOf_8 : decode cL_debtOf 8 = .ok (.lastore, 1) := by decide +kernel
theorem dL_debtOf_9 : decode cL_debtOf 9 = .ok (.goto 6, 3) := by decide +kernel
theorem dL_debtOf_12 : decode cL_debtOf 12 = .ok (.astore_n 3, 1) := by decide +kernel
theorem dL_debtOf_13 : decode cL_debtOf 13 = .ok (.iconst 1, 1) := by decide +kernel
theorem dL_debtOf_14 : decode cL_debtOf 14 = .ok (.ireturn, 1) := by decide +kernel
theorem dL_debtOf_15 : decode cL_debtOf 15 = .ok (.iconst 0, 1) := by decide +kernel
theorem dL_debtOf_16 : decode cL_debtOf 16 = .ok (.ireturn, 1) := by decide +kernel
theorem dL_hikerAtRank_0 : decode cL_hikerAtRank 0 = .ok (.aload_n 2, 1) := by decide +kernel
theorem dL_hikerAtRank_1 : decode cL_hikerAtRank 1 = .ok (.iconst 0, 1) := by decide +kernel
theorem dL_hikerAtRank_2 : decode cL_hikerAtRank 2 = .ok (.aload_n 0, 1) := by decide +kernel
theorem dL_hikerAtRank_3 : decode cL_hikerAtRank 3 = .ok (.iload_n 1, 1) := by decide +kernel
theorem dL_hikerAtRank_4 : decode cL_hikerAtRank 4 = .ok (.invokevirtual 64, 3) := by decide +kernel
theorem dL_hikerAtRank_7 : decode cL_hikerAtRank 7 = .ok (.i2l, 1) := by decide +kernel
theorem dL_hikerAtRank_8 : decode cL_hikerAtRank 8 = .ok (.lastore, 1) := by decide +kernel
theorem dL_hikerAtRank_9 : decode cL_hikerAtRank 9 = .ok (.goto 6, 3) := by decide +kernel
theorem dL_hikerAtRank_12 : decode cL_hikerAtRank 12 = .ok (.astore_n 3, 1) := by decide +kernel
theorem dL_hikerAtRank_13 : decode cL_hikerAtRank 13 = .ok (.iconst 1, 1) := by decide +kernel
theorem dL_hikerAtRank_14 : decode cL_hikerAtRank 14 = .ok (.ireturn, 1) := by decide +kernel
theorem dL_hikerAtRank_15 : decode cL_hikerAtRank 15 = .ok (.iconst 0, 1) := by decide +kernel
theorem dL_hikerAtRank_16 : decode cL_hikerAtRank 16 = .ok (.ireturn, 1) := by decide +kernel
theorem dL_warmestBunk_0 : decode cL_warmestBunk 0 = .ok (.aload_n 2, 1) := by decide +kernel
theorem dL_warmestBunk_1 : decode cL_warmestBunk 1 = .ok (.iconst 0, 1) := by decide +kernel
theorem dL_warmestBunk_2 : decode cL_warmestBunk 2 = .ok (.aload_n 0, 1) := by decide +kernel
theorem dL_warmestBunk_3 : decode cL_warmestBunk 3 = .ok (.iload_n 1, 1) := by decide +kernel
theorem dL_warmestBunk_4 : decode cL_warmestBunk 4 = .ok (.invokevirtual 67, 3) := by decide +kernel
theorem dL_warmestBunk_7 : decode cL_warmestBunk 7 = .ok (.i2l, 1) := by decide +kernel
theorem dL_warmestBunk_8 : decode cL_warmestBunk 8 = .ok (.lastore, 1) := by decide +kernel
theorem dL_warmestBunk_9 : decode cL_warmestBunk 9 = .ok (.goto 6, 3) := by decide +kernel
theorem dL_warmestBunk_12 : decode cL_warmestBunk 12 = .ok (.astore_n 3, 1) := by decide +kernel
theorem dL_warmestBunk_13 : decode cL_warmestBunk 13 = .ok (.iconst 1, 1) := by decide +kernel
theorem dL_warmestBunk_14 : decode cL_warmestBunk 14 = .ok (.ireturn, 1) := by decide +kernel
theorem dL_warmestBunk_15 : decode cL_warmestBunk 15 = .ok (.iconst 0, 1) := by decide +kernel
theorem dL_warmestBunk_16 : decode cL_warmestBunk 16 = .ok (.ireturn, 1) := by decide +kernel
theorem dL_temperatureAfter_0 : decode cL_temperatureAfter 0 = .ok (.aload_n 2, 1) := by decide +kernel
theorem dL_temperatureAfter_1 : decode cL_temperatureAfter 1 = .ok (.iconst 0, 1) := by decide +kernel
theorem dL_temperatureAfter_2 : decode cL_temperatureAfter 2 = .ok (.aload_n 0, 1) := by decide +kernel
theorem dL_temperatureAfter_3 : decode cL_temperatureAfter 3 = .ok (.iload_n 1, 1) := by decide +kernel
theorem dL_temperatureAfter_4 : decode cL_temperatureAfter 4 = .ok (.invokevirtual 70, 3) := by decide +kernel
theorem dL_temperatureAfter_7 : decode cL_temperatureAfter 7 = .ok (.i2l, 1) := by decide +kernel
theorem dL_temperatureAfter_8 : decode cL_temperatureAfter 8 = .ok (.lastore, 1) := by decide +kernel
theorem dL_temperatureAfter_9 : decode cL_temperatureAfter 9 = .ok (.goto 6, 3) := by decide +kernel
theorem dL_temperatureAfter_12 : decode cL_temperatureAfter 12 = .ok (.astore_n 3, 1) := by decide +kernel
theorem dL_temperatureAfter_13 : decode cL_temperatureAfter 13 = .ok (.iconst 1, 1) := by decide +kernel
theorem dL_temperatureAfter_14 : decode cL_temperatureAfter 14 = .ok (.ireturn, 1) := by decide +kernel
theorem dL_temperatureAfter_15 : decode cL_temperatureAfter 15 = .ok (.iconst 0, 1) := by decide +kernel
theorem dL_temperatureAfter_16 : decode cL_temperatureAfter 16 = .ok (.ireturn, 1) := by decide +kernel
theorem dL_shiversUntilDawn_0 : decode cL_shiversUntilDawn 0 = .ok (.aload_n 2, 1) := by decide +kernel
theorem dL_shiversUntilDawn_1 : decode cL_shiversUntilDawn 1 = .ok (.iconst 0, 1) := by decide +kernel
theorem dL_shiversUntilDawn_2 : decode cL_shiversUntilDawn 2 = .ok (.aload_n 0, 1) := by decide +kernel
theorem dL_shiversUntilDawn_3 : decode cL_shiversUntilDawn 3 = .ok (.iload_n 1, 1) := by decide +kernel
theorem dL_shiversUntilDawn_4 : decode cL_shiversUntilDawn 4 = .ok (.invokevirtual 73, 3) := by decide +kernel
theorem dL_shiversUntilDawn_7 : decode cL_shiversUntilDawn 7 = .ok (.i2l, 1) := by decide +kernel
theorem dL_shiversUntilDawn_8 : decode cL_shiversUntilDawn 8 = .ok (.lastore, 1) := by decide +kernel
theorem dL_shiversUntilDawn_9 : decode cL_shiversUntilDawn 9 = .ok (.goto 6, 3) := by decide +kernel
theorem dL_shiversUntilDawn_12 : decode cL_shiversUntilDawn 12 = .ok (.astore_n 3, 1) := by decide +kernel
theorem dL_shiversUntilDawn_13 : decode cL_shiversUntilDawn 13 = .ok (.iconst 1, 1) := by decide +kernel
theorem dL_shiversUntilDawn_14 : decode cL_shiversUntilDawn 14 = .ok (.ireturn, 1) := by decide +kernel
theorem dL_shiversUntilDawn_15 : decode cL_shiversUntilDawn 15 = .ok (.iconst 0, 1) := by decide +kernel
theorem dL_shiversUntilDawn_16 : decode cL_shiversUntilDawn 16 = .ok (.ireturn, 1) := by decide +kernel
theorem dL_paymentAtDawn_0 : decode cL_paymentAtDawn 0 = .ok (.aload_n 2, 1) := by decide +kernel
theorem dL_paymentAtDawn_1 : decode cL_paymentAtDawn 1 = .ok (.iconst 0, 1) := by decide +kernel
theorem dL_paymentAtDawn_2 : decode cL_paymentAtDawn 2 = .ok (.aload_n 0, 1) := by decide +kernel
theorem dL_paymentAtDawn_3 : decode cL_paymentAtDawn 3 = .ok (.iload_n 1, 1) := by decide +kernel
theorem dL_paymentAtDawn_4 : decode cL_paymentAtDawn 4 = .ok (.invokevirtual 76, 3) := by decide +kernel
theorem dL_paymentAtDawn_7 : decode cL_paymentAtDawn 7 = .ok (.i2l, 1) := by decide +kernel
theorem dL_paymentAtDawn_8 : decode cL_paymentAtDawn 8 = .ok (.lastore, 1) := by decide +kernel
theorem dL_paymentAtDawn_9 : decode cL_paymentAtDawn 9 = .ok (.goto 6, 3) := by decide +kernel
theorem dL_paymentAtDawn_12 : decode cL_paymentAtDawn 12 = .ok (.astore_n 3, 1) := by decide +kernel
theorem dL_paymentAtDawn_13 : decode cL_paymentAtDawn 13 = .ok (.iconst 1, 1) := by decide +kernel
theorem dL_paymentAtDawn_14 : decode cL_paymentAtDawn 14 = .ok (.ireturn, 1) := by decide +kernel
theorem dL_paymentAtDawn_15 : decode cL_paymentAtDawn 15 = .ok (.iconst 0, 1) := by decide +kernel
theorem dL_paymentAtDawn_16 : decode cL_paymentAtDawn 16 = .ok (.ireturn, 1) := by decide +kernel
theorem dL_debtAfter_0 : decode cL_debtAfter 0 = .ok (.aload_n 3, 1) := by decide +kernel
theorem dL_debtAfter_1 : decode cL_debtAfter 1 = .ok (.iconst 0, 1) := by decide +kernel
theorem dL_debtAfter_2 : decode cL_debtAfter 2 = .ok (.aload_n 0, 1) := by decide +kernel
theorem dL_debtAfter_3 : decode cL_debtAfter 3 = .ok (.iload_n 1, 1) := by decide +kernel
theorem dL_debtAfter_4 : decode cL_debtAfter 4 = .ok (.iload_n 2, 1) := by decide +kernel
theorem dL_debtAfter_5 : decode cL_debtAfter 5 = .ok (.invokevirtual 79, 3) := by decide +kernel
theorem dL_debtAfter_8 : decode cL_debtAfter 8 = .ok (.i2l, 1) := by decide +kernel
theorem dL_debtAfter_9 : decode cL_debtAfter 9 = .ok (.lastore, 1) := by decide +kernel
theorem dL_debtAfter_10 : decode cL_debtAfter 10 = .ok (.goto 11, 3) := by decide +kernel
theorem dL_debtAfter_13 : decode cL_debtAfter 13 = .ok (.astore 4, 2) := by decide +kernel
theorem dL_debtAfter_15 : decode cL_debtAfter 15 = .ok (.iconst 1, 1) := by decide +kernel
theorem dL_debtAfter_16 : decode cL_debtAfter 16 = .ok (.ireturn, 1) := by decide +kernel
theorem dL_debtAfter_17 : decode cL_debtAfter 17 = .ok (.astore 4, 2) := by decide +kernel
theorem dL_debtAfter_19 : decode cL_debtAfter 19 = .ok (.iconst 2, 1) := by decide +kernel
theorem dL_debtAfter_20 : decode cL_debtAfter 20 = .ok (.ireturn, 1) := by decide +kernel
theorem dL_debtAfter_21 : decode cL_debtAfter 21 = .ok (.iconst 0, 1) := by decide +kernel
theorem dL_debtAfter_22 : decode cL_debtAfter 22 = .ok (.ireturn, 1) := by decide +kernel
theorem dL_dawnsUntilDebt_0 : decode cL_dawnsUntilDebt 0 = .ok (.aload_n 2, 1) := by decide +kernel
theorem dL_dawnsUntilDebt_1 : decode cL_dawnsUntilDebt 1 = .ok (.iconst 0, 1) := by decide +kernel
theorem dL_dawnsUntilDebt_2 : decode cL_dawnsUntilDebt 2 = .ok (.aload_n 0, 1) := by decide +kernel
theorem dL_dawnsUntilDebt_3 : decode cL_dawnsUntilDebt 3 = .ok (.iload_n 1, 1) := by decide +kernel
theorem dL_dawnsUntilDebt_4 : decode cL_dawnsUntilDebt 4 = .ok (.invokevirtual 82, 3) := by decide +kernel
theorem dL_dawnsUntilDebt_7 : decode cL_dawnsUntilDebt 7 = .ok (.i2l, 1) := by decide +kernel
theorem dL_dawnsUntilDebt_8 : decode cL_dawnsUntilDebt 8 = .ok (.lastore, 1) := by decide +kernel
theorem dL_dawnsUntilDebt_9 : decode cL_dawnsUntilDebt 9 = .ok (.goto 6, 3) := by decide +kernel
theorem dL_dawnsUntilDebt_12 : decode cL_dawnsUntilDebt 12 = .ok (.astore_n 3, 1) := by decide +kernel
theorem dL_dawnsUntilDebt_13 : decode cL_dawnsUntilDebt 13 = .ok (.iconst 1, 1) := by decide +kernel
theorem dL_dawnsUntilDebt_14 : decode cL_dawnsUntilDebt 14 = .ok (.ireturn, 1) := by decide +kernel
theorem dL_dawnsUntilDebt_15 : decode cL_dawnsUntilDebt 15 = .ok (.iconst 0, 1) := by decide +kernel
theorem dL_dawnsUntilDebt_16 : decode cL_dawnsUntilDebt 16 = .ok (.ireturn, 1) := by decide +kernel
theorem dL_takeBlanket_0 : decode cL_takeBlanket 0 = .ok (.aload_n 3, 1) := by decide +kernel
theorem dL_takeBlanket_1 : decode cL_takeBlanket 1 = .ok (.iconst 0, 1) := by decide +kernel
theorem dL_takeBlanket_2 : decode cL_takeBlanket 2 = .ok (.aload_n 0, 1) := by decide +kernel
theorem dL_takeBlanket_3 : decode cL_takeBlanket 3 = .ok (.iload_n 1, 1) := by decide +kernel
theorem dL_takeBlanket_4 : decode cL_takeBlanket 4 = .ok (.iload_n 2, 1) := by decide +kernel
theorem dL_takeBlanket_5 : decode cL_takeBlanket 5 = .ok (.invokevirtual 85, 3) := by decide +kernel
theorem dL_takeBlanket_8 : decode cL_takeBlanket 8 = .ok (.i2l, 1) := by decide +kernel
theorem dL_takeBlanket_9 : decode cL_takeBlanket 9 = .ok (.lastore, 1) := by decide +kernel
theorem dL_takeBlanket_10 : decode cL_takeBlanket 10 = .ok (.goto 11, 3) := by decide +kernel
theorem dL_takeBlanket_13 : decode cL_takeBlanket 13 = .ok (.astore 4, 2) := by decide +kernel
theorem dL_takeBlanket_15 : decode cL_takeBlanket 15 = .ok (.iconst 1, 1) := by decide +kernel
theorem dL_takeBlanket_16 : decode cL_takeBlanket 16 = .ok (.ireturn, 1) := by decide +kernel
theorem dL_takeBlanket_17 : decode cL_takeBlanket 17 = .ok (.astore 4, 2) := by decide +kernel
theorem dL_takeBlanket_19 : decode cL_takeBlanket 19 = .ok (.iconst 2, 1) := by decide +kernel
theorem dL_takeBlanket_20 : decode cL_takeBlanket 20 = .ok (.ireturn, 1) := by decide +kernel
theorem dL_takeBlanket_21 : decode cL_takeBlanket 21 = .ok (.iconst 0, 1) := by decide +kernel
theorem dL_takeBlanket_22 : decode cL_takeBlanket 22 = .ok (.ireturn, 1) := by decide +kernel
theorem dL_returnBlanket_0 : decode cL_returnBlanket 0 = .ok (.aload_n 2, 1) := by decide +kernel
theorem dL_returnBlanket_1 : decode cL_returnBlanket 1 = .ok (.iconst 0, 1) := by decide +kernel
theorem dL_returnBlanket_2 : decode cL_returnBlanket 2 = .ok (.aload_n 0, 1) := by decide +kernel
theorem dL_returnBlanket_3 : decode cL_returnBlanket 3 = .ok (.iload_n 1, 1) := by decide +kernel
theorem dL_returnBlanket_4 : decode cL_returnBlanket 4 = .ok (.invokevirtual 88, 3) := by decide +kernel
theorem dL_returnBlanket_7 : decode cL_returnBlanket 7 = .ok (.i2l, 1) := by decide +kernel
theorem dL_returnBlanket_8 : decode cL_returnBlanket 8 = .ok (.lastore, 1) := by decide +kernel
theorem dL_returnBlanket_9 : decode cL_returnBlanket 9 = .ok (.goto 9, 3) := by decide +kernel
theorem dL_returnBlanket_12 : decode cL_returnBlanket 12 = .ok (.astore_n 3, 1) := by decide +kernel
theorem dL_returnBlanket_13 : decode cL_returnBlanket 13 = .ok (.iconst 1, 1) := by decide +kernel
theorem dL_returnBlanket_14 : decode cL_returnBlanket 14 = .ok (.ireturn, 1) := by decide +kernel
theorem dL_returnBlanket_15 : decode cL_returnBlanket 15 = .ok (.astore_n 3, 1) := by decide +kernel
theorem dL_returnBlanket_16 : decode cL_returnBlanket 16 = .ok (.iconst 2, 1) := by decide +kernel
theorem dL_returnBlanket_17 : decode cL_returnBlanket 17 = .ok (.ireturn, 1) := by decide +kernel
theorem dL_returnBlanket_18 : decode cL_returnBlanket 18 = .ok (.iconst 0, 1) := by decide +kernel
theorem dL_returnBlanket_19 : decode cL_returnBlanket 19 = .ok (.ireturn, 1) := by decide +kernel
theorem dL_swapBlankets_0 : decode cL_swapBlankets 0 = .ok (.aload_n 3, 1) := by decide +kernel
theorem dL_swapBlankets_1 : decode cL_swapBlankets 1 = .ok (.iconst 0, 1) := by decide +kernel
theorem dL_swapBlankets_2 : decode cL_swapBlankets 2 = .ok (.aload_n 0, 1) := by decide +kernel
theorem dL_swapBlankets_3 : decode cL_swapBlankets 3 = .ok (.iload_n 1, 1) := by decide +kernel
theorem dL_swapBlankets_4 : decode cL_swapBlankets 4 = .ok (.iload_n 2, 1) := by decide +kernel
theorem dL_swapBlankets_5 : decode cL_swapBlankets 5 = .ok (.invokevirtual 91, 3) := by decide +kernel
theorem dL_swapBlankets_8 : decode cL_swapBlankets 8 = .ok (.i2l, 1) := by decide +kernel
theorem dL_swapBlankets_9 : decode cL_swapBlankets 9 = .ok (.lastore, 1) := by decide +kernel
theorem dL_swapBlankets_10 : decode cL_swapBlankets 10 = .ok (.goto 11, 3) := by decide +kernel
theorem dL_swapBlankets_13 : decode cL_swapBlankets 13 = .ok (.astore 4, 2) := by decide +kernel
theorem dL_swapBlankets_15 : decode cL_swapBlankets 15 = .ok (.iconst 1, 1) := by decide +kernel
theorem dL_swapBlankets_16 : decode cL_swapBlankets 16 = .ok (.ireturn, 1) := by decide +kernel
theorem dL_swapBlankets_17 : decode cL_swapBlankets 17 = .ok (.astore 4, 2) := by decide +kernel
theorem dL_swapBlankets_19 : decode cL_swapBlankets 19 = .ok (.iconst 2, 1) := by decide +kernel
theorem dL_swapBlankets_20 : decode cL_swapBlankets 20 = .ok (.ireturn, 1) := by decide +kernel
theorem dL_swapBlankets_21 : decode cL_swapBlankets 21 = .ok (.iconst 0, 1) := by decide +kernel
theorem dL_swapBlankets_22 : decode cL_swapBlankets 22 = .ok (.ireturn, 1) := by decide +kernel
theorem dL_lieDown_0 : decode cL_lieDown 0 = .ok (.aload_n 3, 1) := by decide +kernel
theorem dL_lieDown_1 : decode cL_lieDown 1 = .ok (.iconst 0, 1) := by decide +kernel
theorem dL_lieDown_2 : decode cL_lieDown 2 = .ok (.aload_n 0, 1) := by decide +kernel
theorem dL_lieDown_3 : decode cL_lieDown 3 = .ok (.iload_n 1, 1) := by decide +kernel
theorem dL_lieDown_4 : decode cL_lieDown 4 = .ok (.iload_n 2, 1) := by decide +kernel
theorem dL_lieDown_5 : decode cL_lieDown 5 = .ok (.invokevirtual 94, 3) := by decide +kernel
theorem dL_lieDown_8 : decode cL_lieDown 8 = .ok (.i2l, 1) := by decide +kernel
theorem dL_lieDown_9 : decode cL_lieDown 9 = .ok (.lastore, 1) := by decide +kernel
theorem dL_lieDown_10 : decode cL_lieDown 10 = .ok (.goto 11, 3) := by decide +kernel
theorem dL_lieDown_13 : decode cL_lieDown 13 = .ok (.astore 4, 2) := by decide +kernel
theorem dL_lieDown_15 : decode cL_lieDown 15 = .ok (.iconst 1, 1) := by decide +kernel
theorem dL_lieDown_16 : decode cL_lieDown 16 = .ok (.ireturn, 1) := by decide +kernel
theorem dL_lieDown_17 : decode cL_lieDown 17 = .ok (.astore 4, 2) := by decide +kernel
theorem dL_lieDown_19 : decode cL_lieDown 19 = .ok (.iconst 2, 1) := by decide +kernel
theorem dL_lieDown_20 : decode cL_lieDown 20 = .ok (.ireturn, 1) := by decide +kernel
theorem dL_lieDown_21 : decode cL_lieDown 21 = .ok (.iconst 0, 1) := by decide +kernel
theorem dL_lieDown_22 : decode cL_lieDown 22 = .ok (.ireturn, 1) := by decide +kernel
theorem dL_getUp_0 : decode cL_getUp 0 = .ok (.aload_n 2, 1) := by decide +kernel
theorem dL_getUp_1 : decode cL_getUp 1 = .ok (.iconst 0, 1) := by decide +kernel
theorem dL_getUp_2 : decode cL_getUp 2 = .ok (.aload_n 0, 1) := by decide +kernel
theorem dL_getUp_3 : decode cL_getUp 3 = .ok (.iload_n 1, 1) := by decide +kernel
theorem dL_getUp_4 : decode cL_getUp 4 = .ok (.invokevirtual 97, 3) := by decide +kernel
theorem dL_getUp_7 : decode cL_getUp 7 = .ok (.i2l, 1) := by decide +kernel
theorem dL_getUp_8 : decode cL_getUp 8 = .ok (.lastore, 1) := by decide +kernel
theorem dL_getUp_9 : decode cL_getUp 9 = .ok (.goto 9, 3) := by decide +kernel
theorem dL_getUp_12 : decode cL_getUp 12 = .ok (.astore_n 3, 1) := by decide +kernel
theorem dL_getUp_13 : decode cL_getUp 13 = .ok (.iconst 1, 1) := by decide +kernel
theorem dL_getUp_14 : decode cL_getUp 14 = .ok (.ireturn, 1) := by decide +kernel
theorem dL_getUp_15 : decode cL_getUp 15 = .ok (.astore_n 3, 1) := by decide +kernel
theorem dL_getUp_16 : decode cL_getUp 16 = .ok (.iconst 2, 1) := by decide +kernel
theorem dL_getUp_17 : decode cL_getUp 17 = .ok (.ireturn, 1) := by decide +kernel
theorem dL_getUp_18 : decode cL_getUp 18 = .ok (.iconst 0, 1) := by decide +kernel
theorem dL_getUp_19 : decode cL_getUp 19 = .ok (.ireturn, 1) := by decide +kernel
theorem dL_setRate_0 : decode cL_setRate 0 = .ok (.aload_n 2, 1) := by decide +kernel
theorem dL_setRate_1 : decode cL_setRate 1 = .ok (.iconst 0, 1) := by decide +kernel
theorem dL_setRate_2 : decode cL_setRate 2 = .ok (.aload_n 0, 1) := by decide +kernel
theorem dL_setRate_3 : decode cL_setRate 3 = .ok (.iload_n 1, 1) := by decide +kernel
theorem dL_setRate_4 : decode cL_setRate 4 = .ok (.invokevirtual 100, 3) := by decide +kernel
theorem dL_setRate_7 : decode cL_setRate 7 = .ok (.i2l, 1) := by decide +kernel
theorem dL_setRate_8 : decode cL_setRate 8 = .ok (.lastore, 1) := by decide +kernel
theorem dL_setRate_9 : decode cL_setRate 9 = .ok (.goto 6, 3) := by decide +kernel
theorem dL_setRate_12 : decode cL_setRate 12 = .ok (.astore_n 3, 1) := by decide +kernel
theorem dL_setRate_13 : decode cL_setRate 13 = .ok (.iconst 1, 1) := by decide +kernel
theorem dL_setRate_14 : decode cL_setRate 14 = .ok (.ireturn, 1) := by decide +kernel
theorem dL_setRate_15 : decode cL_setRate 15 = .ok (.iconst 0, 1) := by decide +kernel
theorem dL_setRate_16 : decode cL_setRate 16 = .ok (.ireturn, 1) := by decide +kernel
theorem dL_fetchLogs_0 : decode cL_fetchLogs 0 = .ok (.aload_n 2, 1) := by decide +kernel
theorem dL_fetchLogs_1 : decode cL_fetchLogs 1 = .ok (.iconst 0, 1) := by decide +kernel
theorem dL_fetchLogs_2 : decode cL_fetchLogs 2 = .ok (.aload_n 0, 1) := by decide +kernel
theorem dL_fetchLogs_3 : decode cL_fetchLogs 3 = .ok (.iload_n 1, 1) := by decide +kernel
theorem dL_fetchLogs_4 : decode cL_fetchLogs 4 = .ok (.invokevirtual 103, 3) := by decide +kernel
theorem dL_fetchLogs_7 : decode cL_fetchLogs 7 = .ok (.i2l, 1) := by decide +kernel
theorem dL_fetchLogs_8 : decode cL_fetchLogs 8 = .ok (.lastore, 1) := by decide +kernel
theorem dL_fetchLogs_9 : decode cL_fetchLogs 9 = .ok (.goto 9, 3) := by decide +kernel
theorem dL_fetchLogs_12 : decode cL_fetchLogs 12 = .ok (.astore_n 3, 1) := by decide +kernel
theorem dL_fetchLogs_13 : decode cL_fetchLogs 13 = .ok (.iconst 1, 1) := by decide +kernel
theorem dL_fetchLogs_14 : decode cL_fetchLogs 14 = .ok (.ireturn, 1) := by decide +kernel
theorem dL_fetchLogs_15 : decode cL_fetchLogs 15 = .ok (.astore_n 3, 1) := by decide +kernel
theorem dL_fetchLogs_16 : decode cL_fetchLogs 16 = .ok (.iconst 2, 1) := by decide +kernel
theorem dL_fetchLogs_17 : decode cL_fetchLogs 17 = .ok (.ireturn, 1) := by decide +kernel
theorem dL_fetchLogs_18 : decode cL_fetchLogs 18 = .ok (.iconst 0, 1) := by decide +kernel
theorem dL_fetchLogs_19 : decode cL_fetchLogs 19 = .ok (.ireturn, 1) := by decide +kernel
theorem dL_payDebt_0 : decode cL_payDebt 0 = .ok (.aload_n 3, 1) := by decide +kernel
theorem dL_payDebt_1 : decode cL_payDebt 1 = .ok (.iconst 0, 1) := by decide +kernel
theorem dL_payDebt_2 : decode cL_payDebt 2 = .ok (.aload_n 0, 1) := by decide +kernel
theorem dL_payDebt_3 : decode cL_payDebt 3 = .ok (.iload_n 1, 1) := by decide +kernel
theorem dL_payDebt_4 : decode cL_payDebt 4 = .ok (.iload_n 2, 1) := by decide +kernel
theorem dL_payDebt_5 : decode cL_payDebt 5 = .ok (.invokevirtual 106, 3) := by decide +kernel
theorem dL_payDebt_8 : decode cL_payDebt 8 = .ok (.i2l, 1) := by decide +kernel
theorem dL_payDebt_9 : decode cL_payDebt 9 = .ok (.lastore, 1) := by decide +kernel
theorem dL_payDebt_10 : decode cL_payDebt 10 = .ok (.goto 15, 3) := by decide +kernel
theorem dL_payDebt_13 : decode cL_payDebt 13 = .ok (.astore 4, 2) := by decide +kernel
theorem dL_payDebt_15 : decode cL_payDebt 15 = .ok (.iconst 1, 1) := by decide +kernel
theorem dL_payDebt_16 : decode cL_payDebt 16 = .ok (.ireturn, 1) := by decide +kernel
theorem dL_payDebt_17 : decode cL_payDebt 17 = .ok (.astore 4, 2) := by decide +kernel
theorem dL_payDebt_19 : decode cL_payDebt 19 = .ok (.iconst 2, 1) := by decide +kernel
theorem dL_payDebt_20 : decode cL_payDebt 20 = .ok (.ireturn, 1) := by decide +kernel
theorem dL_payDebt_21 : decode cL_payDebt 21 = .ok (.astore 4, 2) := by decide +kernel
theorem dL_payDebt_23 : decode cL_payDebt 23 = .ok (.iconst 3, 1) := by decide +kernel
theorem dL_payDebt_24 : decode cL_payDebt 24 = .ok (.ireturn, 1) := by decide +kernel
theorem dL_payDebt_25 : decode cL_payDebt 25 = .ok (.iconst 0, 1) := by decide +kernel
theorem dL_payDebt_26 : decode cL_payDebt 26 = .ok (.ireturn, 1) := by decide +kernel
theorem dL_passHours_0 : decode cL_passHours 0 = .ok (.aload_n 2, 1) := by decide +kernel
theorem dL_passHours_1 : decode cL_passHours 1 = .ok (.iconst 0, 1) := by decide +kernel
theorem dL_passHours_2 : decode cL_passHours 2 = .ok (.aload_n 0, 1) := by decide +kernel
theorem dL_passHours_3 : decode cL_passHours 3 = .ok (.iload_n 1, 1) := by decide +kernel
theorem dL_passHours_4 : decode cL_passHours 4 = .ok (.invokevirtual 109, 3) := by decide +kernel
theorem dL_passHours_7 : decode cL_passHours 7 = .ok (.i2l, 1) := by decide +kernel
theorem dL_passHours_8 : decode cL_passHours 8 = .ok (.lastore, 1) := by decide +kernel
theorem dL_passHours_9 : decode cL_passHours 9 = .ok (.goto 9, 3) := by decide +kernel
theorem dL_passHours_12 : decode cL_passHours 12 = .ok (.astore_n 3, 1) := by decide +kernel
theorem dL_passHours_13 : decode cL_passHours 13 = .ok (.iconst 1, 1) := by decide +kernel
theorem dL_passHours_14 : decode cL_passHours 14 = .ok (.ireturn, 1) := by decide +kernel
theorem dL_passHours_15 : decode cL_passHours 15 = .ok (.astore_n 3, 1) := by decide +kernel
theorem dL_passHours_16 : decode cL_passHours 16 = .ok (.iconst 2, 1) := by decide +kernel
theorem dL_passHours_17 : decode cL_passHours 17 = .ok (.ireturn, 1) := by decide +kernel
theorem dL_passHours_18 : decode cL_passHours 18 = .ok (.iconst 0, 1) := by decide +kernel
theorem dL_passHours_19 : decode cL_passHours 19 = .ok (.ireturn, 1) := by decide +kernel
theorem dL_undo_0 : decode cL_undo 0 = .ok (.aload_n 1, 1) := by decide +kernel
theorem dL_undo_1 : decode cL_undo 1 = .ok (.iconst 0, 1) := by decide +kernel
theorem dL_undo_2 : decode cL_undo 2 = .ok (.aload_n 0, 1) := by decide +kernel
theorem dL_undo_3 : decode cL_undo 3 = .ok (.invokevirtual 112, 3) := by decide +kernel
theorem dL_undo_6 : decode cL_undo 6 = .ok (.i2l, 1) := by decide +kernel
theorem dL_undo_7 : decode cL_undo 7 = .ok (.lastore, 1) := by decide +kernel
theorem dL_undo_8 : decode cL_undo 8 = .ok (.goto 6, 3) := by decide +kernel
theorem dL_undo_11 : decode cL_undo 11 = .ok (.astore_n 2, 1) := by decide +kernel
theorem dL_undo_12 : decode cL_undo 12 = .ok (.iconst 1, 1) := by decide +kernel
theorem dL_undo_13 : decode cL_undo 13 = .ok (.ireturn, 1) := by decide +kernel
theorem dL_undo_14 : decode cL_undo 14 = .ok (.iconst 0, 1) := by decide +kernel
theorem dL_undo_15 : decode cL_undo 15 = .ok (.ireturn, 1) := by decide +kernel
theorem dL_saveSnapshot_0 : decode cL_saveSnapshot 0 = .ok (.aload_n 0, 1) := by decide +kernel
theorem dL_saveSnapshot_1 : decode cL_saveSnapshot 1 = .ok (.iload_n 1, 1) := by decide +kernel
theorem dL_saveSnapshot_2 : decode cL_saveSnapshot 2 = .ok (.invokevirtual 116, 3) := by decide +kernel
theorem dL_saveSnapshot_5 : decode cL_saveSnapshot 5 = .ok (.goto 6, 3) := by decide +kernel
theorem dL_saveSnapshot_8 : decode cL_saveSnapshot 8 = .ok (.astore_n 2, 1) := by decide +kernel
theorem dL_saveSnapshot_9 : decode cL_saveSnapshot 9 = .ok (.iconst 1, 1) := by decide +kernel
theorem dL_saveSnapshot_10 : decode cL_saveSnapshot 10 = .ok (.ireturn, 1) := by decide +kernel
theorem dL_saveSnapshot_11 : decode cL_saveSnapshot 11 = .ok (.iconst 0, 1) := by decide +kernel
theorem dL_saveSnapshot_12 : decode cL_saveSnapshot 12 = .ok (.ireturn, 1) := by decide +kernel
theorem dL_restoreSnapshot_0 : decode cL_restoreSnapshot 0 = .ok (.aload_n 0, 1) := by decide +kernel
theorem dL_restoreSnapshot_1 : decode cL_restoreSnapshot 1 = .ok (.iload_n 1, 1) := by decide +kernel
theorem dL_restoreSnapshot_2 : decode cL_restoreSnapshot 2 = .ok (.invokevirtual 120, 3) := by decide +kernel
theorem dL_restoreSnapshot_5 : decode cL_restoreSnapshot 5 = .ok (.goto 9, 3) := by decide +kernel
theorem dL_restoreSnapshot_8 : decode cL_restoreSnapshot 8 = .ok (.astore_n 2, 1) := by decide +kernel
theorem dL_restoreSnapshot_9 : decode cL_restoreSnapshot 9 = .ok (.iconst 1, 1) := by decide +kernel
theorem dL_restoreSnapshot_10 : decode cL_restoreSnapshot 10 = .ok (.ireturn, 1) := by decide +kernel
theorem dL_restoreSnapshot_11 : decode cL_restoreSnapshot 11 = .ok (.astore_n 2, 1) := by decide +kernel
theorem dL_restoreSnapshot_12 : decode cL_restoreSnapshot 12 = .ok (.iconst 2, 1) := by decide +kernel
theorem dL_restoreSnapshot_13 : decode cL_restoreSnapshot 13 = .ok (.ireturn, 1) := by decide +kernel
theorem dL_restoreSnapshot_14 : decode cL_restoreSnapshot 14 = .ok (.iconst 0, 1) := by decide +kernel
theorem dL_restoreSnapshot_15 : decode cL_restoreSnapshot 15 = .ok (.ireturn, 1) := by decide +kernel
