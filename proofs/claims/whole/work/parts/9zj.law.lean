/-! the law's cases -/
section Law64
variable {n : Nat} {w : WS} {a4 : Int32} {Ln : Nat} {xs : Nat → Int32} {x y : Int32}
theorem go_appendText (H : Iv w) (h1 : scA Ln xs (a4 + 1) = some x) (g : AH) : Go n a4 (l_law_j308_23 Ln xs n (n + 312) (n + 323) a4 (putW g n w)) := by
  unfold l_law_j308_23 l_appendText
  simp only [h1, gb_s]
  exact cs_B (K := fun m => x9_appendText m x) (Qt_append H x) hX_S1 g
theorem go_truncateText (H : Iv w) (h1 : scA Ln xs (a4 + 1) = some x) (g : AH) : Go n a4 (l_law_j364_23 Ln xs n (n + 312) (n + 323) a4 (putW g n w)) := by
  unfold l_law_j364_23 l_truncateText
  simp only [h1, gb_s]
  exact cs_B (K := fun m => x9_truncateText m x) (Qt_truncate H x) hX_A1 g
theorem go_loadSetup (H : Iv w) (g : AH) : Go n a4 (l_law_j420_23 Ln xs n (n + 312) (n + 323) a4 (putW g n w)) := by
  unfold l_law_j420_23
  exact cs_A (K := x9_loadSetup) (Qr_load H) g
theorem go_runScript (H : Iv w) (g : AH) : Go n a4 (l_law_j433_23 Ln xs n (n + 312) (n + 323) a4 (putW g n w)) := by
  unfold l_law_j433_23
  exact cs_A (K := x9_runScript) (Qr_run H) g
theorem go_errorCode (H : Iv w) (g : AH) : Go n a4 (l_law_j446_23 Ln xs n (n + 312) (n + 323) a4 (putW g n w)) := by
  unfold l_law_j446_23
  exact cs_A (K := x9_errorCode) (Qr_code H) g
theorem go_errorPosition (H : Iv w) (g : AH) : Go n a4 (l_law_j459_23 Ln xs n (n + 312) (n + 323) a4 (putW g n w)) := by
  unfold l_law_j459_23
  exact cs_A (K := x9_errorPosition) (Qr_pos H) g
theorem go_hour (H : Iv w) (g : AH) : Go n a4 (l_law_j472_23 Ln xs n (n + 312) (n + 323) a4 (putW g n w)) := by
  unfold l_law_j472_23
  exact cs_A (K := x9_hour) (Qr_hour H) g
theorem go_hoursUntilDawn (H : Iv w) (g : AH) : Go n a4 (l_law_j485_23 Ln xs n (n + 312) (n + 323) a4 (putW g n w)) := by
  unfold l_law_j485_23
  exact cs_A (K := x9_hoursUntilDawn) (Qr_hoursUntilDawn H) g
theorem go_logs (H : Iv w) (g : AH) : Go n a4 (l_law_j498_23 Ln xs n (n + 312) (n + 323) a4 (putW g n w)) := by
  unfold l_law_j498_23
  exact cs_A (K := x9_logs) (Qr_logs H) g
theorem go_temperature (H : Iv w) (g : AH) : Go n a4 (l_law_j511_23 Ln xs n (n + 312) (n + 323) a4 (putW g n w)) := by
  unfold l_law_j511_23
  exact cs_A (K := x9_temperature) (Qr_temperature H) g
theorem go_hikerIn (H : Iv w) (h1 : scA Ln xs (a4 + 1) = some x) (g : AH) : Go n a4 (l_law_j524_23 Ln xs n (n + 312) (n + 323) a4 (putW g n w)) := by
  unfold l_law_j524_23 l_hikerIn
  simp only [h1, gb_s]
  exact cs_B (K := fun m => x9_hikerIn m x) (Qt_hikerIn H x) hX_I g
theorem go_noiseIn (H : Iv w) (h1 : scA Ln xs (a4 + 1) = some x) (g : AH) : Go n a4 (l_law_j580_23 Ln xs n (n + 312) (n + 323) a4 (putW g n w)) := by
  unfold l_law_j580_23 l_noiseIn
  simp only [h1, gb_s]
  exact cs_B (K := fun m => x9_noiseIn m x) (Qt_noiseIn H x) hX_I g
theorem go_quietestBunk (H : Iv w) (g : AH) : Go n a4 (l_law_j636_23 Ln xs n (n + 312) (n + 323) a4 (putW g n w)) := by
  unfold l_law_j636_23
  exact cs_A (K := x9_quietestBunk) (Qr_quietestBunk H) g
theorem go_longestRow (H : Iv w) (g : AH) : Go n a4 (l_law_j649_23 Ln xs n (n + 312) (n + 323) a4 (putW g n w)) := by
  unfold l_law_j649_23
  exact cs_A (K := x9_longestRow) (Qr_longestRow H) g
theorem go_bestPlaceFor (H : Iv w) (h1 : scA Ln xs (a4 + 1) = some x) (g : AH) : Go n a4 (l_law_j662_23 Ln xs n (n + 312) (n + 323) a4 (putW g n w)) := by
  unfold l_law_j662_23 l_bestPlaceFor
  simp only [h1, gb_s]
  exact cs_B (K := fun m => x9_bestPlaceFor m x) (Qt_bestPlaceFor H x) hX_I g
theorem go_userOf (H : Iv w) (h1 : scA Ln xs (a4 + 1) = some x) (g : AH) : Go n a4 (l_law_j718_23 Ln xs n (n + 312) (n + 323) a4 (putW g n w)) := by
  unfold l_law_j718_23 l_userOf
  simp only [h1, gb_s]
  exact cs_B (K := fun m => x9_userOf m x) (Qt_userOf H x) hX_I g
theorem go_blanketOnPile (H : Iv w) (h1 : scA Ln xs (a4 + 1) = some x) (g : AH) : Go n a4 (l_law_j774_23 Ln xs n (n + 312) (n + 323) a4 (putW g n w)) := by
  unfold l_law_j774_23 l_blanketOnPile
  simp only [h1, gb_s]
  exact cs_B (K := fun m => x9_blanketOnPile m x) (Qt_blanketOnPile H x) hX_N g
theorem go_pileSize (H : Iv w) (g : AH) : Go n a4 (l_law_j830_23 Ln xs n (n + 312) (n + 323) a4 (putW g n w)) := by
  unfold l_law_j830_23
  exact cs_A (K := x9_pileSize) (Qr_pileSize H) g
theorem go_fittingBlanket (H : Iv w) (h1 : scA Ln xs (a4 + 1) = some x) (g : AH) : Go n a4 (l_law_j843_23 Ln xs n (n + 312) (n + 323) a4 (putW g n w)) := by
  unfold l_law_j843_23 l_fittingBlanket
  simp only [h1, gb_s]
  exact cs_B (K := fun m => x9_fittingBlanket m x) (Qt_fittingBlanket H x) hX_I g
theorem go_hikerCount (H : Iv w) (g : AH) : Go n a4 (l_law_j899_23 Ln xs n (n + 312) (n + 323) a4 (putW g n w)) := by
  unfold l_law_j899_23
  exact cs_A (K := x9_hikerCount) (Qr_hikerCount H) g
theorem go_bunkOf (H : Iv w) (h1 : scA Ln xs (a4 + 1) = some x) (g : AH) : Go n a4 (l_law_j912_23 Ln xs n (n + 312) (n + 323) a4 (putW g n w)) := by
  unfold l_law_j912_23 l_bunkOf
  simp only [h1, gb_s]
  exact cs_B (K := fun m => x9_bunkOf m x) (Qt_bunkOf H x) hX_I g
theorem go_blanketOf (H : Iv w) (h1 : scA Ln xs (a4 + 1) = some x) (g : AH) : Go n a4 (l_law_j968_23 Ln xs n (n + 312) (n + 323) a4 (putW g n w)) := by
  unfold l_law_j968_23 l_blanketOf
  simp only [h1, gb_s]
  exact cs_B (K := fun m => x9_blanketOf m x) (Qt_blanketOf H x) hX_I g
theorem go_warmth (H : Iv w) (h1 : scA Ln xs (a4 + 1) = some x) (g : AH) : Go n a4 (l_law_j1024_23 Ln xs n (n + 312) (n + 323) a4 (putW g n w)) := by
  unfold l_law_j1024_23 l_warmth
  simp only [h1, gb_s]
  exact cs_B (K := fun m => x9_warmth m x) (Qt_warmth H x) hX_I g
theorem go_activity (H : Iv w) (h1 : scA Ln xs (a4 + 1) = some x) (g : AH) : Go n a4 (l_law_j1080_23 Ln xs n (n + 312) (n + 323) a4 (putW g n w)) := by
  unfold l_law_j1080_23 l_activity
  simp only [h1, gb_s]
  exact cs_B (K := fun m => x9_activity m x) (Qt_activity H x) hX_I g
theorem go_hoursOf (H : Iv w) (h1 : scA Ln xs (a4 + 1) = some x) (h2 : scA Ln xs (a4 + 2) = some y) (g : AH) : Go n a4 (l_law_j1136_23 Ln xs n (n + 312) (n + 323) a4 (putW g n w)) := by
  unfold l_law_j1136_23 l_hoursOf
  simp only [h1, h2, gb_s]
  exact cs_B (K := fun m => x9_hoursOf m x y) (Qt_hoursOf H x y) hX_J g
theorem go_coinsOf (H : Iv w) (h1 : scA Ln xs (a4 + 1) = some x) (g : AH) : Go n a4 (l_law_j1204_23 Ln xs n (n + 312) (n + 323) a4 (putW g n w)) := by
  unfold l_law_j1204_23 l_coinsOf
  simp only [h1, gb_s]
  exact cs_B (K := fun m => x9_coinsOf m x) (Qt_coinsOf H x) hX_I g
theorem go_debtOf (H : Iv w) (h1 : scA Ln xs (a4 + 1) = some x) (g : AH) : Go n a4 (l_law_j1260_23 Ln xs n (n + 312) (n + 323) a4 (putW g n w)) := by
  unfold l_law_j1260_23 l_debtOf
  simp only [h1, gb_s]
  exact cs_B (K := fun m => x9_debtOf m x) (Qt_debtOf H x) hX_I g
theorem go_hikerAtRank (H : Iv w) (h1 : scA Ln xs (a4 + 1) = some x) (g : AH) : Go n a4 (l_law_j1316_23 Ln xs n (n + 312) (n + 323) a4 (putW g n w)) := by
  unfold l_law_j1316_23 l_hikerAtRank
  simp only [h1, gb_s]
  exact cs_B (K := fun m => x9_hikerAtRank m x) (Qt_hikerAtRank H x) hX_N g
theorem go_worstSnorer (H : Iv w) (g : AH) : Go n a4 (l_law_j1372_23 Ln xs n (n + 312) (n + 323) a4 (putW g n w)) := by
  unfold l_law_j1372_23
  exact cs_A (K := x9_worstSnorer) (Qr_worstSnorer H) g
theorem go_hikersWithout (H : Iv w) (g : AH) : Go n a4 (l_law_j1385_23 Ln xs n (n + 312) (n + 323) a4 (putW g n w)) := by
  unfold l_law_j1385_23
  exact cs_A (K := x9_hikersWithout) (Qr_hikersWithout H) g
theorem go_coldHikers (H : Iv w) (g : AH) : Go n a4 (l_law_j1398_23 Ln xs n (n + 312) (n + 323) a4 (putW g n w)) := by
  unfold l_law_j1398_23
  exact cs_A (K := x9_coldHikers) (Qr_coldHikers H) g
theorem go_coldestHiker (H : Iv w) (g : AH) : Go n a4 (l_law_j1411_23 Ln xs n (n + 312) (n + 323) a4 (putW g n w)) := by
  unfold l_law_j1411_23
  exact cs_A (K := x9_coldestHiker) (Qr_coldestHiker H) g
theorem go_fewestCold (H : Iv w) (g : AH) : Go n a4 (l_law_j1424_23 Ln xs n (n + 312) (n + 323) a4 (putW g n w)) := by
  unfold l_law_j1424_23
  exact cs_A (K := x9_fewestCold) (Qr_fewestCold H) g
theorem go_bestExchange (H : Iv w) (g : AH) : Go n a4 (l_law_j1437_23 Ln xs n (n + 312) (n + 323) a4 (putW g n w)) := by
  unfold l_law_j1437_23
  exact cs_A (K := x9_bestExchange) (Qr_bestExchange H) g
theorem go_warmestBunk (H : Iv w) (h1 : scA Ln xs (a4 + 1) = some x) (g : AH) : Go n a4 (l_law_j1450_23 Ln xs n (n + 312) (n + 323) a4 (putW g n w)) := by
  unfold l_law_j1450_23 l_warmestBunk
  simp only [h1, gb_s]
  exact cs_B (K := fun m => x9_warmestBunk m x) (Qt_warmestBunk H x) hX_I g
theorem go_hutCoins (H : Iv w) (g : AH) : Go n a4 (l_law_j1506_23 Ln xs n (n + 312) (n + 323) a4 (putW g n w)) := by
  unfold l_law_j1506_23
  exact cs_A (K := x9_hutCoins) (Qr_hutCoins H) g
theorem go_burnedLogs (H : Iv w) (g : AH) : Go n a4 (l_law_j1519_23 Ln xs n (n + 312) (n + 323) a4 (putW g n w)) := by
  unfold l_law_j1519_23
  exact cs_A (K := x9_burnedLogs) (Qr_burnedLogs H) g
theorem go_totalDebt (H : Iv w) (g : AH) : Go n a4 (l_law_j1532_23 Ln xs n (n + 312) (n + 323) a4 (putW g n w)) := by
  unfold l_law_j1532_23
  exact cs_A (K := x9_totalDebt) (Qr_totalDebt H) g
theorem go_auditDifference (H : Iv w) (g : AH) : Go n a4 (l_law_j1545_23 Ln xs n (n + 312) (n + 323) a4 (putW g n w)) := by
  unfold l_law_j1545_23
  exact cs_A (K := x9_auditDifference) (Qr_auditDifference H) g
theorem go_meanWarmth (H : Iv w) (g : AH) : Go n a4 (l_law_j1558_23 Ln xs n (n + 312) (n + 323) a4 (putW g n w)) := by
  unfold l_law_j1558_23
  exact cs_D (K := x9_meanWarmth) (Qf_meanWarmth H) g
theorem go_sleepShare (H : Iv w) (g : AH) : Go n a4 (l_law_j1599_23 Ln xs n (n + 312) (n + 323) a4 (putW g n w)) := by
  unfold l_law_j1599_23
  exact cs_F (K := x9_sleepShare) (Qf_sleepShare H) g
theorem go_temperatureAfter (H : Iv w) (h1 : scA Ln xs (a4 + 1) = some x) (g : AH) : Go n a4 (l_law_j1642_23 Ln xs n (n + 312) (n + 323) a4 (putW g n w)) := by
  unfold l_law_j1642_23 l_temperatureAfter
  simp only [h1, gb_s]
  exact cs_B (K := fun m => x9_temperatureAfter m x) (Qt_temperatureAfter H x) hX_A1 g
theorem go_shiversUntilDawn (H : Iv w) (h1 : scA Ln xs (a4 + 1) = some x) (g : AH) : Go n a4 (l_law_j1698_23 Ln xs n (n + 312) (n + 323) a4 (putW g n w)) := by
  unfold l_law_j1698_23 l_shiversUntilDawn
  simp only [h1, gb_s]
  exact cs_B (K := fun m => x9_shiversUntilDawn m x) (Qt_shiversUntilDawn2 H x) hX_I g
theorem go_paymentAtDawn (H : Iv w) (h1 : scA Ln xs (a4 + 1) = some x) (g : AH) : Go n a4 (l_law_j1754_23 Ln xs n (n + 312) (n + 323) a4 (putW g n w)) := by
  unfold l_law_j1754_23 l_paymentAtDawn
  simp only [h1, gb_s]
  exact cs_B (K := fun m => x9_paymentAtDawn m x) (Qt_paymentAtDawn2 H x) hX_I g
theorem go_debtAfter (H : Iv w) (h1 : scA Ln xs (a4 + 1) = some x) (h2 : scA Ln xs (a4 + 2) = some y) (g : AH) : Go n a4 (l_law_j1810_23 Ln xs n (n + 312) (n + 323) a4 (putW g n w)) := by
  unfold l_law_j1810_23 l_debtAfter
  simp only [h1, h2, gb_s]
  exact cs_B (K := fun m => x9_debtAfter m x y) (Qt_debtAfter H x y) hX_J g
theorem go_dawnsUntilDebt (H : Iv w) (h1 : scA Ln xs (a4 + 1) = some x) (g : AH) : Go n a4 (l_law_j1878_23 Ln xs n (n + 312) (n + 323) a4 (putW g n w)) := by
  unfold l_law_j1878_23 l_dawnsUntilDebt
  simp only [h1, gb_s]
  exact cs_B (K := fun m => x9_dawnsUntilDebt m x) (Qt_dawnsUntilDebt2 H x) hX_I g
theorem go_hoursUntilNoLogs (H : Iv w) (g : AH) : Go n a4 (l_law_j1934_23 Ln xs n (n + 312) (n + 323) a4 (putW g n w)) := by
  unfold l_law_j1934_23
  exact cs_A (K := x9_hoursUntilNoLogs) (Qr_hoursUntilNoLogs H) g
theorem go_rateNeeded (H : Iv w) (g : AH) : Go n a4 (l_law_j1947_23 Ln xs n (n + 312) (n + 323) a4 (putW g n w)) := by
  unfold l_law_j1947_23
  exact cs_A (K := x9_rateNeeded) (Qr_rateNeeded H) g
theorem go_bestRate (H : Iv w) (g : AH) : Go n a4 (l_law_j1960_23 Ln xs n (n + 312) (n + 323) a4 (putW g n w)) := by
  unfold l_law_j1960_23
  exact cs_A (K := x9_bestRate) (Qr_bestRate H) g
theorem go_takeBlanket (H : Iv w) (h1 : scA Ln xs (a4 + 1) = some x) (h2 : scA Ln xs (a4 + 2) = some y) (g : AH) : Go n a4 (l_law_j1973_23 Ln xs n (n + 312) (n + 323) a4 (putW g n w)) := by
  unfold l_law_j1973_23 l_takeBlanket
  simp only [h1, h2, gb_s]
  exact cs_B (K := fun m => x9_takeBlanket m x y) (Qt_takeBlanket H x y) hX_A g
theorem go_returnBlanket (H : Iv w) (h1 : scA Ln xs (a4 + 1) = some x) (g : AH) : Go n a4 (l_law_j2041_23 Ln xs n (n + 312) (n + 323) a4 (putW g n w)) := by
  unfold l_law_j2041_23 l_returnBlanket
  simp only [h1, gb_s]
  exact cs_B (K := fun m => x9_returnBlanket m x) (Qt_returnBlanket H x) hX_A g
theorem go_swapBlankets (H : Iv w) (h1 : scA Ln xs (a4 + 1) = some x) (h2 : scA Ln xs (a4 + 2) = some y) (g : AH) : Go n a4 (l_law_j2097_23 Ln xs n (n + 312) (n + 323) a4 (putW g n w)) := by
  unfold l_law_j2097_23 l_swapBlankets
  simp only [h1, h2, gb_s]
  exact cs_B (K := fun m => x9_swapBlankets m x y) (Qt_swapBlankets H x y) hX_A g
theorem go_lieDown (H : Iv w) (h1 : scA Ln xs (a4 + 1) = some x) (h2 : scA Ln xs (a4 + 2) = some y) (g : AH) : Go n a4 (l_law_j2165_23 Ln xs n (n + 312) (n + 323) a4 (putW g n w)) := by
  unfold l_law_j2165_23 l_lieDown
  simp only [h1, h2, gb_s]
  exact cs_B (K := fun m => x9_lieDown m x y) (Qt_lieDown H x y) hX_A g
theorem go_getUp (H : Iv w) (h1 : scA Ln xs (a4 + 1) = some x) (g : AH) : Go n a4 (l_law_j2233_23 Ln xs n (n + 312) (n + 323) a4 (putW g n w)) := by
  unfold l_law_j2233_23 l_getUp
  simp only [h1, gb_s]
  exact cs_B (K := fun m => x9_getUp m x) (Qt_getUp H x) hX_A g
theorem go_setRate (H : Iv w) (h1 : scA Ln xs (a4 + 1) = some x) (g : AH) : Go n a4 (l_law_j2289_23 Ln xs n (n + 312) (n + 323) a4 (putW g n w)) := by
  unfold l_law_j2289_23 l_setRate
  simp only [h1, gb_s]
  exact cs_B (K := fun m => x9_setRate m x) (Qt_setRate H x) hX_A1 g
theorem go_fetchLogs (H : Iv w) (h1 : scA Ln xs (a4 + 1) = some x) (g : AH) : Go n a4 (l_law_j2345_23 Ln xs n (n + 312) (n + 323) a4 (putW g n w)) := by
  unfold l_law_j2345_23 l_fetchLogs
  simp only [h1, gb_s]
  exact cs_B (K := fun m => x9_fetchLogs m x) (Qt_fetchLogs H x) hX_B g
theorem go_payDebt (H : Iv w) (h1 : scA Ln xs (a4 + 1) = some x) (h2 : scA Ln xs (a4 + 2) = some y) (g : AH) : Go n a4 (l_law_j2401_23 Ln xs n (n + 312) (n + 323) a4 (putW g n w)) := by
  unfold l_law_j2401_23 l_payDebt
  simp only [h1, h2, gb_s]
  exact cs_B (K := fun m => x9_payDebt m x y) (Qt_payDebt H x y) hX_C g
theorem go_passHours (H : Iv w) (h1 : scA Ln xs (a4 + 1) = some x) (g : AH) : Go n a4 (l_law_j2469_23 Ln xs n (n + 312) (n + 323) a4 (putW g n w)) := by
  unfold l_law_j2469_23 l_passHours
  simp only [h1, gb_s]
  exact cs_B (K := fun m => x9_passHours m x) (Qt_passHours H x) hX_B g
theorem go_writeBunks (H : Iv w) (g : AH) : Go n a4 (l_law_j2525_23 Ln xs n (n + 312) (n + 323) a4 (putW g n w)) := by
  unfold l_law_j2525_23
  exact cs_A (K := x9_writeBunks) (Qr_bunks H) g
theorem go_writeLedger (H : Iv w) (g : AH) : Go n a4 (l_law_j2538_23 Ln xs n (n + 312) (n + 323) a4 (putW g n w)) := by
  unfold l_law_j2538_23
  exact cs_A (K := x9_writeLedger) (Qr_ledger H) g
theorem go_outputByte (H : Iv w) (h1 : scA Ln xs (a4 + 1) = some x) (g : AH) : Go n a4 (l_law_j2551_23 Ln xs n (n + 312) (n + 323) a4 (putW g n w)) := by
  unfold l_law_j2551_23
  simp only [h1, gb_s]
  exact cs_A (K := fun m => x9_outputByte m x) (Qr_byte H x) g
theorem go_undo (H : Iv w) (g : AH) : Go n a4 (l_law_j2576_23 Ln xs n (n + 312) (n + 323) a4 (putW g n w)) := by
  unfold l_law_j2576_23 l_undo
  exact cs_B (K := x9_undo) (Qt_undo H) hX_S1 g
theorem go_saveSnapshot (H : Iv w) (h1 : scA Ln xs (a4 + 1) = some x) (g : AH) : Go n a4 (l_law_j2620_23 Ln xs n (n + 312) (n + 323) a4 (putW g n w)) := by
  unfold l_law_j2620_23 l_saveSnapshot
  simp only [h1, gb_s]
  exact cs_U (K := fun m => x9_saveSnapshot m x) (Qu_save H x) hX_A1 g
theorem go_restoreSnapshot (H : Iv w) (h1 : scA Ln xs (a4 + 1) = some x) (g : AH) : Go n a4 (l_law_j2656_23 Ln xs n (n + 312) (n + 323) a4 (putW g n w)) := by
  unfold l_law_j2656_23 l_restoreSnapshot
  simp only [h1, gb_s]
  exact cs_U (K := fun m => x9_restoreSnapshot m x) (Qu_restore H x) hX_B g
end Law64
