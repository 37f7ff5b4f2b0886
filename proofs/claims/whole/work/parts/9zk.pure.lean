/-! the law: each step goes on, and so to the end -/
theorem sc_go {Ln j : Nat} (hL : Ln ≤ 1536) (h : 3 * j + 3 ≤ Ln) : ¬ scL Ln - 3 < I (3 * j) := by
  show ¬ I Ln - I 3 < I (3 * j)
  rw [I_sub (by omega), I_lt (by omega) (by omega)]
  omega
theorem sc_end {Ln j : Nat} (hL : Ln ≤ 1536) (h : Ln < 3 * j + 3) (hj : 3 * j ≤ 1536) : scL Ln - 3 < I (3 * j) := by
  by_cases h3 : 3 ≤ Ln
  · show I Ln - I 3 < I (3 * j)
    rw [I_sub h3, I_lt (by omega) (by omega)]
    omega
  · have h0 : I Ln - 3 < 0 := by
      match Ln, h3 with
      | 0, _ => decide
      | 1, _ => decide
      | 2, _ => decide
      | Ln + 3, h3 => omega
    exact Int32.lt_of_lt_of_le h0 (Int32.zero_le_ofNat_of_lt (by omega))
theorem stp {n : Nat} {w : WS} {a4 : Int32} {Ln : Nat} {xs : Nat → Int32} {x y z : Int32} (H : Iv w) (h1 : scA Ln xs (a4 + 1) = some x) (h2 : scA Ln xs (a4 + 2) = some y) (h0 : scA Ln xs a4 = some z) (hn : ¬ scL Ln - 3 < a4) (g : AH) : Go n a4 (l_law_l23 Ln xs n (n + 312) (n + 323) a4 (putW g n w)) := by
  unfold l_law_l23
  rw [if_neg hn, h0, gb_s]
  refine go_if (go_appendText H h1 g) ?_
  refine go_if (go_truncateText H h1 g) ?_
  refine go_if (go_loadSetup H g) ?_
  refine go_if (go_runScript H g) ?_
  refine go_if (go_errorCode H g) ?_
  refine go_if (go_errorPosition H g) ?_
  refine go_if (go_hour H g) ?_
  refine go_if (go_hoursUntilDawn H g) ?_
  refine go_if (go_logs H g) ?_
  refine go_if (go_temperature H g) ?_
  refine go_if (go_hikerIn H h1 g) ?_
  refine go_if (go_noiseIn H h1 g) ?_
  refine go_if (go_quietestBunk H g) ?_
  refine go_if (go_longestRow H g) ?_
  refine go_if (go_bestPlaceFor H h1 g) ?_
  refine go_if (go_userOf H h1 g) ?_
  refine go_if (go_blanketOnPile H h1 g) ?_
  refine go_if (go_pileSize H g) ?_
  refine go_if (go_fittingBlanket H h1 g) ?_
  refine go_if (go_hikerCount H g) ?_
  refine go_if (go_bunkOf H h1 g) ?_
  refine go_if (go_blanketOf H h1 g) ?_
  refine go_if (go_warmth H h1 g) ?_
  refine go_if (go_activity H h1 g) ?_
  refine go_if (go_hoursOf H h1 h2 g) ?_
  refine go_if (go_coinsOf H h1 g) ?_
  refine go_if (go_debtOf H h1 g) ?_
  refine go_if (go_hikerAtRank H h1 g) ?_
  refine go_if (go_worstSnorer H g) ?_
  refine go_if (go_hikersWithout H g) ?_
  refine go_if (go_coldHikers H g) ?_
  refine go_if (go_coldestHiker H g) ?_
  refine go_if (go_fewestCold H g) ?_
  refine go_if (go_bestExchange H g) ?_
  refine go_if (go_warmestBunk H h1 g) ?_
  refine go_if (go_hutCoins H g) ?_
  refine go_if (go_burnedLogs H g) ?_
  refine go_if (go_totalDebt H g) ?_
  refine go_if (go_auditDifference H g) ?_
  refine go_if (go_meanWarmth H g) ?_
  refine go_if (go_sleepShare H g) ?_
  refine go_if (go_temperatureAfter H h1 g) ?_
  refine go_if (go_shiversUntilDawn H h1 g) ?_
  refine go_if (go_paymentAtDawn H h1 g) ?_
  refine go_if (go_debtAfter H h1 h2 g) ?_
  refine go_if (go_dawnsUntilDebt H h1 g) ?_
  refine go_if (go_hoursUntilNoLogs H g) ?_
  refine go_if (go_rateNeeded H g) ?_
  refine go_if (go_bestRate H g) ?_
  refine go_if (go_takeBlanket H h1 h2 g) ?_
  refine go_if (go_returnBlanket H h1 g) ?_
  refine go_if (go_swapBlankets H h1 h2 g) ?_
  refine go_if (go_lieDown H h1 h2 g) ?_
  refine go_if (go_getUp H h1 g) ?_
  refine go_if (go_setRate H h1 g) ?_
  refine go_if (go_fetchLogs H h1 g) ?_
  refine go_if (go_payDebt H h1 h2 g) ?_
  refine go_if (go_passHours H h1 g) ?_
  refine go_if (go_writeBunks H g) ?_
  refine go_if (go_writeLedger H g) ?_
  refine go_if (go_outputByte H h1 g) ?_
  refine go_if (go_undo H g) ?_
  refine go_if (go_saveSnapshot H h1 g) ?_
  refine go_if (go_restoreSnapshot H h1 g) ?_
  exact ⟨g, w, rfl, H⟩
theorem sc_at {Ln k : Nat} {xs : Nat → Int32} {i : Int32} (hi : i = I k) (hk0 : k < Ln) (hL : Ln ≤ 1536) : scA Ln xs i = some (xs k) := by
  unfold scA
  rw [hi, if_neg (I_out hk0 (by omega)), I_nat (by omega)]
theorem law_loop {n Ln : Nat} {xs : Nat → Int32} (hL : Ln ≤ 1536) : ∀ k j F g w, Iv w → Ln ≤ 3 * j + 3 * k → k < F → 3 * j ≤ 1536 → ∃ g1, loopX (l_law_l23 Ln xs n (n + 312) (n + 323)) F (I (3 * j)) (putW g n w) = some (.inl (), g1) := by
  intro k
  induction k with
  | zero =>
    intro j F g w H h1 h2 h3
    match F, h2 with
    | F + 1, _ =>
      rw [loopX]
      unfold l_law_l23
      rw [if_pos (sc_end hL (by omega) h3)]
      exact ⟨_, rfl⟩
  | succ k ih =>
    intro j F g w H h1 h2 h3
    match F, h2 with
    | F + 1, h2 =>
      by_cases hj : 3 * j + 3 ≤ Ln
      · obtain ⟨g', w', e, H'⟩ := stp (n := n) (Ln := Ln) (xs := xs) (a4 := I (3 * j)) H (sc_at (k := 3 * j + 1) (I_add (3 * j) 1) (by omega) hL) (sc_at (k := 3 * j + 2) (I_add (3 * j) 2) (by omega) hL) (sc_at (k := 3 * j) rfl (by omega) hL) (sc_go hL hj) g
        obtain ⟨g1, e1⟩ := ih (j + 1) F g' w' H' (by omega) (by omega) (by omega)
        refine ⟨g1, ?_⟩
        rw [loopX, e]
        have e3 : I (3 * j) + 3 = I (3 * (j + 1)) := I_add (3 * j) 3
        show loopX (l_law_l23 Ln xs n (n + 312) (n + 323)) F (I (3 * j) + 3) (putW g' n w') = _
        rw [e3]
        exact e1
      · rw [loopX]
        unfold l_law_l23
        rw [if_pos (sc_end hL (by omega) h3)]
        exact ⟨_, rfl⟩
theorem pure_law : ∀ (Ln : Nat) (xs : Nat → Int32) (n : Nat), Ln ≤ 1536 → ∃ g1, l_law Ln xs ((fun _ => none), some n) = some (1, g1) := by
  intro Ln xs n hL
  obtain ⟨w, H, e⟩ := start_w (n := n)
  obtain ⟨g1, e1⟩ := law_loop (n := n) (xs := xs) hL 512 0 600 ((fun _ => none), some (n + 324)) w H (by omega) (by decide) (by decide)
  refine ⟨g1, ?_⟩
  rw [e]
  rw [show loopX (l_law_l23 Ln xs n (n + 312) (n + 323)) 600 0 (putW ((fun _ => none), some (n + 324)) n w) = _ from e1, cb_s, Sum.elim_inl]
