/-! the law, by program -/
def l_law_j308_23 (Ln : Nat) (xs : Nat → Int32) (a1 : Nat) (a2 : Nat) (a3 : Nat) (a4 : Int32) (g : AH) : Option (((Int32) ⊕ ((Unit) ⊕ Int32)) × AH) :=
  gb (scA Ln xs (a4 + 1)) fun x1 => cb (l_appendText a1 x1 a3 g) fun r3 g4 => gb (scA Ln xs (a4 + 1)) fun x6 => gb (isO 9 g4 a2) fun _ => cb (x9_appendText a2 x6 g4) fun r8 g9 => gb (isO 9 g9 a2) fun _ => cb (x9_thrown a2 g9) fun r13 g14 => if r13 = r3 then
  if r3 = 0 then
  gb (aldL g14 a3 0) fun x20 => if (lg_cmp x20 (r8.toInt64)) = 0 then
  some (.inl (a4 + 3), g14)
  else
  some (.inr (.inr 0), g14)
  else
  some (.inl (a4 + 3), g14)
  else
  some (.inr (.inr 0), g14)
def l_law_j364_23 (Ln : Nat) (xs : Nat → Int32) (a1 : Nat) (a2 : Nat) (a3 : Nat) (a4 : Int32) (g : AH) : Option (((Int32) ⊕ ((Unit) ⊕ Int32)) × AH) :=
  gb (scA Ln xs (a4 + 1)) fun x1 => cb (l_truncateText a1 x1 a3 g) fun r3 g4 => gb (scA Ln xs (a4 + 1)) fun x6 => gb (isO 9 g4 a2) fun _ => cb (x9_truncateText a2 x6 g4) fun r8 g9 => gb (isO 9 g9 a2) fun _ => cb (x9_thrown a2 g9) fun r13 g14 => if r13 = r3 then
  if r3 = 0 then
  gb (aldL g14 a3 0) fun x20 => if (lg_cmp x20 (r8.toInt64)) = 0 then
  some (.inl (a4 + 3), g14)
  else
  some (.inr (.inr 0), g14)
  else
  some (.inl (a4 + 3), g14)
  else
  some (.inr (.inr 0), g14)
def l_law_j420_23 (Ln : Nat) (xs : Nat → Int32) (a1 : Nat) (a2 : Nat) (a3 : Nat) (a4 : Int32) (g : AH) : Option (((Int32) ⊕ ((Unit) ⊕ Int32)) × AH) :=
  gb (isO 8 g a1) fun _ => cb (x8_loadSetup a1 g) fun r1 g2 => gb (isO 9 g2 a2) fun _ => cb (x9_loadSetup a2 g2) fun r6 g7 => if r1 = r6 then
  some (.inl (a4 + 3), g7)
  else
  some (.inr (.inr 0), g7)
def l_law_j433_23 (Ln : Nat) (xs : Nat → Int32) (a1 : Nat) (a2 : Nat) (a3 : Nat) (a4 : Int32) (g : AH) : Option (((Int32) ⊕ ((Unit) ⊕ Int32)) × AH) :=
  gb (isO 8 g a1) fun _ => cb (x8_runScript a1 g) fun r1 g2 => gb (isO 9 g2 a2) fun _ => cb (x9_runScript a2 g2) fun r6 g7 => if r1 = r6 then
  some (.inl (a4 + 3), g7)
  else
  some (.inr (.inr 0), g7)
def l_law_j446_23 (Ln : Nat) (xs : Nat → Int32) (a1 : Nat) (a2 : Nat) (a3 : Nat) (a4 : Int32) (g : AH) : Option (((Int32) ⊕ ((Unit) ⊕ Int32)) × AH) :=
  gb (isO 8 g a1) fun _ => cb (x8_errorCode a1 g) fun r1 g2 => gb (isO 9 g2 a2) fun _ => cb (x9_errorCode a2 g2) fun r6 g7 => if r1 = r6 then
  some (.inl (a4 + 3), g7)
  else
  some (.inr (.inr 0), g7)
def l_law_j459_23 (Ln : Nat) (xs : Nat → Int32) (a1 : Nat) (a2 : Nat) (a3 : Nat) (a4 : Int32) (g : AH) : Option (((Int32) ⊕ ((Unit) ⊕ Int32)) × AH) :=
  gb (isO 8 g a1) fun _ => cb (x8_errorPosition a1 g) fun r1 g2 => gb (isO 9 g2 a2) fun _ => cb (x9_errorPosition a2 g2) fun r6 g7 => if r1 = r6 then
  some (.inl (a4 + 3), g7)
  else
  some (.inr (.inr 0), g7)
def l_law_j472_23 (Ln : Nat) (xs : Nat → Int32) (a1 : Nat) (a2 : Nat) (a3 : Nat) (a4 : Int32) (g : AH) : Option (((Int32) ⊕ ((Unit) ⊕ Int32)) × AH) :=
  gb (isO 8 g a1) fun _ => cb (x8_hour a1 g) fun r1 g2 => gb (isO 9 g2 a2) fun _ => cb (x9_hour a2 g2) fun r6 g7 => if r1 = r6 then
  some (.inl (a4 + 3), g7)
  else
  some (.inr (.inr 0), g7)
def l_law_j485_23 (Ln : Nat) (xs : Nat → Int32) (a1 : Nat) (a2 : Nat) (a3 : Nat) (a4 : Int32) (g : AH) : Option (((Int32) ⊕ ((Unit) ⊕ Int32)) × AH) :=
  gb (isO 8 g a1) fun _ => cb (x8_hoursUntilDawn a1 g) fun r1 g2 => gb (isO 9 g2 a2) fun _ => cb (x9_hoursUntilDawn a2 g2) fun r6 g7 => if r1 = r6 then
  some (.inl (a4 + 3), g7)
  else
  some (.inr (.inr 0), g7)
def l_law_j498_23 (Ln : Nat) (xs : Nat → Int32) (a1 : Nat) (a2 : Nat) (a3 : Nat) (a4 : Int32) (g : AH) : Option (((Int32) ⊕ ((Unit) ⊕ Int32)) × AH) :=
  gb (isO 8 g a1) fun _ => cb (x8_logs a1 g) fun r1 g2 => gb (isO 9 g2 a2) fun _ => cb (x9_logs a2 g2) fun r6 g7 => if r1 = r6 then
  some (.inl (a4 + 3), g7)
  else
  some (.inr (.inr 0), g7)
def l_law_j511_23 (Ln : Nat) (xs : Nat → Int32) (a1 : Nat) (a2 : Nat) (a3 : Nat) (a4 : Int32) (g : AH) : Option (((Int32) ⊕ ((Unit) ⊕ Int32)) × AH) :=
  gb (isO 8 g a1) fun _ => cb (x8_temperature a1 g) fun r1 g2 => gb (isO 9 g2 a2) fun _ => cb (x9_temperature a2 g2) fun r6 g7 => if r1 = r6 then
  some (.inl (a4 + 3), g7)
  else
  some (.inr (.inr 0), g7)
def l_law_j524_23 (Ln : Nat) (xs : Nat → Int32) (a1 : Nat) (a2 : Nat) (a3 : Nat) (a4 : Int32) (g : AH) : Option (((Int32) ⊕ ((Unit) ⊕ Int32)) × AH) :=
  gb (scA Ln xs (a4 + 1)) fun x1 => cb (l_hikerIn a1 x1 a3 g) fun r3 g4 => gb (scA Ln xs (a4 + 1)) fun x6 => gb (isO 9 g4 a2) fun _ => cb (x9_hikerIn a2 x6 g4) fun r8 g9 => gb (isO 9 g9 a2) fun _ => cb (x9_thrown a2 g9) fun r13 g14 => if r13 = r3 then
  if r3 = 0 then
  gb (aldL g14 a3 0) fun x20 => if (lg_cmp x20 (r8.toInt64)) = 0 then
  some (.inl (a4 + 3), g14)
  else
  some (.inr (.inr 0), g14)
  else
  some (.inl (a4 + 3), g14)
  else
  some (.inr (.inr 0), g14)
def l_law_j580_23 (Ln : Nat) (xs : Nat → Int32) (a1 : Nat) (a2 : Nat) (a3 : Nat) (a4 : Int32) (g : AH) : Option (((Int32) ⊕ ((Unit) ⊕ Int32)) × AH) :=
  gb (scA Ln xs (a4 + 1)) fun x1 => cb (l_noiseIn a1 x1 a3 g) fun r3 g4 => gb (scA Ln xs (a4 + 1)) fun x6 => gb (isO 9 g4 a2) fun _ => cb (x9_noiseIn a2 x6 g4) fun r8 g9 => gb (isO 9 g9 a2) fun _ => cb (x9_thrown a2 g9) fun r13 g14 => if r13 = r3 then
  if r3 = 0 then
  gb (aldL g14 a3 0) fun x20 => if (lg_cmp x20 (r8.toInt64)) = 0 then
  some (.inl (a4 + 3), g14)
  else
  some (.inr (.inr 0), g14)
  else
  some (.inl (a4 + 3), g14)
  else
  some (.inr (.inr 0), g14)
def l_law_j636_23 (Ln : Nat) (xs : Nat → Int32) (a1 : Nat) (a2 : Nat) (a3 : Nat) (a4 : Int32) (g : AH) : Option (((Int32) ⊕ ((Unit) ⊕ Int32)) × AH) :=
  gb (isO 8 g a1) fun _ => cb (x8_quietestBunk a1 g) fun r1 g2 => gb (isO 9 g2 a2) fun _ => cb (x9_quietestBunk a2 g2) fun r6 g7 => if r1 = r6 then
  some (.inl (a4 + 3), g7)
  else
  some (.inr (.inr 0), g7)
def l_law_j649_23 (Ln : Nat) (xs : Nat → Int32) (a1 : Nat) (a2 : Nat) (a3 : Nat) (a4 : Int32) (g : AH) : Option (((Int32) ⊕ ((Unit) ⊕ Int32)) × AH) :=
  gb (isO 8 g a1) fun _ => cb (x8_longestRow a1 g) fun r1 g2 => gb (isO 9 g2 a2) fun _ => cb (x9_longestRow a2 g2) fun r6 g7 => if r1 = r6 then
  some (.inl (a4 + 3), g7)
  else
  some (.inr (.inr 0), g7)
def l_law_j662_23 (Ln : Nat) (xs : Nat → Int32) (a1 : Nat) (a2 : Nat) (a3 : Nat) (a4 : Int32) (g : AH) : Option (((Int32) ⊕ ((Unit) ⊕ Int32)) × AH) :=
  gb (scA Ln xs (a4 + 1)) fun x1 => cb (l_bestPlaceFor a1 x1 a3 g) fun r3 g4 => gb (scA Ln xs (a4 + 1)) fun x6 => gb (isO 9 g4 a2) fun _ => cb (x9_bestPlaceFor a2 x6 g4) fun r8 g9 => gb (isO 9 g9 a2) fun _ => cb (x9_thrown a2 g9) fun r13 g14 => if r13 = r3 then
  if r3 = 0 then
  gb (aldL g14 a3 0) fun x20 => if (lg_cmp x20 (r8.toInt64)) = 0 then
  some (.inl (a4 + 3), g14)
  else
  some (.inr (.inr 0), g14)
  else
  some (.inl (a4 + 3), g14)
  else
  some (.inr (.inr 0), g14)
def l_law_j718_23 (Ln : Nat) (xs : Nat → Int32) (a1 : Nat) (a2 : Nat) (a3 : Nat) (a4 : Int32) (g : AH) : Option (((Int32) ⊕ ((Unit) ⊕ Int32)) × AH) :=
  gb (scA Ln xs (a4 + 1)) fun x1 => cb (l_userOf a1 x1 a3 g) fun r3 g4 => gb (scA Ln xs (a4 + 1)) fun x6 => gb (isO 9 g4 a2) fun _ => cb (x9_userOf a2 x6 g4) fun r8 g9 => gb (isO 9 g9 a2) fun _ => cb (x9_thrown a2 g9) fun r13 g14 => if r13 = r3 then
  if r3 = 0 then
  gb (aldL g14 a3 0) fun x20 => if (lg_cmp x20 (r8.toInt64)) = 0 then
  some (.inl (a4 + 3), g14)
  else
  some (.inr (.inr 0), g14)
  else
  some (.inl (a4 + 3), g14)
  else
  some (.inr (.inr 0), g14)
def l_law_j774_23 (Ln : Nat) (xs : Nat → Int32) (a1 : Nat) (a2 : Nat) (a3 : Nat) (a4 : Int32) (g : AH) : Option (((Int32) ⊕ ((Unit) ⊕ Int32)) × AH) :=
  gb (scA Ln xs (a4 + 1)) fun x1 => cb (l_blanketOnPile a1 x1 a3 g) fun r3 g4 => gb (scA Ln xs (a4 + 1)) fun x6 => gb (isO 9 g4 a2) fun _ => cb (x9_blanketOnPile a2 x6 g4) fun r8 g9 => gb (isO 9 g9 a2) fun _ => cb (x9_thrown a2 g9) fun r13 g14 => if r13 = r3 then
  if r3 = 0 then
  gb (aldL g14 a3 0) fun x20 => if (lg_cmp x20 (r8.toInt64)) = 0 then
  some (.inl (a4 + 3), g14)
  else
  some (.inr (.inr 0), g14)
  else
  some (.inl (a4 + 3), g14)
  else
  some (.inr (.inr 0), g14)
def l_law_j830_23 (Ln : Nat) (xs : Nat → Int32) (a1 : Nat) (a2 : Nat) (a3 : Nat) (a4 : Int32) (g : AH) : Option (((Int32) ⊕ ((Unit) ⊕ Int32)) × AH) :=
  gb (isO 8 g a1) fun _ => cb (x8_pileSize a1 g) fun r1 g2 => gb (isO 9 g2 a2) fun _ => cb (x9_pileSize a2 g2) fun r6 g7 => if r1 = r6 then
  some (.inl (a4 + 3), g7)
  else
  some (.inr (.inr 0), g7)
def l_law_j843_23 (Ln : Nat) (xs : Nat → Int32) (a1 : Nat) (a2 : Nat) (a3 : Nat) (a4 : Int32) (g : AH) : Option (((Int32) ⊕ ((Unit) ⊕ Int32)) × AH) :=
  gb (scA Ln xs (a4 + 1)) fun x1 => cb (l_fittingBlanket a1 x1 a3 g) fun r3 g4 => gb (scA Ln xs (a4 + 1)) fun x6 => gb (isO 9 g4 a2) fun _ => cb (x9_fittingBlanket a2 x6 g4) fun r8 g9 => gb (isO 9 g9 a2) fun _ => cb (x9_thrown a2 g9) fun r13 g14 => if r13 = r3 then
  if r3 = 0 then
  gb (aldL g14 a3 0) fun x20 => if (lg_cmp x20 (r8.toInt64)) = 0 then
  some (.inl (a4 + 3), g14)
  else
  some (.inr (.inr 0), g14)
  else
  some (.inl (a4 + 3), g14)
  else
  some (.inr (.inr 0), g14)
def l_law_j899_23 (Ln : Nat) (xs : Nat → Int32) (a1 : Nat) (a2 : Nat) (a3 : Nat) (a4 : Int32) (g : AH) : Option (((Int32) ⊕ ((Unit) ⊕ Int32)) × AH) :=
  gb (isO 8 g a1) fun _ => cb (x8_hikerCount a1 g) fun r1 g2 => gb (isO 9 g2 a2) fun _ => cb (x9_hikerCount a2 g2) fun r6 g7 => if r1 = r6 then
  some (.inl (a4 + 3), g7)
  else
  some (.inr (.inr 0), g7)
def l_law_j912_23 (Ln : Nat) (xs : Nat → Int32) (a1 : Nat) (a2 : Nat) (a3 : Nat) (a4 : Int32) (g : AH) : Option (((Int32) ⊕ ((Unit) ⊕ Int32)) × AH) :=
  gb (scA Ln xs (a4 + 1)) fun x1 => cb (l_bunkOf a1 x1 a3 g) fun r3 g4 => gb (scA Ln xs (a4 + 1)) fun x6 => gb (isO 9 g4 a2) fun _ => cb (x9_bunkOf a2 x6 g4) fun r8 g9 => gb (isO 9 g9 a2) fun _ => cb (x9_thrown a2 g9) fun r13 g14 => if r13 = r3 then
  if r3 = 0 then
  gb (aldL g14 a3 0) fun x20 => if (lg_cmp x20 (r8.toInt64)) = 0 then
  some (.inl (a4 + 3), g14)
  else
  some (.inr (.inr 0), g14)
  else
  some (.inl (a4 + 3), g14)
  else
  some (.inr (.inr 0), g14)
def l_law_j968_23 (Ln : Nat) (xs : Nat → Int32) (a1 : Nat) (a2 : Nat) (a3 : Nat) (a4 : Int32) (g : AH) : Option (((Int32) ⊕ ((Unit) ⊕ Int32)) × AH) :=
  gb (scA Ln xs (a4 + 1)) fun x1 => cb (l_blanketOf a1 x1 a3 g) fun r3 g4 => gb (scA Ln xs (a4 + 1)) fun x6 => gb (isO 9 g4 a2) fun _ => cb (x9_blanketOf a2 x6 g4) fun r8 g9 => gb (isO 9 g9 a2) fun _ => cb (x9_thrown a2 g9) fun r13 g14 => if r13 = r3 then
  if r3 = 0 then
  gb (aldL g14 a3 0) fun x20 => if (lg_cmp x20 (r8.toInt64)) = 0 then
  some (.inl (a4 + 3), g14)
  else
  some (.inr (.inr 0), g14)
  else
  some (.inl (a4 + 3), g14)
  else
  some (.inr (.inr 0), g14)
def l_law_j1024_23 (Ln : Nat) (xs : Nat → Int32) (a1 : Nat) (a2 : Nat) (a3 : Nat) (a4 : Int32) (g : AH) : Option (((Int32) ⊕ ((Unit) ⊕ Int32)) × AH) :=
  gb (scA Ln xs (a4 + 1)) fun x1 => cb (l_warmth a1 x1 a3 g) fun r3 g4 => gb (scA Ln xs (a4 + 1)) fun x6 => gb (isO 9 g4 a2) fun _ => cb (x9_warmth a2 x6 g4) fun r8 g9 => gb (isO 9 g9 a2) fun _ => cb (x9_thrown a2 g9) fun r13 g14 => if r13 = r3 then
  if r3 = 0 then
  gb (aldL g14 a3 0) fun x20 => if (lg_cmp x20 (r8.toInt64)) = 0 then
  some (.inl (a4 + 3), g14)
  else
  some (.inr (.inr 0), g14)
  else
  some (.inl (a4 + 3), g14)
  else
  some (.inr (.inr 0), g14)
def l_law_j1080_23 (Ln : Nat) (xs : Nat → Int32) (a1 : Nat) (a2 : Nat) (a3 : Nat) (a4 : Int32) (g : AH) : Option (((Int32) ⊕ ((Unit) ⊕ Int32)) × AH) :=
  gb (scA Ln xs (a4 + 1)) fun x1 => cb (l_activity a1 x1 a3 g) fun r3 g4 => gb (scA Ln xs (a4 + 1)) fun x6 => gb (isO 9 g4 a2) fun _ => cb (x9_activity a2 x6 g4) fun r8 g9 => gb (isO 9 g9 a2) fun _ => cb (x9_thrown a2 g9) fun r13 g14 => if r13 = r3 then
  if r3 = 0 then
  gb (aldL g14 a3 0) fun x20 => if (lg_cmp x20 (r8.toInt64)) = 0 then
  some (.inl (a4 + 3), g14)
  else
  some (.inr (.inr 0), g14)
  else
  some (.inl (a4 + 3), g14)
  else
  some (.inr (.inr 0), g14)
def l_law_j1136_23 (Ln : Nat) (xs : Nat → Int32) (a1 : Nat) (a2 : Nat) (a3 : Nat) (a4 : Int32) (g : AH) : Option (((Int32) ⊕ ((Unit) ⊕ Int32)) × AH) :=
  gb (scA Ln xs (a4 + 1)) fun x1 => gb (scA Ln xs (a4 + 2)) fun x3 => cb (l_hoursOf a1 x1 x3 a3 g) fun r5 g6 => gb (scA Ln xs (a4 + 1)) fun x8 => gb (scA Ln xs (a4 + 2)) fun x10 => gb (isO 9 g6 a2) fun _ => cb (x9_hoursOf a2 x8 x10 g6) fun r12 g13 => gb (isO 9 g13 a2) fun _ => cb (x9_thrown a2 g13) fun r17 g18 => if r17 = r5 then
  if r5 = 0 then
  gb (aldL g18 a3 0) fun x24 => if (lg_cmp x24 (r12.toInt64)) = 0 then
  some (.inl (a4 + 3), g18)
  else
  some (.inr (.inr 0), g18)
  else
  some (.inl (a4 + 3), g18)
  else
  some (.inr (.inr 0), g18)
def l_law_j1204_23 (Ln : Nat) (xs : Nat → Int32) (a1 : Nat) (a2 : Nat) (a3 : Nat) (a4 : Int32) (g : AH) : Option (((Int32) ⊕ ((Unit) ⊕ Int32)) × AH) :=
  gb (scA Ln xs (a4 + 1)) fun x1 => cb (l_coinsOf a1 x1 a3 g) fun r3 g4 => gb (scA Ln xs (a4 + 1)) fun x6 => gb (isO 9 g4 a2) fun _ => cb (x9_coinsOf a2 x6 g4) fun r8 g9 => gb (isO 9 g9 a2) fun _ => cb (x9_thrown a2 g9) fun r13 g14 => if r13 = r3 then
  if r3 = 0 then
  gb (aldL g14 a3 0) fun x20 => if (lg_cmp x20 (r8.toInt64)) = 0 then
  some (.inl (a4 + 3), g14)
  else
  some (.inr (.inr 0), g14)
  else
  some (.inl (a4 + 3), g14)
  else
  some (.inr (.inr 0), g14)
def l_law_j1260_23 (Ln : Nat) (xs : Nat → Int32) (a1 : Nat) (a2 : Nat) (a3 : Nat) (a4 : Int32) (g : AH) : Option (((Int32) ⊕ ((Unit) ⊕ Int32)) × AH) :=
  gb (scA Ln xs (a4 + 1)) fun x1 => cb (l_debtOf a1 x1 a3 g) fun r3 g4 => gb (scA Ln xs (a4 + 1)) fun x6 => gb (isO 9 g4 a2) fun _ => cb (x9_debtOf a2 x6 g4) fun r8 g9 => gb (isO 9 g9 a2) fun _ => cb (x9_thrown a2 g9) fun r13 g14 => if r13 = r3 then
  if r3 = 0 then
  gb (aldL g14 a3 0) fun x20 => if (lg_cmp x20 (r8.toInt64)) = 0 then
  some (.inl (a4 + 3), g14)
  else
  some (.inr (.inr 0), g14)
  else
  some (.inl (a4 + 3), g14)
  else
  some (.inr (.inr 0), g14)
def l_law_j1316_23 (Ln : Nat) (xs : Nat → Int32) (a1 : Nat) (a2 : Nat) (a3 : Nat) (a4 : Int32) (g : AH) : Option (((Int32) ⊕ ((Unit) ⊕ Int32)) × AH) :=
  gb (scA Ln xs (a4 + 1)) fun x1 => cb (l_hikerAtRank a1 x1 a3 g) fun r3 g4 => gb (scA Ln xs (a4 + 1)) fun x6 => gb (isO 9 g4 a2) fun _ => cb (x9_hikerAtRank a2 x6 g4) fun r8 g9 => gb (isO 9 g9 a2) fun _ => cb (x9_thrown a2 g9) fun r13 g14 => if r13 = r3 then
  if r3 = 0 then
  gb (aldL g14 a3 0) fun x20 => if (lg_cmp x20 (r8.toInt64)) = 0 then
  some (.inl (a4 + 3), g14)
  else
  some (.inr (.inr 0), g14)
  else
  some (.inl (a4 + 3), g14)
  else
  some (.inr (.inr 0), g14)
def l_law_j1372_23 (Ln : Nat) (xs : Nat → Int32) (a1 : Nat) (a2 : Nat) (a3 : Nat) (a4 : Int32) (g : AH) : Option (((Int32) ⊕ ((Unit) ⊕ Int32)) × AH) :=
  gb (isO 8 g a1) fun _ => cb (x8_worstSnorer a1 g) fun r1 g2 => gb (isO 9 g2 a2) fun _ => cb (x9_worstSnorer a2 g2) fun r6 g7 => if r1 = r6 then
  some (.inl (a4 + 3), g7)
  else
  some (.inr (.inr 0), g7)
def l_law_j1385_23 (Ln : Nat) (xs : Nat → Int32) (a1 : Nat) (a2 : Nat) (a3 : Nat) (a4 : Int32) (g : AH) : Option (((Int32) ⊕ ((Unit) ⊕ Int32)) × AH) :=
  gb (isO 8 g a1) fun _ => cb (x8_hikersWithout a1 g) fun r1 g2 => gb (isO 9 g2 a2) fun _ => cb (x9_hikersWithout a2 g2) fun r6 g7 => if r1 = r6 then
  some (.inl (a4 + 3), g7)
  else
  some (.inr (.inr 0), g7)
def l_law_j1398_23 (Ln : Nat) (xs : Nat → Int32) (a1 : Nat) (a2 : Nat) (a3 : Nat) (a4 : Int32) (g : AH) : Option (((Int32) ⊕ ((Unit) ⊕ Int32)) × AH) :=
  gb (isO 8 g a1) fun _ => cb (x8_coldHikers a1 g) fun r1 g2 => gb (isO 9 g2 a2) fun _ => cb (x9_coldHikers a2 g2) fun r6 g7 => if r1 = r6 then
  some (.inl (a4 + 3), g7)
  else
  some (.inr (.inr 0), g7)
def l_law_j1411_23 (Ln : Nat) (xs : Nat → Int32) (a1 : Nat) (a2 : Nat) (a3 : Nat) (a4 : Int32) (g : AH) : Option (((Int32) ⊕ ((Unit) ⊕ Int32)) × AH) :=
  gb (isO 8 g a1) fun _ => cb (x8_coldestHiker a1 g) fun r1 g2 => gb (isO 9 g2 a2) fun _ => cb (x9_coldestHiker a2 g2) fun r6 g7 => if r1 = r6 then
  some (.inl (a4 + 3), g7)
  else
  some (.inr (.inr 0), g7)
def l_law_j1424_23 (Ln : Nat) (xs : Nat → Int32) (a1 : Nat) (a2 : Nat) (a3 : Nat) (a4 : Int32) (g : AH) : Option (((Int32) ⊕ ((Unit) ⊕ Int32)) × AH) :=
  gb (isO 8 g a1) fun _ => cb (x8_fewestCold a1 g) fun r1 g2 => gb (isO 9 g2 a2) fun _ => cb (x9_fewestCold a2 g2) fun r6 g7 => if r1 = r6 then
  some (.inl (a4 + 3), g7)
  else
  some (.inr (.inr 0), g7)
def l_law_j1437_23 (Ln : Nat) (xs : Nat → Int32) (a1 : Nat) (a2 : Nat) (a3 : Nat) (a4 : Int32) (g : AH) : Option (((Int32) ⊕ ((Unit) ⊕ Int32)) × AH) :=
  gb (isO 8 g a1) fun _ => cb (x8_bestExchange a1 g) fun r1 g2 => gb (isO 9 g2 a2) fun _ => cb (x9_bestExchange a2 g2) fun r6 g7 => if r1 = r6 then
  some (.inl (a4 + 3), g7)
  else
  some (.inr (.inr 0), g7)
def l_law_j1450_23 (Ln : Nat) (xs : Nat → Int32) (a1 : Nat) (a2 : Nat) (a3 : Nat) (a4 : Int32) (g : AH) : Option (((Int32) ⊕ ((Unit) ⊕ Int32)) × AH) :=
  gb (scA Ln xs (a4 + 1)) fun x1 => cb (l_warmestBunk a1 x1 a3 g) fun r3 g4 => gb (scA Ln xs (a4 + 1)) fun x6 => gb (isO 9 g4 a2) fun _ => cb (x9_warmestBunk a2 x6 g4) fun r8 g9 => gb (isO 9 g9 a2) fun _ => cb (x9_thrown a2 g9) fun r13 g14 => if r13 = r3 then
  if r3 = 0 then
  gb (aldL g14 a3 0) fun x20 => if (lg_cmp x20 (r8.toInt64)) = 0 then
  some (.inl (a4 + 3), g14)
  else
  some (.inr (.inr 0), g14)
  else
  some (.inl (a4 + 3), g14)
  else
  some (.inr (.inr 0), g14)
def l_law_j1506_23 (Ln : Nat) (xs : Nat → Int32) (a1 : Nat) (a2 : Nat) (a3 : Nat) (a4 : Int32) (g : AH) : Option (((Int32) ⊕ ((Unit) ⊕ Int32)) × AH) :=
  gb (isO 8 g a1) fun _ => cb (x8_hutCoins a1 g) fun r1 g2 => gb (isO 9 g2 a2) fun _ => cb (x9_hutCoins a2 g2) fun r6 g7 => if r1 = r6 then
  some (.inl (a4 + 3), g7)
  else
  some (.inr (.inr 0), g7)
def l_law_j1519_23 (Ln : Nat) (xs : Nat → Int32) (a1 : Nat) (a2 : Nat) (a3 : Nat) (a4 : Int32) (g : AH) : Option (((Int32) ⊕ ((Unit) ⊕ Int32)) × AH) :=
  gb (isO 8 g a1) fun _ => cb (x8_burnedLogs a1 g) fun r1 g2 => gb (isO 9 g2 a2) fun _ => cb (x9_burnedLogs a2 g2) fun r6 g7 => if r1 = r6 then
  some (.inl (a4 + 3), g7)
  else
  some (.inr (.inr 0), g7)
def l_law_j1532_23 (Ln : Nat) (xs : Nat → Int32) (a1 : Nat) (a2 : Nat) (a3 : Nat) (a4 : Int32) (g : AH) : Option (((Int32) ⊕ ((Unit) ⊕ Int32)) × AH) :=
  gb (isO 8 g a1) fun _ => cb (x8_totalDebt a1 g) fun r1 g2 => gb (isO 9 g2 a2) fun _ => cb (x9_totalDebt a2 g2) fun r6 g7 => if r1 = r6 then
  some (.inl (a4 + 3), g7)
  else
  some (.inr (.inr 0), g7)
def l_law_j1545_23 (Ln : Nat) (xs : Nat → Int32) (a1 : Nat) (a2 : Nat) (a3 : Nat) (a4 : Int32) (g : AH) : Option (((Int32) ⊕ ((Unit) ⊕ Int32)) × AH) :=
  gb (isO 8 g a1) fun _ => cb (x8_auditDifference a1 g) fun r1 g2 => gb (isO 9 g2 a2) fun _ => cb (x9_auditDifference a2 g2) fun r6 g7 => if r1 = r6 then
  some (.inl (a4 + 3), g7)
  else
  some (.inr (.inr 0), g7)
def l_law_j1558_23 (Ln : Nat) (xs : Nat → Int32) (a1 : Nat) (a2 : Nat) (a3 : Nat) (a4 : Int32) (g : AH) : Option (((Int32) ⊕ ((Unit) ⊕ Int32)) × AH) :=
  gb (isO 8 g a1) fun _ => cb (x8_meanWarmth a1 g) fun r1 g2 => gb (isO 9 g2 a2) fun _ => cb (x9_meanWarmth a2 g2) fun r6 g7 => if (Op.cmpValue (FP.dcmp r1 r6) .l) = 0 then
  some (.inl (a4 + 3), g7)
  else
  if (Op.cmpValue (FP.dcmp r1 r1) .l) = 0 then
  some (.inr (.inr 0), g7)
  else
  if (Op.cmpValue (FP.dcmp r6 r6) .l) = 0 then
  some (.inr (.inr 0), g7)
  else
  some (.inl (a4 + 3), g7)
def l_law_j1599_23 (Ln : Nat) (xs : Nat → Int32) (a1 : Nat) (a2 : Nat) (a3 : Nat) (a4 : Int32) (g : AH) : Option (((Int32) ⊕ ((Unit) ⊕ Int32)) × AH) :=
  gb (isO 8 g a1) fun _ => cb (x8_sleepShare a1 g) fun r1 g2 => if n64 (FP.f2d r1) then gb (isO 9 g2 a2) fun _ => cb (x9_sleepShare a2 g2) fun r7 g8 => if n64 (FP.f2d r7) then if (Op.cmpValue (FP.dcmp (FP.f2d r1) (FP.f2d r7)) .l) = 0 then
  some (.inl (a4 + 3), g8)
  else
  if (Op.cmpValue (FP.dcmp (FP.f2d r1) (FP.f2d r1)) .l) = 0 then
  some (.inr (.inr 0), g8)
  else
  if (Op.cmpValue (FP.dcmp (FP.f2d r7) (FP.f2d r7)) .l) = 0 then
  some (.inr (.inr 0), g8)
  else
  some (.inl (a4 + 3), g8) else none else none
def l_law_j1642_23 (Ln : Nat) (xs : Nat → Int32) (a1 : Nat) (a2 : Nat) (a3 : Nat) (a4 : Int32) (g : AH) : Option (((Int32) ⊕ ((Unit) ⊕ Int32)) × AH) :=
  gb (scA Ln xs (a4 + 1)) fun x1 => cb (l_temperatureAfter a1 x1 a3 g) fun r3 g4 => gb (scA Ln xs (a4 + 1)) fun x6 => gb (isO 9 g4 a2) fun _ => cb (x9_temperatureAfter a2 x6 g4) fun r8 g9 => gb (isO 9 g9 a2) fun _ => cb (x9_thrown a2 g9) fun r13 g14 => if r13 = r3 then
  if r3 = 0 then
  gb (aldL g14 a3 0) fun x20 => if (lg_cmp x20 (r8.toInt64)) = 0 then
  some (.inl (a4 + 3), g14)
  else
  some (.inr (.inr 0), g14)
  else
  some (.inl (a4 + 3), g14)
  else
  some (.inr (.inr 0), g14)
def l_law_j1698_23 (Ln : Nat) (xs : Nat → Int32) (a1 : Nat) (a2 : Nat) (a3 : Nat) (a4 : Int32) (g : AH) : Option (((Int32) ⊕ ((Unit) ⊕ Int32)) × AH) :=
  gb (scA Ln xs (a4 + 1)) fun x1 => cb (l_shiversUntilDawn a1 x1 a3 g) fun r3 g4 => gb (scA Ln xs (a4 + 1)) fun x6 => gb (isO 9 g4 a2) fun _ => cb (x9_shiversUntilDawn a2 x6 g4) fun r8 g9 => gb (isO 9 g9 a2) fun _ => cb (x9_thrown a2 g9) fun r13 g14 => if r13 = r3 then
  if r3 = 0 then
  gb (aldL g14 a3 0) fun x20 => if (lg_cmp x20 (r8.toInt64)) = 0 then
  some (.inl (a4 + 3), g14)
  else
  some (.inr (.inr 0), g14)
  else
  some (.inl (a4 + 3), g14)
  else
  some (.inr (.inr 0), g14)
def l_law_j1754_23 (Ln : Nat) (xs : Nat → Int32) (a1 : Nat) (a2 : Nat) (a3 : Nat) (a4 : Int32) (g : AH) : Option (((Int32) ⊕ ((Unit) ⊕ Int32)) × AH) :=
  gb (scA Ln xs (a4 + 1)) fun x1 => cb (l_paymentAtDawn a1 x1 a3 g) fun r3 g4 => gb (scA Ln xs (a4 + 1)) fun x6 => gb (isO 9 g4 a2) fun _ => cb (x9_paymentAtDawn a2 x6 g4) fun r8 g9 => gb (isO 9 g9 a2) fun _ => cb (x9_thrown a2 g9) fun r13 g14 => if r13 = r3 then
  if r3 = 0 then
  gb (aldL g14 a3 0) fun x20 => if (lg_cmp x20 (r8.toInt64)) = 0 then
  some (.inl (a4 + 3), g14)
  else
  some (.inr (.inr 0), g14)
  else
  some (.inl (a4 + 3), g14)
  else
  some (.inr (.inr 0), g14)
def l_law_j1810_23 (Ln : Nat) (xs : Nat → Int32) (a1 : Nat) (a2 : Nat) (a3 : Nat) (a4 : Int32) (g : AH) : Option (((Int32) ⊕ ((Unit) ⊕ Int32)) × AH) :=
  gb (scA Ln xs (a4 + 1)) fun x1 => gb (scA Ln xs (a4 + 2)) fun x3 => cb (l_debtAfter a1 x1 x3 a3 g) fun r5 g6 => gb (scA Ln xs (a4 + 1)) fun x8 => gb (scA Ln xs (a4 + 2)) fun x10 => gb (isO 9 g6 a2) fun _ => cb (x9_debtAfter a2 x8 x10 g6) fun r12 g13 => gb (isO 9 g13 a2) fun _ => cb (x9_thrown a2 g13) fun r17 g18 => if r17 = r5 then
  if r5 = 0 then
  gb (aldL g18 a3 0) fun x24 => if (lg_cmp x24 (r12.toInt64)) = 0 then
  some (.inl (a4 + 3), g18)
  else
  some (.inr (.inr 0), g18)
  else
  some (.inl (a4 + 3), g18)
  else
  some (.inr (.inr 0), g18)
def l_law_j1878_23 (Ln : Nat) (xs : Nat → Int32) (a1 : Nat) (a2 : Nat) (a3 : Nat) (a4 : Int32) (g : AH) : Option (((Int32) ⊕ ((Unit) ⊕ Int32)) × AH) :=
  gb (scA Ln xs (a4 + 1)) fun x1 => cb (l_dawnsUntilDebt a1 x1 a3 g) fun r3 g4 => gb (scA Ln xs (a4 + 1)) fun x6 => gb (isO 9 g4 a2) fun _ => cb (x9_dawnsUntilDebt a2 x6 g4) fun r8 g9 => gb (isO 9 g9 a2) fun _ => cb (x9_thrown a2 g9) fun r13 g14 => if r13 = r3 then
  if r3 = 0 then
  gb (aldL g14 a3 0) fun x20 => if (lg_cmp x20 (r8.toInt64)) = 0 then
  some (.inl (a4 + 3), g14)
  else
  some (.inr (.inr 0), g14)
  else
  some (.inl (a4 + 3), g14)
  else
  some (.inr (.inr 0), g14)
def l_law_j1934_23 (Ln : Nat) (xs : Nat → Int32) (a1 : Nat) (a2 : Nat) (a3 : Nat) (a4 : Int32) (g : AH) : Option (((Int32) ⊕ ((Unit) ⊕ Int32)) × AH) :=
  gb (isO 8 g a1) fun _ => cb (x8_hoursUntilNoLogs a1 g) fun r1 g2 => gb (isO 9 g2 a2) fun _ => cb (x9_hoursUntilNoLogs a2 g2) fun r6 g7 => if r1 = r6 then
  some (.inl (a4 + 3), g7)
  else
  some (.inr (.inr 0), g7)
def l_law_j1947_23 (Ln : Nat) (xs : Nat → Int32) (a1 : Nat) (a2 : Nat) (a3 : Nat) (a4 : Int32) (g : AH) : Option (((Int32) ⊕ ((Unit) ⊕ Int32)) × AH) :=
  gb (isO 8 g a1) fun _ => cb (x8_rateNeeded a1 g) fun r1 g2 => gb (isO 9 g2 a2) fun _ => cb (x9_rateNeeded a2 g2) fun r6 g7 => if r1 = r6 then
  some (.inl (a4 + 3), g7)
  else
  some (.inr (.inr 0), g7)
def l_law_j1960_23 (Ln : Nat) (xs : Nat → Int32) (a1 : Nat) (a2 : Nat) (a3 : Nat) (a4 : Int32) (g : AH) : Option (((Int32) ⊕ ((Unit) ⊕ Int32)) × AH) :=
  gb (isO 8 g a1) fun _ => cb (x8_bestRate a1 g) fun r1 g2 => gb (isO 9 g2 a2) fun _ => cb (x9_bestRate a2 g2) fun r6 g7 => if r1 = r6 then
  some (.inl (a4 + 3), g7)
  else
  some (.inr (.inr 0), g7)
def l_law_j1973_23 (Ln : Nat) (xs : Nat → Int32) (a1 : Nat) (a2 : Nat) (a3 : Nat) (a4 : Int32) (g : AH) : Option (((Int32) ⊕ ((Unit) ⊕ Int32)) × AH) :=
  gb (scA Ln xs (a4 + 1)) fun x1 => gb (scA Ln xs (a4 + 2)) fun x3 => cb (l_takeBlanket a1 x1 x3 a3 g) fun r5 g6 => gb (scA Ln xs (a4 + 1)) fun x8 => gb (scA Ln xs (a4 + 2)) fun x10 => gb (isO 9 g6 a2) fun _ => cb (x9_takeBlanket a2 x8 x10 g6) fun r12 g13 => gb (isO 9 g13 a2) fun _ => cb (x9_thrown a2 g13) fun r17 g18 => if r17 = r5 then
  if r5 = 0 then
  gb (aldL g18 a3 0) fun x24 => if (lg_cmp x24 (r12.toInt64)) = 0 then
  some (.inl (a4 + 3), g18)
  else
  some (.inr (.inr 0), g18)
  else
  some (.inl (a4 + 3), g18)
  else
  some (.inr (.inr 0), g18)
def l_law_j2041_23 (Ln : Nat) (xs : Nat → Int32) (a1 : Nat) (a2 : Nat) (a3 : Nat) (a4 : Int32) (g : AH) : Option (((Int32) ⊕ ((Unit) ⊕ Int32)) × AH) :=
  gb (scA Ln xs (a4 + 1)) fun x1 => cb (l_returnBlanket a1 x1 a3 g) fun r3 g4 => gb (scA Ln xs (a4 + 1)) fun x6 => gb (isO 9 g4 a2) fun _ => cb (x9_returnBlanket a2 x6 g4) fun r8 g9 => gb (isO 9 g9 a2) fun _ => cb (x9_thrown a2 g9) fun r13 g14 => if r13 = r3 then
  if r3 = 0 then
  gb (aldL g14 a3 0) fun x20 => if (lg_cmp x20 (r8.toInt64)) = 0 then
  some (.inl (a4 + 3), g14)
  else
  some (.inr (.inr 0), g14)
  else
  some (.inl (a4 + 3), g14)
  else
  some (.inr (.inr 0), g14)
def l_law_j2097_23 (Ln : Nat) (xs : Nat → Int32) (a1 : Nat) (a2 : Nat) (a3 : Nat) (a4 : Int32) (g : AH) : Option (((Int32) ⊕ ((Unit) ⊕ Int32)) × AH) :=
  gb (scA Ln xs (a4 + 1)) fun x1 => gb (scA Ln xs (a4 + 2)) fun x3 => cb (l_swapBlankets a1 x1 x3 a3 g) fun r5 g6 => gb (scA Ln xs (a4 + 1)) fun x8 => gb (scA Ln xs (a4 + 2)) fun x10 => gb (isO 9 g6 a2) fun _ => cb (x9_swapBlankets a2 x8 x10 g6) fun r12 g13 => gb (isO 9 g13 a2) fun _ => cb (x9_thrown a2 g13) fun r17 g18 => if r17 = r5 then
  if r5 = 0 then
  gb (aldL g18 a3 0) fun x24 => if (lg_cmp x24 (r12.toInt64)) = 0 then
  some (.inl (a4 + 3), g18)
  else
  some (.inr (.inr 0), g18)
  else
  some (.inl (a4 + 3), g18)
  else
  some (.inr (.inr 0), g18)
def l_law_j2165_23 (Ln : Nat) (xs : Nat → Int32) (a1 : Nat) (a2 : Nat) (a3 : Nat) (a4 : Int32) (g : AH) : Option (((Int32) ⊕ ((Unit) ⊕ Int32)) × AH) :=
  gb (scA Ln xs (a4 + 1)) fun x1 => gb (scA Ln xs (a4 + 2)) fun x3 => cb (l_lieDown a1 x1 x3 a3 g) fun r5 g6 => gb (scA Ln xs (a4 + 1)) fun x8 => gb (scA Ln xs (a4 + 2)) fun x10 => gb (isO 9 g6 a2) fun _ => cb (x9_lieDown a2 x8 x10 g6) fun r12 g13 => gb (isO 9 g13 a2) fun _ => cb (x9_thrown a2 g13) fun r17 g18 => if r17 = r5 then
  if r5 = 0 then
  gb (aldL g18 a3 0) fun x24 => if (lg_cmp x24 (r12.toInt64)) = 0 then
  some (.inl (a4 + 3), g18)
  else
  some (.inr (.inr 0), g18)
  else
  some (.inl (a4 + 3), g18)
  else
  some (.inr (.inr 0), g18)
def l_law_j2233_23 (Ln : Nat) (xs : Nat → Int32) (a1 : Nat) (a2 : Nat) (a3 : Nat) (a4 : Int32) (g : AH) : Option (((Int32) ⊕ ((Unit) ⊕ Int32)) × AH) :=
  gb (scA Ln xs (a4 + 1)) fun x1 => cb (l_getUp a1 x1 a3 g) fun r3 g4 => gb (scA Ln xs (a4 + 1)) fun x6 => gb (isO 9 g4 a2) fun _ => cb (x9_getUp a2 x6 g4) fun r8 g9 => gb (isO 9 g9 a2) fun _ => cb (x9_thrown a2 g9) fun r13 g14 => if r13 = r3 then
  if r3 = 0 then
  gb (aldL g14 a3 0) fun x20 => if (lg_cmp x20 (r8.toInt64)) = 0 then
  some (.inl (a4 + 3), g14)
  else
  some (.inr (.inr 0), g14)
  else
  some (.inl (a4 + 3), g14)
  else
  some (.inr (.inr 0), g14)
def l_law_j2289_23 (Ln : Nat) (xs : Nat → Int32) (a1 : Nat) (a2 : Nat) (a3 : Nat) (a4 : Int32) (g : AH) : Option (((Int32) ⊕ ((Unit) ⊕ Int32)) × AH) :=
  gb (scA Ln xs (a4 + 1)) fun x1 => cb (l_setRate a1 x1 a3 g) fun r3 g4 => gb (scA Ln xs (a4 + 1)) fun x6 => gb (isO 9 g4 a2) fun _ => cb (x9_setRate a2 x6 g4) fun r8 g9 => gb (isO 9 g9 a2) fun _ => cb (x9_thrown a2 g9) fun r13 g14 => if r13 = r3 then
  if r3 = 0 then
  gb (aldL g14 a3 0) fun x20 => if (lg_cmp x20 (r8.toInt64)) = 0 then
  some (.inl (a4 + 3), g14)
  else
  some (.inr (.inr 0), g14)
  else
  some (.inl (a4 + 3), g14)
  else
  some (.inr (.inr 0), g14)
def l_law_j2345_23 (Ln : Nat) (xs : Nat → Int32) (a1 : Nat) (a2 : Nat) (a3 : Nat) (a4 : Int32) (g : AH) : Option (((Int32) ⊕ ((Unit) ⊕ Int32)) × AH) :=
  gb (scA Ln xs (a4 + 1)) fun x1 => cb (l_fetchLogs a1 x1 a3 g) fun r3 g4 => gb (scA Ln xs (a4 + 1)) fun x6 => gb (isO 9 g4 a2) fun _ => cb (x9_fetchLogs a2 x6 g4) fun r8 g9 => gb (isO 9 g9 a2) fun _ => cb (x9_thrown a2 g9) fun r13 g14 => if r13 = r3 then
  if r3 = 0 then
  gb (aldL g14 a3 0) fun x20 => if (lg_cmp x20 (r8.toInt64)) = 0 then
  some (.inl (a4 + 3), g14)
  else
  some (.inr (.inr 0), g14)
  else
  some (.inl (a4 + 3), g14)
  else
  some (.inr (.inr 0), g14)
def l_law_j2401_23 (Ln : Nat) (xs : Nat → Int32) (a1 : Nat) (a2 : Nat) (a3 : Nat) (a4 : Int32) (g : AH) : Option (((Int32) ⊕ ((Unit) ⊕ Int32)) × AH) :=
  gb (scA Ln xs (a4 + 1)) fun x1 => gb (scA Ln xs (a4 + 2)) fun x3 => cb (l_payDebt a1 x1 x3 a3 g) fun r5 g6 => gb (scA Ln xs (a4 + 1)) fun x8 => gb (scA Ln xs (a4 + 2)) fun x10 => gb (isO 9 g6 a2) fun _ => cb (x9_payDebt a2 x8 x10 g6) fun r12 g13 => gb (isO 9 g13 a2) fun _ => cb (x9_thrown a2 g13) fun r17 g18 => if r17 = r5 then
  if r5 = 0 then
  gb (aldL g18 a3 0) fun x24 => if (lg_cmp x24 (r12.toInt64)) = 0 then
  some (.inl (a4 + 3), g18)
  else
  some (.inr (.inr 0), g18)
  else
  some (.inl (a4 + 3), g18)
  else
  some (.inr (.inr 0), g18)
def l_law_j2469_23 (Ln : Nat) (xs : Nat → Int32) (a1 : Nat) (a2 : Nat) (a3 : Nat) (a4 : Int32) (g : AH) : Option (((Int32) ⊕ ((Unit) ⊕ Int32)) × AH) :=
  gb (scA Ln xs (a4 + 1)) fun x1 => cb (l_passHours a1 x1 a3 g) fun r3 g4 => gb (scA Ln xs (a4 + 1)) fun x6 => gb (isO 9 g4 a2) fun _ => cb (x9_passHours a2 x6 g4) fun r8 g9 => gb (isO 9 g9 a2) fun _ => cb (x9_thrown a2 g9) fun r13 g14 => if r13 = r3 then
  if r3 = 0 then
  gb (aldL g14 a3 0) fun x20 => if (lg_cmp x20 (r8.toInt64)) = 0 then
  some (.inl (a4 + 3), g14)
  else
  some (.inr (.inr 0), g14)
  else
  some (.inl (a4 + 3), g14)
  else
  some (.inr (.inr 0), g14)
def l_law_j2525_23 (Ln : Nat) (xs : Nat → Int32) (a1 : Nat) (a2 : Nat) (a3 : Nat) (a4 : Int32) (g : AH) : Option (((Int32) ⊕ ((Unit) ⊕ Int32)) × AH) :=
  gb (isO 8 g a1) fun _ => cb (x8_writeBunks a1 g) fun r1 g2 => gb (isO 9 g2 a2) fun _ => cb (x9_writeBunks a2 g2) fun r6 g7 => if r1 = r6 then
  some (.inl (a4 + 3), g7)
  else
  some (.inr (.inr 0), g7)
def l_law_j2538_23 (Ln : Nat) (xs : Nat → Int32) (a1 : Nat) (a2 : Nat) (a3 : Nat) (a4 : Int32) (g : AH) : Option (((Int32) ⊕ ((Unit) ⊕ Int32)) × AH) :=
  gb (isO 8 g a1) fun _ => cb (x8_writeLedger a1 g) fun r1 g2 => gb (isO 9 g2 a2) fun _ => cb (x9_writeLedger a2 g2) fun r6 g7 => if r1 = r6 then
  some (.inl (a4 + 3), g7)
  else
  some (.inr (.inr 0), g7)
def l_law_j2551_23 (Ln : Nat) (xs : Nat → Int32) (a1 : Nat) (a2 : Nat) (a3 : Nat) (a4 : Int32) (g : AH) : Option (((Int32) ⊕ ((Unit) ⊕ Int32)) × AH) :=
  gb (scA Ln xs (a4 + 1)) fun x1 => gb (isO 8 g a1) fun _ => cb (x8_outputByte a1 x1 g) fun r3 g4 => gb (scA Ln xs (a4 + 1)) fun x8 => gb (isO 9 g4 a2) fun _ => cb (x9_outputByte a2 x8 g4) fun r10 g11 => if r3 = r10 then
  some (.inl (a4 + 3), g11)
  else
  some (.inr (.inr 0), g11)
def l_law_j2576_23 (Ln : Nat) (xs : Nat → Int32) (a1 : Nat) (a2 : Nat) (a3 : Nat) (a4 : Int32) (g : AH) : Option (((Int32) ⊕ ((Unit) ⊕ Int32)) × AH) :=
  cb (l_undo a1 a3 g) fun r1 g2 => gb (isO 9 g2 a2) fun _ => cb (x9_undo a2 g2) fun r4 g5 => gb (isO 9 g5 a2) fun _ => cb (x9_thrown a2 g5) fun r9 g10 => if r9 = r1 then
  if r1 = 0 then
  gb (aldL g10 a3 0) fun x16 => if (lg_cmp x16 (r4.toInt64)) = 0 then
  some (.inl (a4 + 3), g10)
  else
  some (.inr (.inr 0), g10)
  else
  some (.inl (a4 + 3), g10)
  else
  some (.inr (.inr 0), g10)
def l_law_j2620_23 (Ln : Nat) (xs : Nat → Int32) (a1 : Nat) (a2 : Nat) (a3 : Nat) (a4 : Int32) (g : AH) : Option (((Int32) ⊕ ((Unit) ⊕ Int32)) × AH) :=
  gb (scA Ln xs (a4 + 1)) fun x1 => cb (l_saveSnapshot a1 x1 g) fun r3 g4 => gb (scA Ln xs (a4 + 1)) fun x6 => gb (isO 9 g4 a2) fun _ => cb (x9_saveSnapshot a2 x6 g4) fun r8 g9 => gb (isO 9 g9 a2) fun _ => cb (x9_thrown a2 g9) fun r13 g14 => if r13 = r3 then
  some (.inl (a4 + 3), g14)
  else
  some (.inr (.inr 0), g14)
def l_law_j2656_23 (Ln : Nat) (xs : Nat → Int32) (a1 : Nat) (a2 : Nat) (a3 : Nat) (a4 : Int32) (g : AH) : Option (((Int32) ⊕ ((Unit) ⊕ Int32)) × AH) :=
  gb (scA Ln xs (a4 + 1)) fun x1 => cb (l_restoreSnapshot a1 x1 g) fun r3 g4 => gb (scA Ln xs (a4 + 1)) fun x6 => gb (isO 9 g4 a2) fun _ => cb (x9_restoreSnapshot a2 x6 g4) fun r8 g9 => gb (isO 9 g9 a2) fun _ => cb (x9_thrown a2 g9) fun r13 g14 => if r13 = r3 then
  some (.inl (a4 + 3), g14)
  else
  some (.inr (.inr 0), g14)
def l_law_l23 (Ln : Nat) (xs : Nat → Int32) (a1 : Nat) (a2 : Nat) (a3 : Nat) (s0 : Int32) (g : AH) : Option (((Int32) ⊕ ((Unit) ⊕ Int32)) × AH) :=
  if ((scL Ln) - 3) < s0 then
  some (.inr (.inl ()), g)
  else
  gb (scA Ln xs s0) fun x2 => if (x2 &&& 63) = 0 then
  l_law_j308_23 Ln xs a1 a2 a3 s0 g
  else if (x2 &&& 63) = 1 then
  l_law_j364_23 Ln xs a1 a2 a3 s0 g
  else if (x2 &&& 63) = 2 then
  l_law_j420_23 Ln xs a1 a2 a3 s0 g
  else if (x2 &&& 63) = 3 then
  l_law_j433_23 Ln xs a1 a2 a3 s0 g
  else if (x2 &&& 63) = 4 then
  l_law_j446_23 Ln xs a1 a2 a3 s0 g
  else if (x2 &&& 63) = 5 then
  l_law_j459_23 Ln xs a1 a2 a3 s0 g
  else if (x2 &&& 63) = 6 then
  l_law_j472_23 Ln xs a1 a2 a3 s0 g
  else if (x2 &&& 63) = 7 then
  l_law_j485_23 Ln xs a1 a2 a3 s0 g
  else if (x2 &&& 63) = 8 then
  l_law_j498_23 Ln xs a1 a2 a3 s0 g
  else if (x2 &&& 63) = 9 then
  l_law_j511_23 Ln xs a1 a2 a3 s0 g
  else if (x2 &&& 63) = 10 then
  l_law_j524_23 Ln xs a1 a2 a3 s0 g
  else if (x2 &&& 63) = 11 then
  l_law_j580_23 Ln xs a1 a2 a3 s0 g
  else if (x2 &&& 63) = 12 then
  l_law_j636_23 Ln xs a1 a2 a3 s0 g
  else if (x2 &&& 63) = 13 then
  l_law_j649_23 Ln xs a1 a2 a3 s0 g
  else if (x2 &&& 63) = 14 then
  l_law_j662_23 Ln xs a1 a2 a3 s0 g
  else if (x2 &&& 63) = 15 then
  l_law_j718_23 Ln xs a1 a2 a3 s0 g
  else if (x2 &&& 63) = 16 then
  l_law_j774_23 Ln xs a1 a2 a3 s0 g
  else if (x2 &&& 63) = 17 then
  l_law_j830_23 Ln xs a1 a2 a3 s0 g
  else if (x2 &&& 63) = 18 then
  l_law_j843_23 Ln xs a1 a2 a3 s0 g
  else if (x2 &&& 63) = 19 then
  l_law_j899_23 Ln xs a1 a2 a3 s0 g
  else if (x2 &&& 63) = 20 then
  l_law_j912_23 Ln xs a1 a2 a3 s0 g
  else if (x2 &&& 63) = 21 then
  l_law_j968_23 Ln xs a1 a2 a3 s0 g
  else if (x2 &&& 63) = 22 then
  l_law_j1024_23 Ln xs a1 a2 a3 s0 g
  else if (x2 &&& 63) = 23 then
  l_law_j1080_23 Ln xs a1 a2 a3 s0 g
  else if (x2 &&& 63) = 24 then
  l_law_j1136_23 Ln xs a1 a2 a3 s0 g
  else if (x2 &&& 63) = 25 then
  l_law_j1204_23 Ln xs a1 a2 a3 s0 g
  else if (x2 &&& 63) = 26 then
  l_law_j1260_23 Ln xs a1 a2 a3 s0 g
  else if (x2 &&& 63) = 27 then
  l_law_j1316_23 Ln xs a1 a2 a3 s0 g
  else if (x2 &&& 63) = 28 then
  l_law_j1372_23 Ln xs a1 a2 a3 s0 g
  else if (x2 &&& 63) = 29 then
  l_law_j1385_23 Ln xs a1 a2 a3 s0 g
  else if (x2 &&& 63) = 30 then
  l_law_j1398_23 Ln xs a1 a2 a3 s0 g
  else if (x2 &&& 63) = 31 then
  l_law_j1411_23 Ln xs a1 a2 a3 s0 g
  else if (x2 &&& 63) = 32 then
  l_law_j1424_23 Ln xs a1 a2 a3 s0 g
  else if (x2 &&& 63) = 33 then
  l_law_j1437_23 Ln xs a1 a2 a3 s0 g
  else if (x2 &&& 63) = 34 then
  l_law_j1450_23 Ln xs a1 a2 a3 s0 g
  else if (x2 &&& 63) = 35 then
  l_law_j1506_23 Ln xs a1 a2 a3 s0 g
  else if (x2 &&& 63) = 36 then
  l_law_j1519_23 Ln xs a1 a2 a3 s0 g
  else if (x2 &&& 63) = 37 then
  l_law_j1532_23 Ln xs a1 a2 a3 s0 g
  else if (x2 &&& 63) = 38 then
  l_law_j1545_23 Ln xs a1 a2 a3 s0 g
  else if (x2 &&& 63) = 39 then
  l_law_j1558_23 Ln xs a1 a2 a3 s0 g
  else if (x2 &&& 63) = 40 then
  l_law_j1599_23 Ln xs a1 a2 a3 s0 g
  else if (x2 &&& 63) = 41 then
  l_law_j1642_23 Ln xs a1 a2 a3 s0 g
  else if (x2 &&& 63) = 42 then
  l_law_j1698_23 Ln xs a1 a2 a3 s0 g
  else if (x2 &&& 63) = 43 then
  l_law_j1754_23 Ln xs a1 a2 a3 s0 g
  else if (x2 &&& 63) = 44 then
  l_law_j1810_23 Ln xs a1 a2 a3 s0 g
  else if (x2 &&& 63) = 45 then
  l_law_j1878_23 Ln xs a1 a2 a3 s0 g
  else if (x2 &&& 63) = 46 then
  l_law_j1934_23 Ln xs a1 a2 a3 s0 g
  else if (x2 &&& 63) = 47 then
  l_law_j1947_23 Ln xs a1 a2 a3 s0 g
  else if (x2 &&& 63) = 48 then
  l_law_j1960_23 Ln xs a1 a2 a3 s0 g
  else if (x2 &&& 63) = 49 then
  l_law_j1973_23 Ln xs a1 a2 a3 s0 g
  else if (x2 &&& 63) = 50 then
  l_law_j2041_23 Ln xs a1 a2 a3 s0 g
  else if (x2 &&& 63) = 51 then
  l_law_j2097_23 Ln xs a1 a2 a3 s0 g
  else if (x2 &&& 63) = 52 then
  l_law_j2165_23 Ln xs a1 a2 a3 s0 g
  else if (x2 &&& 63) = 53 then
  l_law_j2233_23 Ln xs a1 a2 a3 s0 g
  else if (x2 &&& 63) = 54 then
  l_law_j2289_23 Ln xs a1 a2 a3 s0 g
  else if (x2 &&& 63) = 55 then
  l_law_j2345_23 Ln xs a1 a2 a3 s0 g
  else if (x2 &&& 63) = 56 then
  l_law_j2401_23 Ln xs a1 a2 a3 s0 g
  else if (x2 &&& 63) = 57 then
  l_law_j2469_23 Ln xs a1 a2 a3 s0 g
  else if (x2 &&& 63) = 58 then
  l_law_j2525_23 Ln xs a1 a2 a3 s0 g
  else if (x2 &&& 63) = 59 then
  l_law_j2538_23 Ln xs a1 a2 a3 s0 g
  else if (x2 &&& 63) = 60 then
  l_law_j2551_23 Ln xs a1 a2 a3 s0 g
  else if (x2 &&& 63) = 61 then
  l_law_j2576_23 Ln xs a1 a2 a3 s0 g
  else if (x2 &&& 63) = 62 then
  l_law_j2620_23 Ln xs a1 a2 a3 s0 g
  else if (x2 &&& 63) = 63 then
  l_law_j2656_23 Ln xs a1 a2 a3 s0 g
  else some (.inl (s0 + 3), g)
def l_law (Ln : Nat) (xs : Nat → Int32) (g : AH) : Option (Int32 × AH) :=
  cb (newO 8 tyX8 g) fun x1 g2 => cb (x8_init x1 g2) fun r4 g5 => cb (newO 9 tyX9 g5) fun x7 g8 => cb (x9_init x7 g8) fun r10 g11 => cb (newA 3 (.inr (.inl (fun _ => 0))) g11 1) fun x13 g14 => cb (loopX (l_law_l23 Ln xs x1 x7 x13) 600 0 g14) fun t16 g17 => Sum.elim (fun t19 =>
  some (1, g17)) (fun t20 => some (t20, g17)) t16
set_option maxHeartbeats 4000000 in
set_option maxRecDepth 100000 in
theorem t_l_law_j308_23 {l : Launch} (hst : l.stackTraces = false) {G : GG} {M : MC} {b9 Ln : Nat} {xs : Nat → Int32} (hX : HX M G b9 Ln xs) (X : CX M G cL_law 9 RL room_1) (hl0 : M.2.1 = l) {Q : State → Prop} {kc ks : Nat} {s9 : ((Int32) ⊕ ((Unit) ⊕ Int32))} {g1 : AH}  {a1 : Nat} {a2 : Nat} {a3 : Nat} {a4 : Int32} {Kc Ks : Nat} (hkc : kc + 3 ≤ Kc ∧ Kc ≤ 601024) (hks : ks + 18 ≤ Ks ∧ Ks ≤ 7293034) (hc : ∀ s1, s9 = .inl s1 → WW M G 9 Q (kc + 3) (ks + 18) g1 23 [(0, .ref b9), (1, .ref a1), (2, .ref a2), (3, .ref a3), (4, .int s1)] []) (hx : ∀ t, s9 = .inr t → Sum.elim (fun t1 => WW M G 9 Q Kc Ks g1 2698 [] []) (fun t2 : Int32 => t2 = 1) t) {g : AH} (E : l_law_j308_23 Ln xs a1 a2 a3 a4 g = some (s9, g1)) : WW M G 9 Q kc ks g 308 [(0, .ref b9), (1, .ref a1), (2, .ref a2), (3, .ref a3), (4, .int a4)] [] := by
  unfold l_law_j308_23 at E
  refine r_aload_n X 1 dL_law_308 rfl rfl ?_
  refine r_aload_n X 0 dL_law_309 rfl rfl ?_
  refine r_iload X dL_law_310 rfl ?_
  refine r_iconst X (v := 1) dL_law_312 (by decide) ?_
  refine r_iadd X dL_law_313 ?_
  obtain ⟨x1, e2, E⟩ := gb_some E
  refine r_sld X hX dL_law_314 e2 ?_
  refine r_aload_n X 3 dL_law_315 rfl rfl ?_
  obtain ⟨r3, g4, e5, E⟩ := cb_some E
  refine r_callW X hl0 dL_law_316 y_L_appendText m_L_127 (t_l_appendText (l := l) hst (G := G) e5) rfl rfl (Nat.le_of_ble_eq_true rfl) ⟨by decide, by show _ + 1 ≤ 601024; omega, by show _ + 6 ≤ 7293034; omega⟩ ?_
  refine r_istore X (L1 := [(5, .int r3), (0, .ref b9), (1, .ref a1), (2, .ref a2), (3, .ref a3), (4, .int a4)]) dL_law_319 (by decide) rfl ?_
  refine r_aload_n X 2 dL_law_321 rfl rfl ?_
  refine r_aload_n X 0 dL_law_322 rfl rfl ?_
  refine r_iload X dL_law_323 rfl ?_
  refine r_iconst X (v := 1) dL_law_325 (by decide) ?_
  refine r_iadd X dL_law_326 ?_
  obtain ⟨x6, e7, E⟩ := gb_some E
  refine r_sld X hX dL_law_327 e7 ?_
  obtain ⟨u11, e12, E⟩ := gb_some E
  obtain ⟨r8, g9, e10, E⟩ := cb_some E
  refine r_callV0 X hl0 (ci := 9) dL_law_328 y_X9_appendText m_L_132 rfl rfl e12 (t_x9_appendText (l := l) (G := G) e10) rfl rfl (Nat.le_of_ble_eq_true rfl) (by decide) ?_
  refine r_istore X (L1 := [(6, .int r8), (5, .int r3), (0, .ref b9), (1, .ref a1), (2, .ref a2), (3, .ref a3), (4, .int a4)]) dL_law_331 (by decide) rfl ?_
  refine r_aload_n X 2 dL_law_333 rfl rfl ?_
  obtain ⟨u16, e17, E⟩ := gb_some E
  obtain ⟨r13, g14, e15, E⟩ := cb_some E
  refine r_callV0 X hl0 (ci := 9) dL_law_334 y_X9_thrown m_L_133 rfl rfl e17 (t_x9_thrown (l := l) (G := G) e15) rfl rfl (Nat.le_of_ble_eq_true rfl) (by decide) ?_
  refine r_iload X dL_law_337 rfl ?_
  refine r_icmp_eq X 344 dL_law_339 (by decide) (fun c18 => ?_) (fun c18 => ?_)
  · rw [if_pos c18] at E
    refine r_iload X dL_law_344 rfl ?_
    refine r_if_ne X 361 dL_law_346 (by decide) (fun c19 => ?_) (fun c19 => ?_)
    · rw [if_neg c19] at E
      refine r_goto X 2692 dL_law_361 (by decide) ?_
      refine r_iinc X (v := (a4 + 3)) (L1 := [(4, .int (a4 + 3)), (6, .int r8), (5, .int r3), (0, .ref b9), (1, .ref a1), (2, .ref a2), (3, .ref a3)]) dL_law_2692 rfl rfl (by decide) rfl ?_
      refine r_goto X 23 dL_law_2695 (by decide) ?_
      cases E
      exact r_widen X ⟨by first | exact Nat.le_add_right _ _ | exact Nat.add_le_add_left (by decide) _, Nat.le_trans hkc.1 hkc.2⟩ ⟨by first | exact Nat.le_add_right _ _ | exact Nat.add_le_add_left (by decide) _, Nat.le_trans hks.1 hks.2⟩ <| r_pick (by rfl : lpick [(4, .int (a4 + 3)), (6, .int r8), (5, .int r3), (0, .ref b9), (1, .ref a1), (2, .ref a2), (3, .ref a3)] [3, 4, 5, 6, 0] = _) (hc _ rfl)
    · rw [if_pos c19] at E
      refine r_aload_n X 3 dL_law_349 rfl rfl ?_
      refine r_iconst X (v := 0) dL_law_350 (by decide) ?_
      obtain ⟨x20, e21, E⟩ := gb_some E
      refine r_lald X dL_law_351 e21 ?_
      refine r_iload X dL_law_352 rfl ?_
      refine r_i2l X dL_law_354 ?_
      refine r_lcmp X dL_law_355 ?_
      refine r_if_eq X 361 dL_law_356 (by decide) (fun c22 => ?_) (fun c22 => ?_)
      · rw [if_pos c22] at E
        refine r_goto X 2692 dL_law_361 (by decide) ?_
        refine r_iinc X (v := (a4 + 3)) (L1 := [(4, .int (a4 + 3)), (6, .int r8), (5, .int r3), (0, .ref b9), (1, .ref a1), (2, .ref a2), (3, .ref a3)]) dL_law_2692 rfl rfl (by decide) rfl ?_
        refine r_goto X 23 dL_law_2695 (by decide) ?_
        cases E
        exact r_widen X ⟨by first | exact Nat.le_add_right _ _ | exact Nat.add_le_add_left (by decide) _, Nat.le_trans hkc.1 hkc.2⟩ ⟨by first | exact Nat.le_add_right _ _ | exact Nat.add_le_add_left (by decide) _, Nat.le_trans hks.1 hks.2⟩ <| r_pick (by rfl : lpick [(4, .int (a4 + 3)), (6, .int r8), (5, .int r3), (0, .ref b9), (1, .ref a1), (2, .ref a2), (3, .ref a3)] [3, 4, 5, 6, 0] = _) (hc _ rfl)
      · rw [if_neg c22] at E
        refine r_iconst X (v := 0) dL_law_359 (by decide) ?_
        cases E
        exact absurd (show (0 : Int32) = 1 from hx _ rfl) (by decide)
  · rw [if_neg c18] at E
    refine r_iconst X (v := 0) dL_law_342 (by decide) ?_
    cases E
    exact absurd (show (0 : Int32) = 1 from hx _ rfl) (by decide)
set_option maxHeartbeats 4000000 in
set_option maxRecDepth 100000 in
theorem t_l_law_j364_23 {l : Launch} (hst : l.stackTraces = false) {G : GG} {M : MC} {b9 Ln : Nat} {xs : Nat → Int32} (hX : HX M G b9 Ln xs) (X : CX M G cL_law 9 RL room_1) (hl0 : M.2.1 = l) {Q : State → Prop} {kc ks : Nat} {s9 : ((Int32) ⊕ ((Unit) ⊕ Int32))} {g1 : AH}  {a1 : Nat} {a2 : Nat} {a3 : Nat} {a4 : Int32} {Kc Ks : Nat} (hkc : kc + 3 ≤ Kc ∧ Kc ≤ 601024) (hks : ks + 18 ≤ Ks ∧ Ks ≤ 7293034) (hc : ∀ s1, s9 = .inl s1 → WW M G 9 Q (kc + 3) (ks + 18) g1 23 [(0, .ref b9), (1, .ref a1), (2, .ref a2), (3, .ref a3), (4, .int s1)] []) (hx : ∀ t, s9 = .inr t → Sum.elim (fun t1 => WW M G 9 Q Kc Ks g1 2698 [] []) (fun t2 : Int32 => t2 = 1) t) {g : AH} (E : l_law_j364_23 Ln xs a1 a2 a3 a4 g = some (s9, g1)) : WW M G 9 Q kc ks g 364 [(0, .ref b9), (1, .ref a1), (2, .ref a2), (3, .ref a3), (4, .int a4)] [] := by
  unfold l_law_j364_23 at E
  refine r_aload_n X 1 dL_law_364 rfl rfl ?_
  refine r_aload_n X 0 dL_law_365 rfl rfl ?_
  refine r_iload X dL_law_366 rfl ?_
  refine r_iconst X (v := 1) dL_law_368 (by decide) ?_
  refine r_iadd X dL_law_369 ?_
  obtain ⟨x1, e2, E⟩ := gb_some E
  refine r_sld X hX dL_law_370 e2 ?_
  refine r_aload_n X 3 dL_law_371 rfl rfl ?_
  obtain ⟨r3, g4, e5, E⟩ := cb_some E
  refine r_callW X hl0 dL_law_372 y_L_truncateText m_L_136 (t_l_truncateText (l := l) hst (G := G) e5) rfl rfl (Nat.le_of_ble_eq_true rfl) ⟨by decide, by show _ + 1 ≤ 601024; omega, by show _ + 6 ≤ 7293034; omega⟩ ?_
  refine r_istore X (L1 := [(5, .int r3), (0, .ref b9), (1, .ref a1), (2, .ref a2), (3, .ref a3), (4, .int a4)]) dL_law_375 (by decide) rfl ?_
  refine r_aload_n X 2 dL_law_377 rfl rfl ?_
  refine r_aload_n X 0 dL_law_378 rfl rfl ?_
  refine r_iload X dL_law_379 rfl ?_
  refine r_iconst X (v := 1) dL_law_381 (by decide) ?_
  refine r_iadd X dL_law_382 ?_
  obtain ⟨x6, e7, E⟩ := gb_some E
  refine r_sld X hX dL_law_383 e7 ?_
  obtain ⟨u11, e12, E⟩ := gb_some E
  obtain ⟨r8, g9, e10, E⟩ := cb_some E
  refine r_callV0 X hl0 (ci := 9) dL_law_384 y_X9_truncateText m_L_138 rfl rfl e12 (t_x9_truncateText (l := l) (G := G) e10) rfl rfl (Nat.le_of_ble_eq_true rfl) (by decide) ?_
  refine r_istore X (L1 := [(6, .int r8), (5, .int r3), (0, .ref b9), (1, .ref a1), (2, .ref a2), (3, .ref a3), (4, .int a4)]) dL_law_387 (by decide) rfl ?_
  refine r_aload_n X 2 dL_law_389 rfl rfl ?_
  obtain ⟨u16, e17, E⟩ := gb_some E
  obtain ⟨r13, g14, e15, E⟩ := cb_some E
  refine r_callV0 X hl0 (ci := 9) dL_law_390 y_X9_thrown m_L_133 rfl rfl e17 (t_x9_thrown (l := l) (G := G) e15) rfl rfl (Nat.le_of_ble_eq_true rfl) (by decide) ?_
  refine r_iload X dL_law_393 rfl ?_
  refine r_icmp_eq X 400 dL_law_395 (by decide) (fun c18 => ?_) (fun c18 => ?_)
  · rw [if_pos c18] at E
    refine r_iload X dL_law_400 rfl ?_
    refine r_if_ne X 417 dL_law_402 (by decide) (fun c19 => ?_) (fun c19 => ?_)
    · rw [if_neg c19] at E
      refine r_goto X 2692 dL_law_417 (by decide) ?_
      refine r_iinc X (v := (a4 + 3)) (L1 := [(4, .int (a4 + 3)), (6, .int r8), (5, .int r3), (0, .ref b9), (1, .ref a1), (2, .ref a2), (3, .ref a3)]) dL_law_2692 rfl rfl (by decide) rfl ?_
      refine r_goto X 23 dL_law_2695 (by decide) ?_
      cases E
      exact r_widen X ⟨by first | exact Nat.le_add_right _ _ | exact Nat.add_le_add_left (by decide) _, Nat.le_trans hkc.1 hkc.2⟩ ⟨by first | exact Nat.le_add_right _ _ | exact Nat.add_le_add_left (by decide) _, Nat.le_trans hks.1 hks.2⟩ <| r_pick (by rfl : lpick [(4, .int (a4 + 3)), (6, .int r8), (5, .int r3), (0, .ref b9), (1, .ref a1), (2, .ref a2), (3, .ref a3)] [3, 4, 5, 6, 0] = _) (hc _ rfl)
    · rw [if_pos c19] at E
      refine r_aload_n X 3 dL_law_405 rfl rfl ?_
      refine r_iconst X (v := 0) dL_law_406 (by decide) ?_
      obtain ⟨x20, e21, E⟩ := gb_some E
      refine r_lald X dL_law_407 e21 ?_
      refine r_iload X dL_law_408 rfl ?_
      refine r_i2l X dL_law_410 ?_
      refine r_lcmp X dL_law_411 ?_
      refine r_if_eq X 417 dL_law_412 (by decide) (fun c22 => ?_) (fun c22 => ?_)
      · rw [if_pos c22] at E
        refine r_goto X 2692 dL_law_417 (by decide) ?_
        refine r_iinc X (v := (a4 + 3)) (L1 := [(4, .int (a4 + 3)), (6, .int r8), (5, .int r3), (0, .ref b9), (1, .ref a1), (2, .ref a2), (3, .ref a3)]) dL_law_2692 rfl rfl (by decide) rfl ?_
        refine r_goto X 23 dL_law_2695 (by decide) ?_
        cases E
        exact r_widen X ⟨by first | exact Nat.le_add_right _ _ | exact Nat.add_le_add_left (by decide) _, Nat.le_trans hkc.1 hkc.2⟩ ⟨by first | exact Nat.le_add_right _ _ | exact Nat.add_le_add_left (by decide) _, Nat.le_trans hks.1 hks.2⟩ <| r_pick (by rfl : lpick [(4, .int (a4 + 3)), (6, .int r8), (5, .int r3), (0, .ref b9), (1, .ref a1), (2, .ref a2), (3, .ref a3)] [3, 4, 5, 6, 0] = _) (hc _ rfl)
      · rw [if_neg c22] at E
        refine r_iconst X (v := 0) dL_law_415 (by decide) ?_
        cases E
        exact absurd (show (0 : Int32) = 1 from hx _ rfl) (by decide)
  · rw [if_neg c18] at E
    refine r_iconst X (v := 0) dL_law_398 (by decide) ?_
    cases E
    exact absurd (show (0 : Int32) = 1 from hx _ rfl) (by decide)
set_option maxHeartbeats 4000000 in
set_option maxRecDepth 100000 in
theorem t_l_law_j420_23 {l : Launch} (hst : l.stackTraces = false) {G : GG} {M : MC} {b9 Ln : Nat} {xs : Nat → Int32} (hX : HX M G b9 Ln xs) (X : CX M G cL_law 9 RL room_1) (hl0 : M.2.1 = l) {Q : State → Prop} {kc ks : Nat} {s9 : ((Int32) ⊕ ((Unit) ⊕ Int32))} {g1 : AH}  {a1 : Nat} {a2 : Nat} {a3 : Nat} {a4 : Int32} {Kc Ks : Nat} (hkc : kc + 3 ≤ Kc ∧ Kc ≤ 601024) (hks : ks + 18 ≤ Ks ∧ Ks ≤ 7293034) (hc : ∀ s1, s9 = .inl s1 → WW M G 9 Q (kc + 3) (ks + 18) g1 23 [(0, .ref b9), (1, .ref a1), (2, .ref a2), (3, .ref a3), (4, .int s1)] []) (hx : ∀ t, s9 = .inr t → Sum.elim (fun t1 => WW M G 9 Q Kc Ks g1 2698 [] []) (fun t2 : Int32 => t2 = 1) t) {g : AH} (E : l_law_j420_23 Ln xs a1 a2 a3 a4 g = some (s9, g1)) : WW M G 9 Q kc ks g 420 [(0, .ref b9), (1, .ref a1), (2, .ref a2), (3, .ref a3), (4, .int a4)] [] := by
  unfold l_law_j420_23 at E
  refine r_aload_n X 1 dL_law_420 rfl rfl ?_
  obtain ⟨u4, e5, E⟩ := gb_some E
  obtain ⟨r1, g2, e3, E⟩ := cb_some E
  refine r_callV0 X hl0 (ci := 8) dL_law_421 y_X8_loadSetup m_L_139 rfl rfl e5 (t_x8_loadSetup (l := l) (G := G) e3) rfl rfl (Nat.le_of_ble_eq_true rfl) (by decide) ?_
  refine r_aload_n X 2 dL_law_424 rfl rfl ?_
  obtain ⟨u9, e10, E⟩ := gb_some E
  obtain ⟨r6, g7, e8, E⟩ := cb_some E
  refine r_callV0 X hl0 (ci := 9) dL_law_425 y_X9_loadSetup m_L_142 rfl rfl e10 (t_x9_loadSetup (l := l) (G := G) e8) rfl rfl (Nat.le_of_ble_eq_true rfl) (by decide) ?_
  refine r_icmp_eq X 2692 dL_law_428 (by decide) (fun c11 => ?_) (fun c11 => ?_)
  · rw [if_pos c11] at E
    refine r_iinc X (v := (a4 + 3)) (L1 := [(4, .int (a4 + 3)), (0, .ref b9), (1, .ref a1), (2, .ref a2), (3, .ref a3)]) dL_law_2692 rfl rfl (by decide) rfl ?_
    refine r_goto X 23 dL_law_2695 (by decide) ?_
    cases E
    exact r_widen X ⟨by first | exact Nat.le_add_right _ _ | exact Nat.add_le_add_left (by decide) _, Nat.le_trans hkc.1 hkc.2⟩ ⟨by first | exact Nat.le_add_right _ _ | exact Nat.add_le_add_left (by decide) _, Nat.le_trans hks.1 hks.2⟩ <| r_pick (by rfl : lpick [(4, .int (a4 + 3)), (0, .ref b9), (1, .ref a1), (2, .ref a2), (3, .ref a3)] [1, 2, 3, 4, 0] = _) (hc _ rfl)
  · rw [if_neg c11] at E
    refine r_iconst X (v := 0) dL_law_431 (by decide) ?_
    cases E
    exact absurd (show (0 : Int32) = 1 from hx _ rfl) (by decide)
set_option maxHeartbeats 4000000 in
set_option maxRecDepth 100000 in
theorem t_l_law_j433_23 {l : Launch} (hst : l.stackTraces = false) {G : GG} {M : MC} {b9 Ln : Nat} {xs : Nat → Int32} (hX : HX M G b9 Ln xs) (X : CX M G cL_law 9 RL room_1) (hl0 : M.2.1 = l) {Q : State → Prop} {kc ks : Nat} {s9 : ((Int32) ⊕ ((Unit) ⊕ Int32))} {g1 : AH}  {a1 : Nat} {a2 : Nat} {a3 : Nat} {a4 : Int32} {Kc Ks : Nat} (hkc : kc + 3 ≤ Kc ∧ Kc ≤ 601024) (hks : ks + 18 ≤ Ks ∧ Ks ≤ 7293034) (hc : ∀ s1, s9 = .inl s1 → WW M G 9 Q (kc + 3) (ks + 18) g1 23 [(0, .ref b9), (1, .ref a1), (2, .ref a2), (3, .ref a3), (4, .int s1)] []) (hx : ∀ t, s9 = .inr t → Sum.elim (fun t1 => WW M G 9 Q Kc Ks g1 2698 [] []) (fun t2 : Int32 => t2 = 1) t) {g : AH} (E : l_law_j433_23 Ln xs a1 a2 a3 a4 g = some (s9, g1)) : WW M G 9 Q kc ks g 433 [(0, .ref b9), (1, .ref a1), (2, .ref a2), (3, .ref a3), (4, .int a4)] [] := by
  unfold l_law_j433_23 at E
  refine r_aload_n X 1 dL_law_433 rfl rfl ?_
  obtain ⟨u4, e5, E⟩ := gb_some E
  obtain ⟨r1, g2, e3, E⟩ := cb_some E
  refine r_callV0 X hl0 (ci := 8) dL_law_434 y_X8_runScript m_L_143 rfl rfl e5 (t_x8_runScript (l := l) (G := G) e3) rfl rfl (Nat.le_of_ble_eq_true rfl) (by decide) ?_
  refine r_aload_n X 2 dL_law_437 rfl rfl ?_
  obtain ⟨u9, e10, E⟩ := gb_some E
  obtain ⟨r6, g7, e8, E⟩ := cb_some E
  refine r_callV0 X hl0 (ci := 9) dL_law_438 y_X9_runScript m_L_146 rfl rfl e10 (t_x9_runScript (l := l) (G := G) e8) rfl rfl (Nat.le_of_ble_eq_true rfl) (by decide) ?_
  refine r_icmp_eq X 2692 dL_law_441 (by decide) (fun c11 => ?_) (fun c11 => ?_)
  · rw [if_pos c11] at E
    refine r_iinc X (v := (a4 + 3)) (L1 := [(4, .int (a4 + 3)), (0, .ref b9), (1, .ref a1), (2, .ref a2), (3, .ref a3)]) dL_law_2692 rfl rfl (by decide) rfl ?_
    refine r_goto X 23 dL_law_2695 (by decide) ?_
    cases E
    exact r_widen X ⟨by first | exact Nat.le_add_right _ _ | exact Nat.add_le_add_left (by decide) _, Nat.le_trans hkc.1 hkc.2⟩ ⟨by first | exact Nat.le_add_right _ _ | exact Nat.add_le_add_left (by decide) _, Nat.le_trans hks.1 hks.2⟩ <| r_pick (by rfl : lpick [(4, .int (a4 + 3)), (0, .ref b9), (1, .ref a1), (2, .ref a2), (3, .ref a3)] [1, 2, 3, 4, 0] = _) (hc _ rfl)
  · rw [if_neg c11] at E
    refine r_iconst X (v := 0) dL_law_444 (by decide) ?_
    cases E
    exact absurd (show (0 : Int32) = 1 from hx _ rfl) (by decide)
set_option maxHeartbeats 4000000 in
set_option maxRecDepth 100000 in
theorem t_l_law_j446_23 {l : Launch} (hst : l.stackTraces = false) {G : GG} {M : MC} {b9 Ln : Nat} {xs : Nat → Int32} (hX : HX M G b9 Ln xs) (X : CX M G cL_law 9 RL room_1) (hl0 : M.2.1 = l) {Q : State → Prop} {kc ks : Nat} {s9 : ((Int32) ⊕ ((Unit) ⊕ Int32))} {g1 : AH}  {a1 : Nat} {a2 : Nat} {a3 : Nat} {a4 : Int32} {Kc Ks : Nat} (hkc : kc + 3 ≤ Kc ∧ Kc ≤ 601024) (hks : ks + 18 ≤ Ks ∧ Ks ≤ 7293034) (hc : ∀ s1, s9 = .inl s1 → WW M G 9 Q (kc + 3) (ks + 18) g1 23 [(0, .ref b9), (1, .ref a1), (2, .ref a2), (3, .ref a3), (4, .int s1)] []) (hx : ∀ t, s9 = .inr t → Sum.elim (fun t1 => WW M G 9 Q Kc Ks g1 2698 [] []) (fun t2 : Int32 => t2 = 1) t) {g : AH} (E : l_law_j446_23 Ln xs a1 a2 a3 a4 g = some (s9, g1)) : WW M G 9 Q kc ks g 446 [(0, .ref b9), (1, .ref a1), (2, .ref a2), (3, .ref a3), (4, .int a4)] [] := by
  unfold l_law_j446_23 at E
  refine r_aload_n X 1 dL_law_446 rfl rfl ?_
  obtain ⟨u4, e5, E⟩ := gb_some E
  obtain ⟨r1, g2, e3, E⟩ := cb_some E
  refine r_callV0 X hl0 (ci := 8) dL_law_447 y_X8_errorCode m_L_147 rfl rfl e5 (t_x8_errorCode (l := l) (G := G) e3) rfl rfl (Nat.le_of_ble_eq_true rfl) (by decide) ?_
  refine r_aload_n X 2 dL_law_450 rfl rfl ?_
  obtain ⟨u9, e10, E⟩ := gb_some E
  obtain ⟨r6, g7, e8, E⟩ := cb_some E
  refine r_callV0 X hl0 (ci := 9) dL_law_451 y_X9_errorCode m_L_150 rfl rfl e10 (t_x9_errorCode (l := l) (G := G) e8) rfl rfl (Nat.le_of_ble_eq_true rfl) (by decide) ?_
  refine r_icmp_eq X 2692 dL_law_454 (by decide) (fun c11 => ?_) (fun c11 => ?_)
  · rw [if_pos c11] at E
    refine r_iinc X (v := (a4 + 3)) (L1 := [(4, .int (a4 + 3)), (0, .ref b9), (1, .ref a1), (2, .ref a2), (3, .ref a3)]) dL_law_2692 rfl rfl (by decide) rfl ?_
    refine r_goto X 23 dL_law_2695 (by decide) ?_
    cases E
    exact r_widen X ⟨by first | exact Nat.le_add_right _ _ | exact Nat.add_le_add_left (by decide) _, Nat.le_trans hkc.1 hkc.2⟩ ⟨by first | exact Nat.le_add_right _ _ | exact Nat.add_le_add_left (by decide) _, Nat.le_trans hks.1 hks.2⟩ <| r_pick (by rfl : lpick [(4, .int (a4 + 3)), (0, .ref b9), (1, .ref a1), (2, .ref a2), (3, .ref a3)] [1, 2, 3, 4, 0] = _) (hc _ rfl)
  · rw [if_neg c11] at E
    refine r_iconst X (v := 0) dL_law_457 (by decide) ?_
    cases E
    exact absurd (show (0 : Int32) = 1 from hx _ rfl) (by decide)
set_option maxHeartbeats 4000000 in
set_option maxRecDepth 100000 in
theorem t_l_law_j459_23 {l : Launch} (hst : l.stackTraces = false) {G : GG} {M : MC} {b9 Ln : Nat} {xs : Nat → Int32} (hX : HX M G b9 Ln xs) (X : CX M G cL_law 9 RL room_1) (hl0 : M.2.1 = l) {Q : State → Prop} {kc ks : Nat} {s9 : ((Int32) ⊕ ((Unit) ⊕ Int32))} {g1 : AH}  {a1 : Nat} {a2 : Nat} {a3 : Nat} {a4 : Int32} {Kc Ks : Nat} (hkc : kc + 3 ≤ Kc ∧ Kc ≤ 601024) (hks : ks + 18 ≤ Ks ∧ Ks ≤ 7293034) (hc : ∀ s1, s9 = .inl s1 → WW M G 9 Q (kc + 3) (ks + 18) g1 23 [(0, .ref b9), (1, .ref a1), (2, .ref a2), (3, .ref a3), (4, .int s1)] []) (hx : ∀ t, s9 = .inr t → Sum.elim (fun t1 => WW M G 9 Q Kc Ks g1 2698 [] []) (fun t2 : Int32 => t2 = 1) t) {g : AH} (E : l_law_j459_23 Ln xs a1 a2 a3 a4 g = some (s9, g1)) : WW M G 9 Q kc ks g 459 [(0, .ref b9), (1, .ref a1), (2, .ref a2), (3, .ref a3), (4, .int a4)] [] := by
  unfold l_law_j459_23 at E
  refine r_aload_n X 1 dL_law_459 rfl rfl ?_
  obtain ⟨u4, e5, E⟩ := gb_some E
  obtain ⟨r1, g2, e3, E⟩ := cb_some E
  refine r_callV0 X hl0 (ci := 8) dL_law_460 y_X8_errorPosition m_L_151 rfl rfl e5 (t_x8_errorPosition (l := l) (G := G) e3) rfl rfl (Nat.le_of_ble_eq_true rfl) (by decide) ?_
  refine r_aload_n X 2 dL_law_463 rfl rfl ?_
  obtain ⟨u9, e10, E⟩ := gb_some E
  obtain ⟨r6, g7, e8, E⟩ := cb_some E
  refine r_callV0 X hl0 (ci := 9) dL_law_464 y_X9_errorPosition m_L_154 rfl rfl e10 (t_x9_errorPosition (l := l) (G := G) e8) rfl rfl (Nat.le_of_ble_eq_true rfl) (by decide) ?_
  refine r_icmp_eq X 2692 dL_law_467 (by decide) (fun c11 => ?_) (fun c11 => ?_)
  · rw [if_pos c11] at E
    refine r_iinc X (v := (a4 + 3)) (L1 := [(4, .int (a4 + 3)), (0, .ref b9), (1, .ref a1), (2, .ref a2), (3, .ref a3)]) dL_law_2692 rfl rfl (by decide) rfl ?_
    refine r_goto X 23 dL_law_2695 (by decide) ?_
    cases E
    exact r_widen X ⟨by first | exact Nat.le_add_right _ _ | exact Nat.add_le_add_left (by decide) _, Nat.le_trans hkc.1 hkc.2⟩ ⟨by first | exact Nat.le_add_right _ _ | exact Nat.add_le_add_left (by decide) _, Nat.le_trans hks.1 hks.2⟩ <| r_pick (by rfl : lpick [(4, .int (a4 + 3)), (0, .ref b9), (1, .ref a1), (2, .ref a2), (3, .ref a3)] [1, 2, 3, 4, 0] = _) (hc _ rfl)
  · rw [if_neg c11] at E
    refine r_iconst X (v := 0) dL_law_470 (by decide) ?_
    cases E
    exact absurd (show (0 : Int32) = 1 from hx _ rfl) (by decide)
set_option maxHeartbeats 4000000 in
set_option maxRecDepth 100000 in
theorem t_l_law_j472_23 {l : Launch} (hst : l.stackTraces = false) {G : GG} {M : MC} {b9 Ln : Nat} {xs : Nat → Int32} (hX : HX M G b9 Ln xs) (X : CX M G cL_law 9 RL room_1) (hl0 : M.2.1 = l) {Q : State → Prop} {kc ks : Nat} {s9 : ((Int32) ⊕ ((Unit) ⊕ Int32))} {g1 : AH}  {a1 : Nat} {a2 : Nat} {a3 : Nat} {a4 : Int32} {Kc Ks : Nat} (hkc : kc + 3 ≤ Kc ∧ Kc ≤ 601024) (hks : ks + 18 ≤ Ks ∧ Ks ≤ 7293034) (hc : ∀ s1, s9 = .inl s1 → WW M G 9 Q (kc + 3) (ks + 18) g1 23 [(0, .ref b9), (1, .ref a1), (2, .ref a2), (3, .ref a3), (4, .int s1)] []) (hx : ∀ t, s9 = .inr t → Sum.elim (fun t1 => WW M G 9 Q Kc Ks g1 2698 [] []) (fun t2 : Int32 => t2 = 1) t) {g : AH} (E : l_law_j472_23 Ln xs a1 a2 a3 a4 g = some (s9, g1)) : WW M G 9 Q kc ks g 472 [(0, .ref b9), (1, .ref a1), (2, .ref a2), (3, .ref a3), (4, .int a4)] [] := by
  unfold l_law_j472_23 at E
  refine r_aload_n X 1 dL_law_472 rfl rfl ?_
  obtain ⟨u4, e5, E⟩ := gb_some E
  obtain ⟨r1, g2, e3, E⟩ := cb_some E
  refine r_callV0 X hl0 (ci := 8) dL_law_473 y_X8_hour m_L_155 rfl rfl e5 (t_x8_hour (l := l) (G := G) e3) rfl rfl (Nat.le_of_ble_eq_true rfl) (by decide) ?_
  refine r_aload_n X 2 dL_law_476 rfl rfl ?_
  obtain ⟨u9, e10, E⟩ := gb_some E
  obtain ⟨r6, g7, e8, E⟩ := cb_some E
  refine r_callV0 X hl0 (ci := 9) dL_law_477 y_X9_hour m_L_158 rfl rfl e10 (t_x9_hour (l := l) (G := G) e8) rfl rfl (Nat.le_of_ble_eq_true rfl) (by decide) ?_
  refine r_icmp_eq X 2692 dL_law_480 (by decide) (fun c11 => ?_) (fun c11 => ?_)
  · rw [if_pos c11] at E
    refine r_iinc X (v := (a4 + 3)) (L1 := [(4, .int (a4 + 3)), (0, .ref b9), (1, .ref a1), (2, .ref a2), (3, .ref a3)]) dL_law_2692 rfl rfl (by decide) rfl ?_
    refine r_goto X 23 dL_law_2695 (by decide) ?_
    cases E
    exact r_widen X ⟨by first | exact Nat.le_add_right _ _ | exact Nat.add_le_add_left (by decide) _, Nat.le_trans hkc.1 hkc.2⟩ ⟨by first | exact Nat.le_add_right _ _ | exact Nat.add_le_add_left (by decide) _, Nat.le_trans hks.1 hks.2⟩ <| r_pick (by rfl : lpick [(4, .int (a4 + 3)), (0, .ref b9), (1, .ref a1), (2, .ref a2), (3, .ref a3)] [1, 2, 3, 4, 0] = _) (hc _ rfl)
  · rw [if_neg c11] at E
    refine r_iconst X (v := 0) dL_law_483 (by decide) ?_
    cases E
    exact absurd (show (0 : Int32) = 1 from hx _ rfl) (by decide)
set_option maxHeartbeats 4000000 in
set_option maxRecDepth 100000 in
theorem t_l_law_j485_23 {l : Launch} (hst : l.stackTraces = false) {G : GG} {M : MC} {b9 Ln : Nat} {xs : Nat → Int32} (hX : HX M G b9 Ln xs) (X : CX M G cL_law 9 RL room_1) (hl0 : M.2.1 = l) {Q : State → Prop} {kc ks : Nat} {s9 : ((Int32) ⊕ ((Unit) ⊕ Int32))} {g1 : AH}  {a1 : Nat} {a2 : Nat} {a3 : Nat} {a4 : Int32} {Kc Ks : Nat} (hkc : kc + 3 ≤ Kc ∧ Kc ≤ 601024) (hks : ks + 18 ≤ Ks ∧ Ks ≤ 7293034) (hc : ∀ s1, s9 = .inl s1 → WW M G 9 Q (kc + 3) (ks + 18) g1 23 [(0, .ref b9), (1, .ref a1), (2, .ref a2), (3, .ref a3), (4, .int s1)] []) (hx : ∀ t, s9 = .inr t → Sum.elim (fun t1 => WW M G 9 Q Kc Ks g1 2698 [] []) (fun t2 : Int32 => t2 = 1) t) {g : AH} (E : l_law_j485_23 Ln xs a1 a2 a3 a4 g = some (s9, g1)) : WW M G 9 Q kc ks g 485 [(0, .ref b9), (1, .ref a1), (2, .ref a2), (3, .ref a3), (4, .int a4)] [] := by
  unfold l_law_j485_23 at E
  refine r_aload_n X 1 dL_law_485 rfl rfl ?_
  obtain ⟨u4, e5, E⟩ := gb_some E
  obtain ⟨r1, g2, e3, E⟩ := cb_some E
  refine r_callV0 X hl0 (ci := 8) dL_law_486 y_X8_hoursUntilDawn m_L_159 rfl rfl e5 (t_x8_hoursUntilDawn (l := l) (G := G) e3) rfl rfl (Nat.le_of_ble_eq_true rfl) (by decide) ?_
  refine r_aload_n X 2 dL_law_489 rfl rfl ?_
  obtain ⟨u9, e10, E⟩ := gb_some E
  obtain ⟨r6, g7, e8, E⟩ := cb_some E
  refine r_callV0 X hl0 (ci := 9) dL_law_490 y_X9_hoursUntilDawn m_L_162 rfl rfl e10 (t_x9_hoursUntilDawn (l := l) (G := G) e8) rfl rfl (Nat.le_of_ble_eq_true rfl) (by decide) ?_
  refine r_icmp_eq X 2692 dL_law_493 (by decide) (fun c11 => ?_) (fun c11 => ?_)
  · rw [if_pos c11] at E
    refine r_iinc X (v := (a4 + 3)) (L1 := [(4, .int (a4 + 3)), (0, .ref b9), (1, .ref a1), (2, .ref a2), (3, .ref a3)]) dL_law_2692 rfl rfl (by decide) rfl ?_
    refine r_goto X 23 dL_law_2695 (by decide) ?_
    cases E
    exact r_widen X ⟨by first | exact Nat.le_add_right _ _ | exact Nat.add_le_add_left (by decide) _, Nat.le_trans hkc.1 hkc.2⟩ ⟨by first | exact Nat.le_add_right _ _ | exact Nat.add_le_add_left (by decide) _, Nat.le_trans hks.1 hks.2⟩ <| r_pick (by rfl : lpick [(4, .int (a4 + 3)), (0, .ref b9), (1, .ref a1), (2, .ref a2), (3, .ref a3)] [1, 2, 3, 4, 0] = _) (hc _ rfl)
  · rw [if_neg c11] at E
    refine r_iconst X (v := 0) dL_law_496 (by decide) ?_
    cases E
    exact absurd (show (0 : Int32) = 1 from hx _ rfl) (by decide)
set_option maxHeartbeats 4000000 in
set_option maxRecDepth 100000 in
theorem t_l_law_j498_23 {l : Launch} (hst : l.stackTraces = false) {G : GG} {M : MC} {b9 Ln : Nat} {xs : Nat → Int32} (hX : HX M G b9 Ln xs) (X : CX M G cL_law 9 RL room_1) (hl0 : M.2.1 = l) {Q : State → Prop} {kc ks : Nat} {s9 : ((Int32) ⊕ ((Unit) ⊕ Int32))} {g1 : AH}  {a1 : Nat} {a2 : Nat} {a3 : Nat} {a4 : Int32} {Kc Ks : Nat} (hkc : kc + 3 ≤ Kc ∧ Kc ≤ 601024) (hks : ks + 18 ≤ Ks ∧ Ks ≤ 7293034) (hc : ∀ s1, s9 = .inl s1 → WW M G 9 Q (kc + 3) (ks + 18) g1 23 [(0, .ref b9), (1, .ref a1), (2, .ref a2), (3, .ref a3), (4, .int s1)] []) (hx : ∀ t, s9 = .inr t → Sum.elim (fun t1 => WW M G 9 Q Kc Ks g1 2698 [] []) (fun t2 : Int32 => t2 = 1) t) {g : AH} (E : l_law_j498_23 Ln xs a1 a2 a3 a4 g = some (s9, g1)) : WW M G 9 Q kc ks g 498 [(0, .ref b9), (1, .ref a1), (2, .ref a2), (3, .ref a3), (4, .int a4)] [] := by
  unfold l_law_j498_23 at E
  refine r_aload_n X 1 dL_law_498 rfl rfl ?_
  obtain ⟨u4, e5, E⟩ := gb_some E
  obtain ⟨r1, g2, e3, E⟩ := cb_some E
  refine r_callV0 X hl0 (ci := 8) dL_law_499 y_X8_logs m_L_163 rfl rfl e5 (t_x8_logs (l := l) (G := G) e3) rfl rfl (Nat.le_of_ble_eq_true rfl) (by decide) ?_
  refine r_aload_n X 2 dL_law_502 rfl rfl ?_
  obtain ⟨u9, e10, E⟩ := gb_some E
  obtain ⟨r6, g7, e8, E⟩ := cb_some E
  refine r_callV0 X hl0 (ci := 9) dL_law_503 y_X9_logs m_L_166 rfl rfl e10 (t_x9_logs (l := l) (G := G) e8) rfl rfl (Nat.le_of_ble_eq_true rfl) (by decide) ?_
  refine r_icmp_eq X 2692 dL_law_506 (by decide) (fun c11 => ?_) (fun c11 => ?_)
  · rw [if_pos c11] at E
    refine r_iinc X (v := (a4 + 3)) (L1 := [(4, .int (a4 + 3)), (0, .ref b9), (1, .ref a1), (2, .ref a2), (3, .ref a3)]) dL_law_2692 rfl rfl (by decide) rfl ?_
    refine r_goto X 23 dL_law_2695 (by decide) ?_
    cases E
    exact r_widen X ⟨by first | exact Nat.le_add_right _ _ | exact Nat.add_le_add_left (by decide) _, Nat.le_trans hkc.1 hkc.2⟩ ⟨by first | exact Nat.le_add_right _ _ | exact Nat.add_le_add_left (by decide) _, Nat.le_trans hks.1 hks.2⟩ <| r_pick (by rfl : lpick [(4, .int (a4 + 3)), (0, .ref b9), (1, .ref a1), (2, .ref a2), (3, .ref a3)] [1, 2, 3, 4, 0] = _) (hc _ rfl)
  · rw [if_neg c11] at E
    refine r_iconst X (v := 0) dL_law_509 (by decide) ?_
    cases E
    exact absurd (show (0 : Int32) = 1 from hx _ rfl) (by decide)
set_option maxHeartbeats 4000000 in
set_option maxRecDepth 100000 in
theorem t_l_law_j511_23 {l : Launch} (hst : l.stackTraces = false) {G : GG} {M : MC} {b9 Ln : Nat} {xs : Nat → Int32} (hX : HX M G b9 Ln xs) (X : CX M G cL_law 9 RL room_1) (hl0 : M.2.1 = l) {Q : State → Prop} {kc ks : Nat} {s9 : ((Int32) ⊕ ((Unit) ⊕ Int32))} {g1 : AH}  {a1 : Nat} {a2 : Nat} {a3 : Nat} {a4 : Int32} {Kc Ks : Nat} (hkc : kc + 3 ≤ Kc ∧ Kc ≤ 601024) (hks : ks + 18 ≤ Ks ∧ Ks ≤ 7293034) (hc : ∀ s1, s9 = .inl s1 → WW M G 9 Q (kc + 3) (ks + 18) g1 23 [(0, .ref b9), (1, .ref a1), (2, .ref a2), (3, .ref a3), (4, .int s1)] []) (hx : ∀ t, s9 = .inr t → Sum.elim (fun t1 => WW M G 9 Q Kc Ks g1 2698 [] []) (fun t2 : Int32 => t2 = 1) t) {g : AH} (E : l_law_j511_23 Ln xs a1 a2 a3 a4 g = some (s9, g1)) : WW M G 9 Q kc ks g 511 [(0, .ref b9), (1, .ref a1), (2, .ref a2), (3, .ref a3), (4, .int a4)] [] := by
  unfold l_law_j511_23 at E
  refine r_aload_n X 1 dL_law_511 rfl rfl ?_
  obtain ⟨u4, e5, E⟩ := gb_some E
  obtain ⟨r1, g2, e3, E⟩ := cb_some E
  refine r_callV0 X hl0 (ci := 8) dL_law_512 y_X8_temperature m_L_167 rfl rfl e5 (t_x8_temperature (l := l) (G := G) e3) rfl rfl (Nat.le_of_ble_eq_true rfl) (by decide) ?_
  refine r_aload_n X 2 dL_law_515 rfl rfl ?_
  obtain ⟨u9, e10, E⟩ := gb_some E
  obtain ⟨r6, g7, e8, E⟩ := cb_some E
  refine r_callV0 X hl0 (ci := 9) dL_law_516 y_X9_temperature m_L_170 rfl rfl e10 (t_x9_temperature (l := l) (G := G) e8) rfl rfl (Nat.le_of_ble_eq_true rfl) (by decide) ?_
  refine r_icmp_eq X 2692 dL_law_519 (by decide) (fun c11 => ?_) (fun c11 => ?_)
  · rw [if_pos c11] at E
    refine r_iinc X (v := (a4 + 3)) (L1 := [(4, .int (a4 + 3)), (0, .ref b9), (1, .ref a1), (2, .ref a2), (3, .ref a3)]) dL_law_2692 rfl rfl (by decide) rfl ?_
    refine r_goto X 23 dL_law_2695 (by decide) ?_
    cases E
    exact r_widen X ⟨by first | exact Nat.le_add_right _ _ | exact Nat.add_le_add_left (by decide) _, Nat.le_trans hkc.1 hkc.2⟩ ⟨by first | exact Nat.le_add_right _ _ | exact Nat.add_le_add_left (by decide) _, Nat.le_trans hks.1 hks.2⟩ <| r_pick (by rfl : lpick [(4, .int (a4 + 3)), (0, .ref b9), (1, .ref a1), (2, .ref a2), (3, .ref a3)] [1, 2, 3, 4, 0] = _) (hc _ rfl)
  · rw [if_neg c11] at E
    refine r_iconst X (v := 0) dL_law_522 (by decide) ?_
    cases E
    exact absurd (show (0 : Int32) = 1 from hx _ rfl) (by decide)
set_option maxHeartbeats 4000000 in
set_option maxRecDepth 100000 in
theorem t_l_law_j524_23 {l : Launch} (hst : l.stackTraces = false) {G : GG} {M : MC} {b9 Ln : Nat} {xs : Nat → Int32} (hX : HX M G b9 Ln xs) (X : CX M G cL_law 9 RL room_1) (hl0 : M.2.1 = l) {Q : State → Prop} {kc ks : Nat} {s9 : ((Int32) ⊕ ((Unit) ⊕ Int32))} {g1 : AH}  {a1 : Nat} {a2 : Nat} {a3 : Nat} {a4 : Int32} {Kc Ks : Nat} (hkc : kc + 3 ≤ Kc ∧ Kc ≤ 601024) (hks : ks + 18 ≤ Ks ∧ Ks ≤ 7293034) (hc : ∀ s1, s9 = .inl s1 → WW M G 9 Q (kc + 3) (ks + 18) g1 23 [(0, .ref b9), (1, .ref a1), (2, .ref a2), (3, .ref a3), (4, .int s1)] []) (hx : ∀ t, s9 = .inr t → Sum.elim (fun t1 => WW M G 9 Q Kc Ks g1 2698 [] []) (fun t2 : Int32 => t2 = 1) t) {g : AH} (E : l_law_j524_23 Ln xs a1 a2 a3 a4 g = some (s9, g1)) : WW M G 9 Q kc ks g 524 [(0, .ref b9), (1, .ref a1), (2, .ref a2), (3, .ref a3), (4, .int a4)] [] := by
  unfold l_law_j524_23 at E
  refine r_aload_n X 1 dL_law_524 rfl rfl ?_
  refine r_aload_n X 0 dL_law_525 rfl rfl ?_
  refine r_iload X dL_law_526 rfl ?_
  refine r_iconst X (v := 1) dL_law_528 (by decide) ?_
  refine r_iadd X dL_law_529 ?_
  obtain ⟨x1, e2, E⟩ := gb_some E
  refine r_sld X hX dL_law_530 e2 ?_
  refine r_aload_n X 3 dL_law_531 rfl rfl ?_
  obtain ⟨r3, g4, e5, E⟩ := cb_some E
  refine r_callW X hl0 dL_law_532 y_L_hikerIn m_L_171 (t_l_hikerIn (l := l) hst (G := G) e5) rfl rfl (Nat.le_of_ble_eq_true rfl) ⟨by decide, by show _ + 1 ≤ 601024; omega, by show _ + 6 ≤ 7293034; omega⟩ ?_
  refine r_istore X (L1 := [(5, .int r3), (0, .ref b9), (1, .ref a1), (2, .ref a2), (3, .ref a3), (4, .int a4)]) dL_law_535 (by decide) rfl ?_
  refine r_aload_n X 2 dL_law_537 rfl rfl ?_
  refine r_aload_n X 0 dL_law_538 rfl rfl ?_
  refine r_iload X dL_law_539 rfl ?_
  refine r_iconst X (v := 1) dL_law_541 (by decide) ?_
  refine r_iadd X dL_law_542 ?_
  obtain ⟨x6, e7, E⟩ := gb_some E
  refine r_sld X hX dL_law_543 e7 ?_
  obtain ⟨u11, e12, E⟩ := gb_some E
  obtain ⟨r8, g9, e10, E⟩ := cb_some E
  refine r_callV0 X hl0 (ci := 9) dL_law_544 y_X9_hikerIn m_L_173 rfl rfl e12 (t_x9_hikerIn (l := l) (G := G) e10) rfl rfl (Nat.le_of_ble_eq_true rfl) (by decide) ?_
  refine r_istore X (L1 := [(6, .int r8), (5, .int r3), (0, .ref b9), (1, .ref a1), (2, .ref a2), (3, .ref a3), (4, .int a4)]) dL_law_547 (by decide) rfl ?_
  refine r_aload_n X 2 dL_law_549 rfl rfl ?_
  obtain ⟨u16, e17, E⟩ := gb_some E
  obtain ⟨r13, g14, e15, E⟩ := cb_some E
  refine r_callV0 X hl0 (ci := 9) dL_law_550 y_X9_thrown m_L_133 rfl rfl e17 (t_x9_thrown (l := l) (G := G) e15) rfl rfl (Nat.le_of_ble_eq_true rfl) (by decide) ?_
  refine r_iload X dL_law_553 rfl ?_
  refine r_icmp_eq X 560 dL_law_555 (by decide) (fun c18 => ?_) (fun c18 => ?_)
  · rw [if_pos c18] at E
    refine r_iload X dL_law_560 rfl ?_
    refine r_if_ne X 577 dL_law_562 (by decide) (fun c19 => ?_) (fun c19 => ?_)
    · rw [if_neg c19] at E
      refine r_goto X 2692 dL_law_577 (by decide) ?_
      refine r_iinc X (v := (a4 + 3)) (L1 := [(4, .int (a4 + 3)), (6, .int r8), (5, .int r3), (0, .ref b9), (1, .ref a1), (2, .ref a2), (3, .ref a3)]) dL_law_2692 rfl rfl (by decide) rfl ?_
      refine r_goto X 23 dL_law_2695 (by decide) ?_
      cases E
      exact r_widen X ⟨by first | exact Nat.le_add_right _ _ | exact Nat.add_le_add_left (by decide) _, Nat.le_trans hkc.1 hkc.2⟩ ⟨by first | exact Nat.le_add_right _ _ | exact Nat.add_le_add_left (by decide) _, Nat.le_trans hks.1 hks.2⟩ <| r_pick (by rfl : lpick [(4, .int (a4 + 3)), (6, .int r8), (5, .int r3), (0, .ref b9), (1, .ref a1), (2, .ref a2), (3, .ref a3)] [3, 4, 5, 6, 0] = _) (hc _ rfl)
    · rw [if_pos c19] at E
      refine r_aload_n X 3 dL_law_565 rfl rfl ?_
      refine r_iconst X (v := 0) dL_law_566 (by decide) ?_
      obtain ⟨x20, e21, E⟩ := gb_some E
      refine r_lald X dL_law_567 e21 ?_
      refine r_iload X dL_law_568 rfl ?_
      refine r_i2l X dL_law_570 ?_
      refine r_lcmp X dL_law_571 ?_
      refine r_if_eq X 577 dL_law_572 (by decide) (fun c22 => ?_) (fun c22 => ?_)
      · rw [if_pos c22] at E
        refine r_goto X 2692 dL_law_577 (by decide) ?_
        refine r_iinc X (v := (a4 + 3)) (L1 := [(4, .int (a4 + 3)), (6, .int r8), (5, .int r3), (0, .ref b9), (1, .ref a1), (2, .ref a2), (3, .ref a3)]) dL_law_2692 rfl rfl (by decide) rfl ?_
        refine r_goto X 23 dL_law_2695 (by decide) ?_
        cases E
        exact r_widen X ⟨by first | exact Nat.le_add_right _ _ | exact Nat.add_le_add_left (by decide) _, Nat.le_trans hkc.1 hkc.2⟩ ⟨by first | exact Nat.le_add_right _ _ | exact Nat.add_le_add_left (by decide) _, Nat.le_trans hks.1 hks.2⟩ <| r_pick (by rfl : lpick [(4, .int (a4 + 3)), (6, .int r8), (5, .int r3), (0, .ref b9), (1, .ref a1), (2, .ref a2), (3, .ref a3)] [3, 4, 5, 6, 0] = _) (hc _ rfl)
      · rw [if_neg c22] at E
        refine r_iconst X (v := 0) dL_law_575 (by decide) ?_
        cases E
        exact absurd (show (0 : Int32) = 1 from hx _ rfl) (by decide)
  · rw [if_neg c18] at E
    refine r_iconst X (v := 0) dL_law_558 (by decide) ?_
    cases E
    exact absurd (show (0 : Int32) = 1 from hx _ rfl) (by decide)
set_option maxHeartbeats 4000000 in
set_option maxRecDepth 100000 in
theorem t_l_law_j580_23 {l : Launch} (hst : l.stackTraces = false) {G : GG} {M : MC} {b9 Ln : Nat} {xs : Nat → Int32} (hX : HX M G b9 Ln xs) (X : CX M G cL_law 9 RL room_1) (hl0 : M.2.1 = l) {Q : State → Prop} {kc ks : Nat} {s9 : ((Int32) ⊕ ((Unit) ⊕ Int32))} {g1 : AH}  {a1 : Nat} {a2 : Nat} {a3 : Nat} {a4 : Int32} {Kc Ks : Nat} (hkc : kc + 3 ≤ Kc ∧ Kc ≤ 601024) (hks : ks + 18 ≤ Ks ∧ Ks ≤ 7293034) (hc : ∀ s1, s9 = .inl s1 → WW M G 9 Q (kc + 3) (ks + 18) g1 23 [(0, .ref b9), (1, .ref a1), (2, .ref a2), (3, .ref a3), (4, .int s1)] []) (hx : ∀ t, s9 = .inr t → Sum.elim (fun t1 => WW M G 9 Q Kc Ks g1 2698 [] []) (fun t2 : Int32 => t2 = 1) t) {g : AH} (E : l_law_j580_23 Ln xs a1 a2 a3 a4 g = some (s9, g1)) : WW M G 9 Q kc ks g 580 [(0, .ref b9), (1, .ref a1), (2, .ref a2), (3, .ref a3), (4, .int a4)] [] := by
  unfold l_law_j580_23 at E
  refine r_aload_n X 1 dL_law_580 rfl rfl ?_
  refine r_aload_n X 0 dL_law_581 rfl rfl ?_
  refine r_iload X dL_law_582 rfl ?_
  refine r_iconst X (v := 1) dL_law_584 (by decide) ?_
  refine r_iadd X dL_law_585 ?_
  obtain ⟨x1, e2, E⟩ := gb_some E
  refine r_sld X hX dL_law_586 e2 ?_
  refine r_aload_n X 3 dL_law_587 rfl rfl ?_
  obtain ⟨r3, g4, e5, E⟩ := cb_some E
  refine r_callW X hl0 dL_law_588 y_L_noiseIn m_L_174 (t_l_noiseIn (l := l) hst (G := G) e5) rfl rfl (Nat.le_of_ble_eq_true rfl) ⟨by decide, by show _ + 1 ≤ 601024; omega, by show _ + 6 ≤ 7293034; omega⟩ ?_
  refine r_istore X (L1 := [(5, .int r3), (0, .ref b9), (1, .ref a1), (2, .ref a2), (3, .ref a3), (4, .int a4)]) dL_law_591 (by decide) rfl ?_
  refine r_aload_n X 2 dL_law_593 rfl rfl ?_
  refine r_aload_n X 0 dL_law_594 rfl rfl ?_
  refine r_iload X dL_law_595 rfl ?_
  refine r_iconst X (v := 1) dL_law_597 (by decide) ?_
  refine r_iadd X dL_law_598 ?_
  obtain ⟨x6, e7, E⟩ := gb_some E
  refine r_sld X hX dL_law_599 e7 ?_
  obtain ⟨u11, e12, E⟩ := gb_some E
  obtain ⟨r8, g9, e10, E⟩ := cb_some E
  refine r_callV0 X hl0 (ci := 9) dL_law_600 y_X9_noiseIn m_L_176 rfl rfl e12 (t_x9_noiseIn (l := l) (G := G) e10) rfl rfl (Nat.le_of_ble_eq_true rfl) (by decide) ?_
  refine r_istore X (L1 := [(6, .int r8), (5, .int r3), (0, .ref b9), (1, .ref a1), (2, .ref a2), (3, .ref a3), (4, .int a4)]) dL_law_603 (by decide) rfl ?_
  refine r_aload_n X 2 dL_law_605 rfl rfl ?_
  obtain ⟨u16, e17, E⟩ := gb_some E
  obtain ⟨r13, g14, e15, E⟩ := cb_some E
  refine r_callV0 X hl0 (ci := 9) dL_law_606 y_X9_thrown m_L_133 rfl rfl e17 (t_x9_thrown (l := l) (G := G) e15) rfl rfl (Nat.le_of_ble_eq_true rfl) (by decide) ?_
  refine r_iload X dL_law_609 rfl ?_
  refine r_icmp_eq X 616 dL_law_611 (by decide) (fun c18 => ?_) (fun c18 => ?_)
  · rw [if_pos c18] at E
    refine r_iload X dL_law_616 rfl ?_
    refine r_if_ne X 633 dL_law_618 (by decide) (fun c19 => ?_) (fun c19 => ?_)
    · rw [if_neg c19] at E
      refine r_goto X 2692 dL_law_633 (by decide) ?_
      refine r_iinc X (v := (a4 + 3)) (L1 := [(4, .int (a4 + 3)), (6, .int r8), (5, .int r3), (0, .ref b9), (1, .ref a1), (2, .ref a2), (3, .ref a3)]) dL_law_2692 rfl rfl (by decide) rfl ?_
      refine r_goto X 23 dL_law_2695 (by decide) ?_
      cases E
      exact r_widen X ⟨by first | exact Nat.le_add_right _ _ | exact Nat.add_le_add_left (by decide) _, Nat.le_trans hkc.1 hkc.2⟩ ⟨by first | exact Nat.le_add_right _ _ | exact Nat.add_le_add_left (by decide) _, Nat.le_trans hks.1 hks.2⟩ <| r_pick (by rfl : lpick [(4, .int (a4 + 3)), (6, .int r8), (5, .int r3), (0, .ref b9), (1, .ref a1), (2, .ref a2), (3, .ref a3)] [3, 4, 5, 6, 0] = _) (hc _ rfl)
    · rw [if_pos c19] at E
      refine r_aload_n X 3 dL_law_621 rfl rfl ?_
      refine r_iconst X (v := 0) dL_law_622 (by decide) ?_
      obtain ⟨x20, e21, E⟩ := gb_some E
      refine r_lald X dL_law_623 e21 ?_
      refine r_iload X dL_law_624 rfl ?_
      refine r_i2l X dL_law_626 ?_
      refine r_lcmp X dL_law_627 ?_
      refine r_if_eq X 633 dL_law_628 (by decide) (fun c22 => ?_) (fun c22 => ?_)
      · rw [if_pos c22] at E
        refine r_goto X 2692 dL_law_633 (by decide) ?_
        refine r_iinc X (v := (a4 + 3)) (L1 := [(4, .int (a4 + 3)), (6, .int r8), (5, .int r3), (0, .ref b9), (1, .ref a1), (2, .ref a2), (3, .ref a3)]) dL_law_2692 rfl rfl (by decide) rfl ?_
        refine r_goto X 23 dL_law_2695 (by decide) ?_
        cases E
        exact r_widen X ⟨by first | exact Nat.le_add_right _ _ | exact Nat.add_le_add_left (by decide) _, Nat.le_trans hkc.1 hkc.2⟩ ⟨by first | exact Nat.le_add_right _ _ | exact Nat.add_le_add_left (by decide) _, Nat.le_trans hks.1 hks.2⟩ <| r_pick (by rfl : lpick [(4, .int (a4 + 3)), (6, .int r8), (5, .int r3), (0, .ref b9), (1, .ref a1), (2, .ref a2), (3, .ref a3)] [3, 4, 5, 6, 0] = _) (hc _ rfl)
      · rw [if_neg c22] at E
        refine r_iconst X (v := 0) dL_law_631 (by decide) ?_
        cases E
        exact absurd (show (0 : Int32) = 1 from hx _ rfl) (by decide)
  · rw [if_neg c18] at E
    refine r_iconst X (v := 0) dL_law_614 (by decide) ?_
    cases E
    exact absurd (show (0 : Int32) = 1 from hx _ rfl) (by decide)
set_option maxHeartbeats 4000000 in
set_option maxRecDepth 100000 in
theorem t_l_law_j636_23 {l : Launch} (hst : l.stackTraces = false) {G : GG} {M : MC} {b9 Ln : Nat} {xs : Nat → Int32} (hX : HX M G b9 Ln xs) (X : CX M G cL_law 9 RL room_1) (hl0 : M.2.1 = l) {Q : State → Prop} {kc ks : Nat} {s9 : ((Int32) ⊕ ((Unit) ⊕ Int32))} {g1 : AH}  {a1 : Nat} {a2 : Nat} {a3 : Nat} {a4 : Int32} {Kc Ks : Nat} (hkc : kc + 3 ≤ Kc ∧ Kc ≤ 601024) (hks : ks + 18 ≤ Ks ∧ Ks ≤ 7293034) (hc : ∀ s1, s9 = .inl s1 → WW M G 9 Q (kc + 3) (ks + 18) g1 23 [(0, .ref b9), (1, .ref a1), (2, .ref a2), (3, .ref a3), (4, .int s1)] []) (hx : ∀ t, s9 = .inr t → Sum.elim (fun t1 => WW M G 9 Q Kc Ks g1 2698 [] []) (fun t2 : Int32 => t2 = 1) t) {g : AH} (E : l_law_j636_23 Ln xs a1 a2 a3 a4 g = some (s9, g1)) : WW M G 9 Q kc ks g 636 [(0, .ref b9), (1, .ref a1), (2, .ref a2), (3, .ref a3), (4, .int a4)] [] := by
  unfold l_law_j636_23 at E
  refine r_aload_n X 1 dL_law_636 rfl rfl ?_
  obtain ⟨u4, e5, E⟩ := gb_some E
  obtain ⟨r1, g2, e3, E⟩ := cb_some E
  refine r_callV0 X hl0 (ci := 8) dL_law_637 y_X8_quietestBunk m_L_177 rfl rfl e5 (t_x8_quietestBunk (l := l) (G := G) e3) rfl rfl (Nat.le_of_ble_eq_true rfl) (by decide) ?_
  refine r_aload_n X 2 dL_law_640 rfl rfl ?_
  obtain ⟨u9, e10, E⟩ := gb_some E
  obtain ⟨r6, g7, e8, E⟩ := cb_some E
  refine r_callV0 X hl0 (ci := 9) dL_law_641 y_X9_quietestBunk m_L_180 rfl rfl e10 (t_x9_quietestBunk (l := l) (G := G) e8) rfl rfl (Nat.le_of_ble_eq_true rfl) (by decide) ?_
  refine r_icmp_eq X 2692 dL_law_644 (by decide) (fun c11 => ?_) (fun c11 => ?_)
  · rw [if_pos c11] at E
    refine r_iinc X (v := (a4 + 3)) (L1 := [(4, .int (a4 + 3)), (0, .ref b9), (1, .ref a1), (2, .ref a2), (3, .ref a3)]) dL_law_2692 rfl rfl (by decide) rfl ?_
    refine r_goto X 23 dL_law_2695 (by decide) ?_
    cases E
    exact r_widen X ⟨by first | exact Nat.le_add_right _ _ | exact Nat.add_le_add_left (by decide) _, Nat.le_trans hkc.1 hkc.2⟩ ⟨by first | exact Nat.le_add_right _ _ | exact Nat.add_le_add_left (by decide) _, Nat.le_trans hks.1 hks.2⟩ <| r_pick (by rfl : lpick [(4, .int (a4 + 3)), (0, .ref b9), (1, .ref a1), (2, .ref a2), (3, .ref a3)] [1, 2, 3, 4, 0] = _) (hc _ rfl)
  · rw [if_neg c11] at E
    refine r_iconst X (v := 0) dL_law_647 (by decide) ?_
    cases E
    exact absurd (show (0 : Int32) = 1 from hx _ rfl) (by decide)
set_option maxHeartbeats 4000000 in
set_option maxRecDepth 100000 in
theorem t_l_law_j649_23 {l : Launch} (hst : l.stackTraces = false) {G : GG} {M : MC} {b9 Ln : Nat} {xs : Nat → Int32} (hX : HX M G b9 Ln xs) (X : CX M G cL_law 9 RL room_1) (hl0 : M.2.1 = l) {Q : State → Prop} {kc ks : Nat} {s9 : ((Int32) ⊕ ((Unit) ⊕ Int32))} {g1 : AH}  {a1 : Nat} {a2 : Nat} {a3 : Nat} {a4 : Int32} {Kc Ks : Nat} (hkc : kc + 3 ≤ Kc ∧ Kc ≤ 601024) (hks : ks + 18 ≤ Ks ∧ Ks ≤ 7293034) (hc : ∀ s1, s9 = .inl s1 → WW M G 9 Q (kc + 3) (ks + 18) g1 23 [(0, .ref b9), (1, .ref a1), (2, .ref a2), (3, .ref a3), (4, .int s1)] []) (hx : ∀ t, s9 = .inr t → Sum.elim (fun t1 => WW M G 9 Q Kc Ks g1 2698 [] []) (fun t2 : Int32 => t2 = 1) t) {g : AH} (E : l_law_j649_23 Ln xs a1 a2 a3 a4 g = some (s9, g1)) : WW M G 9 Q kc ks g 649 [(0, .ref b9), (1, .ref a1), (2, .ref a2), (3, .ref a3), (4, .int a4)] [] := by
  unfold l_law_j649_23 at E
  refine r_aload_n X 1 dL_law_649 rfl rfl ?_
  obtain ⟨u4, e5, E⟩ := gb_some E
  obtain ⟨r1, g2, e3, E⟩ := cb_some E
  refine r_callV0 X hl0 (ci := 8) dL_law_650 y_X8_longestRow m_L_181 rfl rfl e5 (t_x8_longestRow (l := l) (G := G) e3) rfl rfl (Nat.le_of_ble_eq_true rfl) (by decide) ?_
  refine r_aload_n X 2 dL_law_653 rfl rfl ?_
  obtain ⟨u9, e10, E⟩ := gb_some E
  obtain ⟨r6, g7, e8, E⟩ := cb_some E
  refine r_callV0 X hl0 (ci := 9) dL_law_654 y_X9_longestRow m_L_184 rfl rfl e10 (t_x9_longestRow (l := l) (G := G) e8) rfl rfl (Nat.le_of_ble_eq_true rfl) (by decide) ?_
  refine r_icmp_eq X 2692 dL_law_657 (by decide) (fun c11 => ?_) (fun c11 => ?_)
  · rw [if_pos c11] at E
    refine r_iinc X (v := (a4 + 3)) (L1 := [(4, .int (a4 + 3)), (0, .ref b9), (1, .ref a1), (2, .ref a2), (3, .ref a3)]) dL_law_2692 rfl rfl (by decide) rfl ?_
    refine r_goto X 23 dL_law_2695 (by decide) ?_
    cases E
    exact r_widen X ⟨by first | exact Nat.le_add_right _ _ | exact Nat.add_le_add_left (by decide) _, Nat.le_trans hkc.1 hkc.2⟩ ⟨by first | exact Nat.le_add_right _ _ | exact Nat.add_le_add_left (by decide) _, Nat.le_trans hks.1 hks.2⟩ <| r_pick (by rfl : lpick [(4, .int (a4 + 3)), (0, .ref b9), (1, .ref a1), (2, .ref a2), (3, .ref a3)] [1, 2, 3, 4, 0] = _) (hc _ rfl)
  · rw [if_neg c11] at E
    refine r_iconst X (v := 0) dL_law_660 (by decide) ?_
    cases E
    exact absurd (show (0 : Int32) = 1 from hx _ rfl) (by decide)
set_option maxHeartbeats 4000000 in
set_option maxRecDepth 100000 in
theorem t_l_law_j662_23 {l : Launch} (hst : l.stackTraces = false) {G : GG} {M : MC} {b9 Ln : Nat} {xs : Nat → Int32} (hX : HX M G b9 Ln xs) (X : CX M G cL_law 9 RL room_1) (hl0 : M.2.1 = l) {Q : State → Prop} {kc ks : Nat} {s9 : ((Int32) ⊕ ((Unit) ⊕ Int32))} {g1 : AH}  {a1 : Nat} {a2 : Nat} {a3 : Nat} {a4 : Int32} {Kc Ks : Nat} (hkc : kc + 3 ≤ Kc ∧ Kc ≤ 601024) (hks : ks + 18 ≤ Ks ∧ Ks ≤ 7293034) (hc : ∀ s1, s9 = .inl s1 → WW M G 9 Q (kc + 3) (ks + 18) g1 23 [(0, .ref b9), (1, .ref a1), (2, .ref a2), (3, .ref a3), (4, .int s1)] []) (hx : ∀ t, s9 = .inr t → Sum.elim (fun t1 => WW M G 9 Q Kc Ks g1 2698 [] []) (fun t2 : Int32 => t2 = 1) t) {g : AH} (E : l_law_j662_23 Ln xs a1 a2 a3 a4 g = some (s9, g1)) : WW M G 9 Q kc ks g 662 [(0, .ref b9), (1, .ref a1), (2, .ref a2), (3, .ref a3), (4, .int a4)] [] := by
  unfold l_law_j662_23 at E
  refine r_aload_n X 1 dL_law_662 rfl rfl ?_
  refine r_aload_n X 0 dL_law_663 rfl rfl ?_
  refine r_iload X dL_law_664 rfl ?_
  refine r_iconst X (v := 1) dL_law_666 (by decide) ?_
  refine r_iadd X dL_law_667 ?_
  obtain ⟨x1, e2, E⟩ := gb_some E
  refine r_sld X hX dL_law_668 e2 ?_
  refine r_aload_n X 3 dL_law_669 rfl rfl ?_
  obtain ⟨r3, g4, e5, E⟩ := cb_some E
  refine r_callW X hl0 dL_law_670 y_L_bestPlaceFor m_L_185 (t_l_bestPlaceFor (l := l) hst (G := G) e5) rfl rfl (Nat.le_of_ble_eq_true rfl) ⟨by decide, by show _ + 1 ≤ 601024; omega, by show _ + 6 ≤ 7293034; omega⟩ ?_
  refine r_istore X (L1 := [(5, .int r3), (0, .ref b9), (1, .ref a1), (2, .ref a2), (3, .ref a3), (4, .int a4)]) dL_law_673 (by decide) rfl ?_
  refine r_aload_n X 2 dL_law_675 rfl rfl ?_
  refine r_aload_n X 0 dL_law_676 rfl rfl ?_
  refine r_iload X dL_law_677 rfl ?_
  refine r_iconst X (v := 1) dL_law_679 (by decide) ?_
  refine r_iadd X dL_law_680 ?_
  obtain ⟨x6, e7, E⟩ := gb_some E
  refine r_sld X hX dL_law_681 e7 ?_
  obtain ⟨u11, e12, E⟩ := gb_some E
  obtain ⟨r8, g9, e10, E⟩ := cb_some E
  refine r_callV0 X hl0 (ci := 9) dL_law_682 y_X9_bestPlaceFor m_L_187 rfl rfl e12 (t_x9_bestPlaceFor (l := l) (G := G) e10) rfl rfl (Nat.le_of_ble_eq_true rfl) (by decide) ?_
  refine r_istore X (L1 := [(6, .int r8), (5, .int r3), (0, .ref b9), (1, .ref a1), (2, .ref a2), (3, .ref a3), (4, .int a4)]) dL_law_685 (by decide) rfl ?_
  refine r_aload_n X 2 dL_law_687 rfl rfl ?_
  obtain ⟨u16, e17, E⟩ := gb_some E
  obtain ⟨r13, g14, e15, E⟩ := cb_some E
  refine r_callV0 X hl0 (ci := 9) dL_law_688 y_X9_thrown m_L_133 rfl rfl e17 (t_x9_thrown (l := l) (G := G) e15) rfl rfl (Nat.le_of_ble_eq_true rfl) (by decide) ?_
  refine r_iload X dL_law_691 rfl ?_
  refine r_icmp_eq X 698 dL_law_693 (by decide) (fun c18 => ?_) (fun c18 => ?_)
  · rw [if_pos c18] at E
    refine r_iload X dL_law_698 rfl ?_
    refine r_if_ne X 715 dL_law_700 (by decide) (fun c19 => ?_) (fun c19 => ?_)
    · rw [if_neg c19] at E
      refine r_goto X 2692 dL_law_715 (by decide) ?_
      refine r_iinc X (v := (a4 + 3)) (L1 := [(4, .int (a4 + 3)), (6, .int r8), (5, .int r3), (0, .ref b9), (1, .ref a1), (2, .ref a2), (3, .ref a3)]) dL_law_2692 rfl rfl (by decide) rfl ?_
      refine r_goto X 23 dL_law_2695 (by decide) ?_
      cases E
      exact r_widen X ⟨by first | exact Nat.le_add_right _ _ | exact Nat.add_le_add_left (by decide) _, Nat.le_trans hkc.1 hkc.2⟩ ⟨by first | exact Nat.le_add_right _ _ | exact Nat.add_le_add_left (by decide) _, Nat.le_trans hks.1 hks.2⟩ <| r_pick (by rfl : lpick [(4, .int (a4 + 3)), (6, .int r8), (5, .int r3), (0, .ref b9), (1, .ref a1), (2, .ref a2), (3, .ref a3)] [3, 4, 5, 6, 0] = _) (hc _ rfl)
    · rw [if_pos c19] at E
      refine r_aload_n X 3 dL_law_703 rfl rfl ?_
      refine r_iconst X (v := 0) dL_law_704 (by decide) ?_
      obtain ⟨x20, e21, E⟩ := gb_some E
      refine r_lald X dL_law_705 e21 ?_
      refine r_iload X dL_law_706 rfl ?_
      refine r_i2l X dL_law_708 ?_
      refine r_lcmp X dL_law_709 ?_
      refine r_if_eq X 715 dL_law_710 (by decide) (fun c22 => ?_) (fun c22 => ?_)
      · rw [if_pos c22] at E
        refine r_goto X 2692 dL_law_715 (by decide) ?_
        refine r_iinc X (v := (a4 + 3)) (L1 := [(4, .int (a4 + 3)), (6, .int r8), (5, .int r3), (0, .ref b9), (1, .ref a1), (2, .ref a2), (3, .ref a3)]) dL_law_2692 rfl rfl (by decide) rfl ?_
        refine r_goto X 23 dL_law_2695 (by decide) ?_
        cases E
        exact r_widen X ⟨by first | exact Nat.le_add_right _ _ | exact Nat.add_le_add_left (by decide) _, Nat.le_trans hkc.1 hkc.2⟩ ⟨by first | exact Nat.le_add_right _ _ | exact Nat.add_le_add_left (by decide) _, Nat.le_trans hks.1 hks.2⟩ <| r_pick (by rfl : lpick [(4, .int (a4 + 3)), (6, .int r8), (5, .int r3), (0, .ref b9), (1, .ref a1), (2, .ref a2), (3, .ref a3)] [3, 4, 5, 6, 0] = _) (hc _ rfl)
      · rw [if_neg c22] at E
        refine r_iconst X (v := 0) dL_law_713 (by decide) ?_
        cases E
        exact absurd (show (0 : Int32) = 1 from hx _ rfl) (by decide)
  · rw [if_neg c18] at E
    refine r_iconst X (v := 0) dL_law_696 (by decide) ?_
    cases E
    exact absurd (show (0 : Int32) = 1 from hx _ rfl) (by decide)
set_option maxHeartbeats 4000000 in
set_option maxRecDepth 100000 in
theorem t_l_law_j718_23 {l : Launch} (hst : l.stackTraces = false) {G : GG} {M : MC} {b9 Ln : Nat} {xs : Nat → Int32} (hX : HX M G b9 Ln xs) (X : CX M G cL_law 9 RL room_1) (hl0 : M.2.1 = l) {Q : State → Prop} {kc ks : Nat} {s9 : ((Int32) ⊕ ((Unit) ⊕ Int32))} {g1 : AH}  {a1 : Nat} {a2 : Nat} {a3 : Nat} {a4 : Int32} {Kc Ks : Nat} (hkc : kc + 3 ≤ Kc ∧ Kc ≤ 601024) (hks : ks + 18 ≤ Ks ∧ Ks ≤ 7293034) (hc : ∀ s1, s9 = .inl s1 → WW M G 9 Q (kc + 3) (ks + 18) g1 23 [(0, .ref b9), (1, .ref a1), (2, .ref a2), (3, .ref a3), (4, .int s1)] []) (hx : ∀ t, s9 = .inr t → Sum.elim (fun t1 => WW M G 9 Q Kc Ks g1 2698 [] []) (fun t2 : Int32 => t2 = 1) t) {g : AH} (E : l_law_j718_23 Ln xs a1 a2 a3 a4 g = some (s9, g1)) : WW M G 9 Q kc ks g 718 [(0, .ref b9), (1, .ref a1), (2, .ref a2), (3, .ref a3), (4, .int a4)] [] := by
  unfold l_law_j718_23 at E
  refine r_aload_n X 1 dL_law_718 rfl rfl ?_
  refine r_aload_n X 0 dL_law_719 rfl rfl ?_
  refine r_iload X dL_law_720 rfl ?_
  refine r_iconst X (v := 1) dL_law_722 (by decide) ?_
  refine r_iadd X dL_law_723 ?_
  obtain ⟨x1, e2, E⟩ := gb_some E
  refine r_sld X hX dL_law_724 e2 ?_
  refine r_aload_n X 3 dL_law_725 rfl rfl ?_
  obtain ⟨r3, g4, e5, E⟩ := cb_some E
  refine r_callW X hl0 dL_law_726 y_L_userOf m_L_188 (t_l_userOf (l := l) hst (G := G) e5) rfl rfl (Nat.le_of_ble_eq_true rfl) ⟨by decide, by show _ + 1 ≤ 601024; omega, by show _ + 6 ≤ 7293034; omega⟩ ?_
  refine r_istore X (L1 := [(5, .int r3), (0, .ref b9), (1, .ref a1), (2, .ref a2), (3, .ref a3), (4, .int a4)]) dL_law_729 (by decide) rfl ?_
  refine r_aload_n X 2 dL_law_731 rfl rfl ?_
  refine r_aload_n X 0 dL_law_732 rfl rfl ?_
  refine r_iload X dL_law_733 rfl ?_
  refine r_iconst X (v := 1) dL_law_735 (by decide) ?_
  refine r_iadd X dL_law_736 ?_
  obtain ⟨x6, e7, E⟩ := gb_some E
  refine r_sld X hX dL_law_737 e7 ?_
  obtain ⟨u11, e12, E⟩ := gb_some E
  obtain ⟨r8, g9, e10, E⟩ := cb_some E
  refine r_callV0 X hl0 (ci := 9) dL_law_738 y_X9_userOf m_L_190 rfl rfl e12 (t_x9_userOf (l := l) (G := G) e10) rfl rfl (Nat.le_of_ble_eq_true rfl) (by decide) ?_
  refine r_istore X (L1 := [(6, .int r8), (5, .int r3), (0, .ref b9), (1, .ref a1), (2, .ref a2), (3, .ref a3), (4, .int a4)]) dL_law_741 (by decide) rfl ?_
  refine r_aload_n X 2 dL_law_743 rfl rfl ?_
  obtain ⟨u16, e17, E⟩ := gb_some E
  obtain ⟨r13, g14, e15, E⟩ := cb_some E
  refine r_callV0 X hl0 (ci := 9) dL_law_744 y_X9_thrown m_L_133 rfl rfl e17 (t_x9_thrown (l := l) (G := G) e15) rfl rfl (Nat.le_of_ble_eq_true rfl) (by decide) ?_
  refine r_iload X dL_law_747 rfl ?_
  refine r_icmp_eq X 754 dL_law_749 (by decide) (fun c18 => ?_) (fun c18 => ?_)
  · rw [if_pos c18] at E
    refine r_iload X dL_law_754 rfl ?_
    refine r_if_ne X 771 dL_law_756 (by decide) (fun c19 => ?_) (fun c19 => ?_)
    · rw [if_neg c19] at E
      refine r_goto X 2692 dL_law_771 (by decide) ?_
      refine r_iinc X (v := (a4 + 3)) (L1 := [(4, .int (a4 + 3)), (6, .int r8), (5, .int r3), (0, .ref b9), (1, .ref a1), (2, .ref a2), (3, .ref a3)]) dL_law_2692 rfl rfl (by decide) rfl ?_
      refine r_goto X 23 dL_law_2695 (by decide) ?_
      cases E
      exact r_widen X ⟨by first | exact Nat.le_add_right _ _ | exact Nat.add_le_add_left (by decide) _, Nat.le_trans hkc.1 hkc.2⟩ ⟨by first | exact Nat.le_add_right _ _ | exact Nat.add_le_add_left (by decide) _, Nat.le_trans hks.1 hks.2⟩ <| r_pick (by rfl : lpick [(4, .int (a4 + 3)), (6, .int r8), (5, .int r3), (0, .ref b9), (1, .ref a1), (2, .ref a2), (3, .ref a3)] [3, 4, 5, 6, 0] = _) (hc _ rfl)
    · rw [if_pos c19] at E
      refine r_aload_n X 3 dL_law_759 rfl rfl ?_
      refine r_iconst X (v := 0) dL_law_760 (by decide) ?_
      obtain ⟨x20, e21, E⟩ := gb_some E
      refine r_lald X dL_law_761 e21 ?_
      refine r_iload X dL_law_762 rfl ?_
      refine r_i2l X dL_law_764 ?_
      refine r_lcmp X dL_law_765 ?_
      refine r_if_eq X 771 dL_law_766 (by decide) (fun c22 => ?_) (fun c22 => ?_)
      · rw [if_pos c22] at E
        refine r_goto X 2692 dL_law_771 (by decide) ?_
        refine r_iinc X (v := (a4 + 3)) (L1 := [(4, .int (a4 + 3)), (6, .int r8), (5, .int r3), (0, .ref b9), (1, .ref a1), (2, .ref a2), (3, .ref a3)]) dL_law_2692 rfl rfl (by decide) rfl ?_
        refine r_goto X 23 dL_law_2695 (by decide) ?_
        cases E
        exact r_widen X ⟨by first | exact Nat.le_add_right _ _ | exact Nat.add_le_add_left (by decide) _, Nat.le_trans hkc.1 hkc.2⟩ ⟨by first | exact Nat.le_add_right _ _ | exact Nat.add_le_add_left (by decide) _, Nat.le_trans hks.1 hks.2⟩ <| r_pick (by rfl : lpick [(4, .int (a4 + 3)), (6, .int r8), (5, .int r3), (0, .ref b9), (1, .ref a1), (2, .ref a2), (3, .ref a3)] [3, 4, 5, 6, 0] = _) (hc _ rfl)
      · rw [if_neg c22] at E
        refine r_iconst X (v := 0) dL_law_769 (by decide) ?_
        cases E
        exact absurd (show (0 : Int32) = 1 from hx _ rfl) (by decide)
  · rw [if_neg c18] at E
    refine r_iconst X (v := 0) dL_law_752 (by decide) ?_
    cases E
    exact absurd (show (0 : Int32) = 1 from hx _ rfl) (by decide)
set_option maxHeartbeats 4000000 in
set_option maxRecDepth 100000 in
theorem t_l_law_j774_23 {l : Launch} (hst : l.stackTraces = false) {G : GG} {M : MC} {b9 Ln : Nat} {xs : Nat → Int32} (hX : HX M G b9 Ln xs) (X : CX M G cL_law 9 RL room_1) (hl0 : M.2.1 = l) {Q : State → Prop} {kc ks : Nat} {s9 : ((Int32) ⊕ ((Unit) ⊕ Int32))} {g1 : AH}  {a1 : Nat} {a2 : Nat} {a3 : Nat} {a4 : Int32} {Kc Ks : Nat} (hkc : kc + 3 ≤ Kc ∧ Kc ≤ 601024) (hks : ks + 18 ≤ Ks ∧ Ks ≤ 7293034) (hc : ∀ s1, s9 = .inl s1 → WW M G 9 Q (kc + 3) (ks + 18) g1 23 [(0, .ref b9), (1, .ref a1), (2, .ref a2), (3, .ref a3), (4, .int s1)] []) (hx : ∀ t, s9 = .inr t → Sum.elim (fun t1 => WW M G 9 Q Kc Ks g1 2698 [] []) (fun t2 : Int32 => t2 = 1) t) {g : AH} (E : l_law_j774_23 Ln xs a1 a2 a3 a4 g = some (s9, g1)) : WW M G 9 Q kc ks g 774 [(0, .ref b9), (1, .ref a1), (2, .ref a2), (3, .ref a3), (4, .int a4)] [] := by
  unfold l_law_j774_23 at E
  refine r_aload_n X 1 dL_law_774 rfl rfl ?_
  refine r_aload_n X 0 dL_law_775 rfl rfl ?_
  refine r_iload X dL_law_776 rfl ?_
  refine r_iconst X (v := 1) dL_law_778 (by decide) ?_
  refine r_iadd X dL_law_779 ?_
  obtain ⟨x1, e2, E⟩ := gb_some E
  refine r_sld X hX dL_law_780 e2 ?_
  refine r_aload_n X 3 dL_law_781 rfl rfl ?_
  obtain ⟨r3, g4, e5, E⟩ := cb_some E
  refine r_callW X hl0 dL_law_782 y_L_blanketOnPile m_L_191 (t_l_blanketOnPile (l := l) hst (G := G) e5) rfl rfl (Nat.le_of_ble_eq_true rfl) ⟨by decide, by show _ + 1 ≤ 601024; omega, by show _ + 6 ≤ 7293034; omega⟩ ?_
  refine r_istore X (L1 := [(5, .int r3), (0, .ref b9), (1, .ref a1), (2, .ref a2), (3, .ref a3), (4, .int a4)]) dL_law_785 (by decide) rfl ?_
  refine r_aload_n X 2 dL_law_787 rfl rfl ?_
  refine r_aload_n X 0 dL_law_788 rfl rfl ?_
  refine r_iload X dL_law_789 rfl ?_
  refine r_iconst X (v := 1) dL_law_791 (by decide) ?_
  refine r_iadd X dL_law_792 ?_
  obtain ⟨x6, e7, E⟩ := gb_some E
  refine r_sld X hX dL_law_793 e7 ?_
  obtain ⟨u11, e12, E⟩ := gb_some E
  obtain ⟨r8, g9, e10, E⟩ := cb_some E
  refine r_callV0 X hl0 (ci := 9) dL_law_794 y_X9_blanketOnPile m_L_193 rfl rfl e12 (t_x9_blanketOnPile (l := l) (G := G) e10) rfl rfl (Nat.le_of_ble_eq_true rfl) (by decide) ?_
  refine r_istore X (L1 := [(6, .int r8), (5, .int r3), (0, .ref b9), (1, .ref a1), (2, .ref a2), (3, .ref a3), (4, .int a4)]) dL_law_797 (by decide) rfl ?_
  refine r_aload_n X 2 dL_law_799 rfl rfl ?_
  obtain ⟨u16, e17, E⟩ := gb_some E
  obtain ⟨r13, g14, e15, E⟩ := cb_some E
  refine r_callV0 X hl0 (ci := 9) dL_law_800 y_X9_thrown m_L_133 rfl rfl e17 (t_x9_thrown (l := l) (G := G) e15) rfl rfl (Nat.le_of_ble_eq_true rfl) (by decide) ?_
  refine r_iload X dL_law_803 rfl ?_
  refine r_icmp_eq X 810 dL_law_805 (by decide) (fun c18 => ?_) (fun c18 => ?_)
  · rw [if_pos c18] at E
    refine r_iload X dL_law_810 rfl ?_
    refine r_if_ne X 827 dL_law_812 (by decide) (fun c19 => ?_) (fun c19 => ?_)
    · rw [if_neg c19] at E
      refine r_goto X 2692 dL_law_827 (by decide) ?_
      refine r_iinc X (v := (a4 + 3)) (L1 := [(4, .int (a4 + 3)), (6, .int r8), (5, .int r3), (0, .ref b9), (1, .ref a1), (2, .ref a2), (3, .ref a3)]) dL_law_2692 rfl rfl (by decide) rfl ?_
      refine r_goto X 23 dL_law_2695 (by decide) ?_
      cases E
      exact r_widen X ⟨by first | exact Nat.le_add_right _ _ | exact Nat.add_le_add_left (by decide) _, Nat.le_trans hkc.1 hkc.2⟩ ⟨by first | exact Nat.le_add_right _ _ | exact Nat.add_le_add_left (by decide) _, Nat.le_trans hks.1 hks.2⟩ <| r_pick (by rfl : lpick [(4, .int (a4 + 3)), (6, .int r8), (5, .int r3), (0, .ref b9), (1, .ref a1), (2, .ref a2), (3, .ref a3)] [3, 4, 5, 6, 0] = _) (hc _ rfl)
    · rw [if_pos c19] at E
      refine r_aload_n X 3 dL_law_815 rfl rfl ?_
      refine r_iconst X (v := 0) dL_law_816 (by decide) ?_
      obtain ⟨x20, e21, E⟩ := gb_some E
      refine r_lald X dL_law_817 e21 ?_
      refine r_iload X dL_law_818 rfl ?_
      refine r_i2l X dL_law_820 ?_
      refine r_lcmp X dL_law_821 ?_
      refine r_if_eq X 827 dL_law_822 (by decide) (fun c22 => ?_) (fun c22 => ?_)
      · rw [if_pos c22] at E
        refine r_goto X 2692 dL_law_827 (by decide) ?_
        refine r_iinc X (v := (a4 + 3)) (L1 := [(4, .int (a4 + 3)), (6, .int r8), (5, .int r3), (0, .ref b9), (1, .ref a1), (2, .ref a2), (3, .ref a3)]) dL_law_2692 rfl rfl (by decide) rfl ?_
        refine r_goto X 23 dL_law_2695 (by decide) ?_
        cases E
        exact r_widen X ⟨by first | exact Nat.le_add_right _ _ | exact Nat.add_le_add_left (by decide) _, Nat.le_trans hkc.1 hkc.2⟩ ⟨by first | exact Nat.le_add_right _ _ | exact Nat.add_le_add_left (by decide) _, Nat.le_trans hks.1 hks.2⟩ <| r_pick (by rfl : lpick [(4, .int (a4 + 3)), (6, .int r8), (5, .int r3), (0, .ref b9), (1, .ref a1), (2, .ref a2), (3, .ref a3)] [3, 4, 5, 6, 0] = _) (hc _ rfl)
      · rw [if_neg c22] at E
        refine r_iconst X (v := 0) dL_law_825 (by decide) ?_
        cases E
        exact absurd (show (0 : Int32) = 1 from hx _ rfl) (by decide)
  · rw [if_neg c18] at E
    refine r_iconst X (v := 0) dL_law_808 (by decide) ?_
    cases E
    exact absurd (show (0 : Int32) = 1 from hx _ rfl) (by decide)
set_option maxHeartbeats 4000000 in
set_option maxRecDepth 100000 in
theorem t_l_law_j830_23 {l : Launch} (hst : l.stackTraces = false) {G : GG} {M : MC} {b9 Ln : Nat} {xs : Nat → Int32} (hX : HX M G b9 Ln xs) (X : CX M G cL_law 9 RL room_1) (hl0 : M.2.1 = l) {Q : State → Prop} {kc ks : Nat} {s9 : ((Int32) ⊕ ((Unit) ⊕ Int32))} {g1 : AH}  {a1 : Nat} {a2 : Nat} {a3 : Nat} {a4 : Int32} {Kc Ks : Nat} (hkc : kc + 3 ≤ Kc ∧ Kc ≤ 601024) (hks : ks + 18 ≤ Ks ∧ Ks ≤ 7293034) (hc : ∀ s1, s9 = .inl s1 → WW M G 9 Q (kc + 3) (ks + 18) g1 23 [(0, .ref b9), (1, .ref a1), (2, .ref a2), (3, .ref a3), (4, .int s1)] []) (hx : ∀ t, s9 = .inr t → Sum.elim (fun t1 => WW M G 9 Q Kc Ks g1 2698 [] []) (fun t2 : Int32 => t2 = 1) t) {g : AH} (E : l_law_j830_23 Ln xs a1 a2 a3 a4 g = some (s9, g1)) : WW M G 9 Q kc ks g 830 [(0, .ref b9), (1, .ref a1), (2, .ref a2), (3, .ref a3), (4, .int a4)] [] := by
  unfold l_law_j830_23 at E
  refine r_aload_n X 1 dL_law_830 rfl rfl ?_
  obtain ⟨u4, e5, E⟩ := gb_some E
  obtain ⟨r1, g2, e3, E⟩ := cb_some E
  refine r_callV0 X hl0 (ci := 8) dL_law_831 y_X8_pileSize m_L_194 rfl rfl e5 (t_x8_pileSize (l := l) (G := G) e3) rfl rfl (Nat.le_of_ble_eq_true rfl) (by decide) ?_
  refine r_aload_n X 2 dL_law_834 rfl rfl ?_
  obtain ⟨u9, e10, E⟩ := gb_some E
  obtain ⟨r6, g7, e8, E⟩ := cb_some E
  refine r_callV0 X hl0 (ci := 9) dL_law_835 y_X9_pileSize m_L_197 rfl rfl e10 (t_x9_pileSize (l := l) (G := G) e8) rfl rfl (Nat.le_of_ble_eq_true rfl) (by decide) ?_
  refine r_icmp_eq X 2692 dL_law_838 (by decide) (fun c11 => ?_) (fun c11 => ?_)
  · rw [if_pos c11] at E
    refine r_iinc X (v := (a4 + 3)) (L1 := [(4, .int (a4 + 3)), (0, .ref b9), (1, .ref a1), (2, .ref a2), (3, .ref a3)]) dL_law_2692 rfl rfl (by decide) rfl ?_
    refine r_goto X 23 dL_law_2695 (by decide) ?_
    cases E
    exact r_widen X ⟨by first | exact Nat.le_add_right _ _ | exact Nat.add_le_add_left (by decide) _, Nat.le_trans hkc.1 hkc.2⟩ ⟨by first | exact Nat.le_add_right _ _ | exact Nat.add_le_add_left (by decide) _, Nat.le_trans hks.1 hks.2⟩ <| r_pick (by rfl : lpick [(4, .int (a4 + 3)), (0, .ref b9), (1, .ref a1), (2, .ref a2), (3, .ref a3)] [1, 2, 3, 4, 0] = _) (hc _ rfl)
  · rw [if_neg c11] at E
    refine r_iconst X (v := 0) dL_law_841 (by decide) ?_
    cases E
    exact absurd (show (0 : Int32) = 1 from hx _ rfl) (by decide)
set_option maxHeartbeats 4000000 in
set_option maxRecDepth 100000 in
theorem t_l_law_j843_23 {l : Launch} (hst : l.stackTraces = false) {G : GG} {M : MC} {b9 Ln : Nat} {xs : Nat → Int32} (hX : HX M G b9 Ln xs) (X : CX M G cL_law 9 RL room_1) (hl0 : M.2.1 = l) {Q : State → Prop} {kc ks : Nat} {s9 : ((Int32) ⊕ ((Unit) ⊕ Int32))} {g1 : AH}  {a1 : Nat} {a2 : Nat} {a3 : Nat} {a4 : Int32} {Kc Ks : Nat} (hkc : kc + 3 ≤ Kc ∧ Kc ≤ 601024) (hks : ks + 18 ≤ Ks ∧ Ks ≤ 7293034) (hc : ∀ s1, s9 = .inl s1 → WW M G 9 Q (kc + 3) (ks + 18) g1 23 [(0, .ref b9), (1, .ref a1), (2, .ref a2), (3, .ref a3), (4, .int s1)] []) (hx : ∀ t, s9 = .inr t → Sum.elim (fun t1 => WW M G 9 Q Kc Ks g1 2698 [] []) (fun t2 : Int32 => t2 = 1) t) {g : AH} (E : l_law_j843_23 Ln xs a1 a2 a3 a4 g = some (s9, g1)) : WW M G 9 Q kc ks g 843 [(0, .ref b9), (1, .ref a1), (2, .ref a2), (3, .ref a3), (4, .int a4)] [] := by
  unfold l_law_j843_23 at E
  refine r_aload_n X 1 dL_law_843 rfl rfl ?_
  refine r_aload_n X 0 dL_law_844 rfl rfl ?_
  refine r_iload X dL_law_845 rfl ?_
  refine r_iconst X (v := 1) dL_law_847 (by decide) ?_
  refine r_iadd X dL_law_848 ?_
  obtain ⟨x1, e2, E⟩ := gb_some E
  refine r_sld X hX dL_law_849 e2 ?_
  refine r_aload_n X 3 dL_law_850 rfl rfl ?_
  obtain ⟨r3, g4, e5, E⟩ := cb_some E
  refine r_callW X hl0 dL_law_851 y_L_fittingBlanket m_L_198 (t_l_fittingBlanket (l := l) hst (G := G) e5) rfl rfl (Nat.le_of_ble_eq_true rfl) ⟨by decide, by show _ + 1 ≤ 601024; omega, by show _ + 6 ≤ 7293034; omega⟩ ?_
  refine r_istore X (L1 := [(5, .int r3), (0, .ref b9), (1, .ref a1), (2, .ref a2), (3, .ref a3), (4, .int a4)]) dL_law_854 (by decide) rfl ?_
  refine r_aload_n X 2 dL_law_856 rfl rfl ?_
  refine r_aload_n X 0 dL_law_857 rfl rfl ?_
  refine r_iload X dL_law_858 rfl ?_
  refine r_iconst X (v := 1) dL_law_860 (by decide) ?_
  refine r_iadd X dL_law_861 ?_
  obtain ⟨x6, e7, E⟩ := gb_some E
  refine r_sld X hX dL_law_862 e7 ?_
  obtain ⟨u11, e12, E⟩ := gb_some E
  obtain ⟨r8, g9, e10, E⟩ := cb_some E
  refine r_callV0 X hl0 (ci := 9) dL_law_863 y_X9_fittingBlanket m_L_200 rfl rfl e12 (t_x9_fittingBlanket (l := l) (G := G) e10) rfl rfl (Nat.le_of_ble_eq_true rfl) (by decide) ?_
  refine r_istore X (L1 := [(6, .int r8), (5, .int r3), (0, .ref b9), (1, .ref a1), (2, .ref a2), (3, .ref a3), (4, .int a4)]) dL_law_866 (by decide) rfl ?_
  refine r_aload_n X 2 dL_law_868 rfl rfl ?_
  obtain ⟨u16, e17, E⟩ := gb_some E
  obtain ⟨r13, g14, e15, E⟩ := cb_some E
  refine r_callV0 X hl0 (ci := 9) dL_law_869 y_X9_thrown m_L_133 rfl rfl e17 (t_x9_thrown (l := l) (G := G) e15) rfl rfl (Nat.le_of_ble_eq_true rfl) (by decide) ?_
  refine r_iload X dL_law_872 rfl ?_
  refine r_icmp_eq X 879 dL_law_874 (by decide) (fun c18 => ?_) (fun c18 => ?_)
  · rw [if_pos c18] at E
    refine r_iload X dL_law_879 rfl ?_
    refine r_if_ne X 896 dL_law_881 (by decide) (fun c19 => ?_) (fun c19 => ?_)
    · rw [if_neg c19] at E
      refine r_goto X 2692 dL_law_896 (by decide) ?_
      refine r_iinc X (v := (a4 + 3)) (L1 := [(4, .int (a4 + 3)), (6, .int r8), (5, .int r3), (0, .ref b9), (1, .ref a1), (2, .ref a2), (3, .ref a3)]) dL_law_2692 rfl rfl (by decide) rfl ?_
      refine r_goto X 23 dL_law_2695 (by decide) ?_
      cases E
      exact r_widen X ⟨by first | exact Nat.le_add_right _ _ | exact Nat.add_le_add_left (by decide) _, Nat.le_trans hkc.1 hkc.2⟩ ⟨by first | exact Nat.le_add_right _ _ | exact Nat.add_le_add_left (by decide) _, Nat.le_trans hks.1 hks.2⟩ <| r_pick (by rfl : lpick [(4, .int (a4 + 3)), (6, .int r8), (5, .int r3), (0, .ref b9), (1, .ref a1), (2, .ref a2), (3, .ref a3)] [3, 4, 5, 6, 0] = _) (hc _ rfl)
    · rw [if_pos c19] at E
      refine r_aload_n X 3 dL_law_884 rfl rfl ?_
      refine r_iconst X (v := 0) dL_law_885 (by decide) ?_
      obtain ⟨x20, e21, E⟩ := gb_some E
      refine r_lald X dL_law_886 e21 ?_
      refine r_iload X dL_law_887 rfl ?_
      refine r_i2l X dL_law_889 ?_
      refine r_lcmp X dL_law_890 ?_
      refine r_if_eq X 896 dL_law_891 (by decide) (fun c22 => ?_) (fun c22 => ?_)
      · rw [if_pos c22] at E
        refine r_goto X 2692 dL_law_896 (by decide) ?_
        refine r_iinc X (v := (a4 + 3)) (L1 := [(4, .int (a4 + 3)), (6, .int r8), (5, .int r3), (0, .ref b9), (1, .ref a1), (2, .ref a2), (3, .ref a3)]) dL_law_2692 rfl rfl (by decide) rfl ?_
        refine r_goto X 23 dL_law_2695 (by decide) ?_
        cases E
        exact r_widen X ⟨by first | exact Nat.le_add_right _ _ | exact Nat.add_le_add_left (by decide) _, Nat.le_trans hkc.1 hkc.2⟩ ⟨by first | exact Nat.le_add_right _ _ | exact Nat.add_le_add_left (by decide) _, Nat.le_trans hks.1 hks.2⟩ <| r_pick (by rfl : lpick [(4, .int (a4 + 3)), (6, .int r8), (5, .int r3), (0, .ref b9), (1, .ref a1), (2, .ref a2), (3, .ref a3)] [3, 4, 5, 6, 0] = _) (hc _ rfl)
      · rw [if_neg c22] at E
        refine r_iconst X (v := 0) dL_law_894 (by decide) ?_
        cases E
        exact absurd (show (0 : Int32) = 1 from hx _ rfl) (by decide)
  · rw [if_neg c18] at E
    refine r_iconst X (v := 0) dL_law_877 (by decide) ?_
    cases E
    exact absurd (show (0 : Int32) = 1 from hx _ rfl) (by decide)
set_option maxHeartbeats 4000000 in
set_option maxRecDepth 100000 in
theorem t_l_law_j899_23 {l : Launch} (hst : l.stackTraces = false) {G : GG} {M : MC} {b9 Ln : Nat} {xs : Nat → Int32} (hX : HX M G b9 Ln xs) (X : CX M G cL_law 9 RL room_1) (hl0 : M.2.1 = l) {Q : State → Prop} {kc ks : Nat} {s9 : ((Int32) ⊕ ((Unit) ⊕ Int32))} {g1 : AH}  {a1 : Nat} {a2 : Nat} {a3 : Nat} {a4 : Int32} {Kc Ks : Nat} (hkc : kc + 3 ≤ Kc ∧ Kc ≤ 601024) (hks : ks + 18 ≤ Ks ∧ Ks ≤ 7293034) (hc : ∀ s1, s9 = .inl s1 → WW M G 9 Q (kc + 3) (ks + 18) g1 23 [(0, .ref b9), (1, .ref a1), (2, .ref a2), (3, .ref a3), (4, .int s1)] []) (hx : ∀ t, s9 = .inr t → Sum.elim (fun t1 => WW M G 9 Q Kc Ks g1 2698 [] []) (fun t2 : Int32 => t2 = 1) t) {g : AH} (E : l_law_j899_23 Ln xs a1 a2 a3 a4 g = some (s9, g1)) : WW M G 9 Q kc ks g 899 [(0, .ref b9), (1, .ref a1), (2, .ref a2), (3, .ref a3), (4, .int a4)] [] := by
  unfold l_law_j899_23 at E
  refine r_aload_n X 1 dL_law_899 rfl rfl ?_
  obtain ⟨u4, e5, E⟩ := gb_some E
  obtain ⟨r1, g2, e3, E⟩ := cb_some E
  refine r_callV0 X hl0 (ci := 8) dL_law_900 y_X8_hikerCount m_L_201 rfl rfl e5 (t_x8_hikerCount (l := l) (G := G) e3) rfl rfl (Nat.le_of_ble_eq_true rfl) (by decide) ?_
  refine r_aload_n X 2 dL_law_903 rfl rfl ?_
  obtain ⟨u9, e10, E⟩ := gb_some E
  obtain ⟨r6, g7, e8, E⟩ := cb_some E
  refine r_callV0 X hl0 (ci := 9) dL_law_904 y_X9_hikerCount m_L_204 rfl rfl e10 (t_x9_hikerCount (l := l) (G := G) e8) rfl rfl (Nat.le_of_ble_eq_true rfl) (by decide) ?_
  refine r_icmp_eq X 2692 dL_law_907 (by decide) (fun c11 => ?_) (fun c11 => ?_)
  · rw [if_pos c11] at E
    refine r_iinc X (v := (a4 + 3)) (L1 := [(4, .int (a4 + 3)), (0, .ref b9), (1, .ref a1), (2, .ref a2), (3, .ref a3)]) dL_law_2692 rfl rfl (by decide) rfl ?_
    refine r_goto X 23 dL_law_2695 (by decide) ?_
    cases E
    exact r_widen X ⟨by first | exact Nat.le_add_right _ _ | exact Nat.add_le_add_left (by decide) _, Nat.le_trans hkc.1 hkc.2⟩ ⟨by first | exact Nat.le_add_right _ _ | exact Nat.add_le_add_left (by decide) _, Nat.le_trans hks.1 hks.2⟩ <| r_pick (by rfl : lpick [(4, .int (a4 + 3)), (0, .ref b9), (1, .ref a1), (2, .ref a2), (3, .ref a3)] [1, 2, 3, 4, 0] = _) (hc _ rfl)
  · rw [if_neg c11] at E
    refine r_iconst X (v := 0) dL_law_910 (by decide) ?_
    cases E
    exact absurd (show (0 : Int32) = 1 from hx _ rfl) (by decide)
set_option maxHeartbeats 4000000 in
set_option maxRecDepth 100000 in
theorem t_l_law_j912_23 {l : Launch} (hst : l.stackTraces = false) {G : GG} {M : MC} {b9 Ln : Nat} {xs : Nat → Int32} (hX : HX M G b9 Ln xs) (X : CX M G cL_law 9 RL room_1) (hl0 : M.2.1 = l) {Q : State → Prop} {kc ks : Nat} {s9 : ((Int32) ⊕ ((Unit) ⊕ Int32))} {g1 : AH}  {a1 : Nat} {a2 : Nat} {a3 : Nat} {a4 : Int32} {Kc Ks : Nat} (hkc : kc + 3 ≤ Kc ∧ Kc ≤ 601024) (hks : ks + 18 ≤ Ks ∧ Ks ≤ 7293034) (hc : ∀ s1, s9 = .inl s1 → WW M G 9 Q (kc + 3) (ks + 18) g1 23 [(0, .ref b9), (1, .ref a1), (2, .ref a2), (3, .ref a3), (4, .int s1)] []) (hx : ∀ t, s9 = .inr t → Sum.elim (fun t1 => WW M G 9 Q Kc Ks g1 2698 [] []) (fun t2 : Int32 => t2 = 1) t) {g : AH} (E : l_law_j912_23 Ln xs a1 a2 a3 a4 g = some (s9, g1)) : WW M G 9 Q kc ks g 912 [(0, .ref b9), (1, .ref a1), (2, .ref a2), (3, .ref a3), (4, .int a4)] [] := by
  unfold l_law_j912_23 at E
  refine r_aload_n X 1 dL_law_912 rfl rfl ?_
  refine r_aload_n X 0 dL_law_913 rfl rfl ?_
  refine r_iload X dL_law_914 rfl ?_
  refine r_iconst X (v := 1) dL_law_916 (by decide) ?_
  refine r_iadd X dL_law_917 ?_
  obtain ⟨x1, e2, E⟩ := gb_some E
  refine r_sld X hX dL_law_918 e2 ?_
  refine r_aload_n X 3 dL_law_919 rfl rfl ?_
  obtain ⟨r3, g4, e5, E⟩ := cb_some E
  refine r_callW X hl0 dL_law_920 y_L_bunkOf m_L_205 (t_l_bunkOf (l := l) hst (G := G) e5) rfl rfl (Nat.le_of_ble_eq_true rfl) ⟨by decide, by show _ + 1 ≤ 601024; omega, by show _ + 6 ≤ 7293034; omega⟩ ?_
  refine r_istore X (L1 := [(5, .int r3), (0, .ref b9), (1, .ref a1), (2, .ref a2), (3, .ref a3), (4, .int a4)]) dL_law_923 (by decide) rfl ?_
  refine r_aload_n X 2 dL_law_925 rfl rfl ?_
  refine r_aload_n X 0 dL_law_926 rfl rfl ?_
  refine r_iload X dL_law_927 rfl ?_
  refine r_iconst X (v := 1) dL_law_929 (by decide) ?_
  refine r_iadd X dL_law_930 ?_
  obtain ⟨x6, e7, E⟩ := gb_some E
  refine r_sld X hX dL_law_931 e7 ?_
  obtain ⟨u11, e12, E⟩ := gb_some E
  obtain ⟨r8, g9, e10, E⟩ := cb_some E
  refine r_callV0 X hl0 (ci := 9) dL_law_932 y_X9_bunkOf m_L_207 rfl rfl e12 (t_x9_bunkOf (l := l) (G := G) e10) rfl rfl (Nat.le_of_ble_eq_true rfl) (by decide) ?_
  refine r_istore X (L1 := [(6, .int r8), (5, .int r3), (0, .ref b9), (1, .ref a1), (2, .ref a2), (3, .ref a3), (4, .int a4)]) dL_law_935 (by decide) rfl ?_
  refine r_aload_n X 2 dL_law_937 rfl rfl ?_
  obtain ⟨u16, e17, E⟩ := gb_some E
  obtain ⟨r13, g14, e15, E⟩ := cb_some E
  refine r_callV0 X hl0 (ci := 9) dL_law_938 y_X9_thrown m_L_133 rfl rfl e17 (t_x9_thrown (l := l) (G := G) e15) rfl rfl (Nat.le_of_ble_eq_true rfl) (by decide) ?_
  refine r_iload X dL_law_941 rfl ?_
  refine r_icmp_eq X 948 dL_law_943 (by decide) (fun c18 => ?_) (fun c18 => ?_)
  · rw [if_pos c18] at E
    refine r_iload X dL_law_948 rfl ?_
    refine r_if_ne X 965 dL_law_950 (by decide) (fun c19 => ?_) (fun c19 => ?_)
    · rw [if_neg c19] at E
      refine r_goto X 2692 dL_law_965 (by decide) ?_
      refine r_iinc X (v := (a4 + 3)) (L1 := [(4, .int (a4 + 3)), (6, .int r8), (5, .int r3), (0, .ref b9), (1, .ref a1), (2, .ref a2), (3, .ref a3)]) dL_law_2692 rfl rfl (by decide) rfl ?_
      refine r_goto X 23 dL_law_2695 (by decide) ?_
      cases E
      exact r_widen X ⟨by first | exact Nat.le_add_right _ _ | exact Nat.add_le_add_left (by decide) _, Nat.le_trans hkc.1 hkc.2⟩ ⟨by first | exact Nat.le_add_right _ _ | exact Nat.add_le_add_left (by decide) _, Nat.le_trans hks.1 hks.2⟩ <| r_pick (by rfl : lpick [(4, .int (a4 + 3)), (6, .int r8), (5, .int r3), (0, .ref b9), (1, .ref a1), (2, .ref a2), (3, .ref a3)] [3, 4, 5, 6, 0] = _) (hc _ rfl)
    · rw [if_pos c19] at E
      refine r_aload_n X 3 dL_law_953 rfl rfl ?_
      refine r_iconst X (v := 0) dL_law_954 (by decide) ?_
      obtain ⟨x20, e21, E⟩ := gb_some E
      refine r_lald X dL_law_955 e21 ?_
      refine r_iload X dL_law_956 rfl ?_
      refine r_i2l X dL_law_958 ?_
      refine r_lcmp X dL_law_959 ?_
      refine r_if_eq X 965 dL_law_960 (by decide) (fun c22 => ?_) (fun c22 => ?_)
      · rw [if_pos c22] at E
        refine r_goto X 2692 dL_law_965 (by decide) ?_
        refine r_iinc X (v := (a4 + 3)) (L1 := [(4, .int (a4 + 3)), (6, .int r8), (5, .int r3), (0, .ref b9), (1, .ref a1), (2, .ref a2), (3, .ref a3)]) dL_law_2692 rfl rfl (by decide) rfl ?_
        refine r_goto X 23 dL_law_2695 (by decide) ?_
        cases E
        exact r_widen X ⟨by first | exact Nat.le_add_right _ _ | exact Nat.add_le_add_left (by decide) _, Nat.le_trans hkc.1 hkc.2⟩ ⟨by first | exact Nat.le_add_right _ _ | exact Nat.add_le_add_left (by decide) _, Nat.le_trans hks.1 hks.2⟩ <| r_pick (by rfl : lpick [(4, .int (a4 + 3)), (6, .int r8), (5, .int r3), (0, .ref b9), (1, .ref a1), (2, .ref a2), (3, .ref a3)] [3, 4, 5, 6, 0] = _) (hc _ rfl)
      · rw [if_neg c22] at E
        refine r_iconst X (v := 0) dL_law_963 (by decide) ?_
        cases E
        exact absurd (show (0 : Int32) = 1 from hx _ rfl) (by decide)
  · rw [if_neg c18] at E
    refine r_iconst X (v := 0) dL_law_946 (by decide) ?_
    cases E
    exact absurd (show (0 : Int32) = 1 from hx _ rfl) (by decide)
set_option maxHeartbeats 4000000 in
set_option maxRecDepth 100000 in
theorem t_l_law_j968_23 {l : Launch} (hst : l.stackTraces = false) {G : GG} {M : MC} {b9 Ln : Nat} {xs : Nat → Int32} (hX : HX M G b9 Ln xs) (X : CX M G cL_law 9 RL room_1) (hl0 : M.2.1 = l) {Q : State → Prop} {kc ks : Nat} {s9 : ((Int32) ⊕ ((Unit) ⊕ Int32))} {g1 : AH}  {a1 : Nat} {a2 : Nat} {a3 : Nat} {a4 : Int32} {Kc Ks : Nat} (hkc : kc + 3 ≤ Kc ∧ Kc ≤ 601024) (hks : ks + 18 ≤ Ks ∧ Ks ≤ 7293034) (hc : ∀ s1, s9 = .inl s1 → WW M G 9 Q (kc + 3) (ks + 18) g1 23 [(0, .ref b9), (1, .ref a1), (2, .ref a2), (3, .ref a3), (4, .int s1)] []) (hx : ∀ t, s9 = .inr t → Sum.elim (fun t1 => WW M G 9 Q Kc Ks g1 2698 [] []) (fun t2 : Int32 => t2 = 1) t) {g : AH} (E : l_law_j968_23 Ln xs a1 a2 a3 a4 g = some (s9, g1)) : WW M G 9 Q kc ks g 968 [(0, .ref b9), (1, .ref a1), (2, .ref a2), (3, .ref a3), (4, .int a4)] [] := by
  unfold l_law_j968_23 at E
  refine r_aload_n X 1 dL_law_968 rfl rfl ?_
  refine r_aload_n X 0 dL_law_969 rfl rfl ?_
  refine r_iload X dL_law_970 rfl ?_
  refine r_iconst X (v := 1) dL_law_972 (by decide) ?_
  refine r_iadd X dL_law_973 ?_
  obtain ⟨x1, e2, E⟩ := gb_some E
  refine r_sld X hX dL_law_974 e2 ?_
  refine r_aload_n X 3 dL_law_975 rfl rfl ?_
  obtain ⟨r3, g4, e5, E⟩ := cb_some E
  refine r_callW X hl0 dL_law_976 y_L_blanketOf m_L_208 (t_l_blanketOf (l := l) hst (G := G) e5) rfl rfl (Nat.le_of_ble_eq_true rfl) ⟨by decide, by show _ + 1 ≤ 601024; omega, by show _ + 6 ≤ 7293034; omega⟩ ?_
  refine r_istore X (L1 := [(5, .int r3), (0, .ref b9), (1, .ref a1), (2, .ref a2), (3, .ref a3), (4, .int a4)]) dL_law_979 (by decide) rfl ?_
  refine r_aload_n X 2 dL_law_981 rfl rfl ?_
  refine r_aload_n X 0 dL_law_982 rfl rfl ?_
  refine r_iload X dL_law_983 rfl ?_
  refine r_iconst X (v := 1) dL_law_985 (by decide) ?_
  refine r_iadd X dL_law_986 ?_
  obtain ⟨x6, e7, E⟩ := gb_some E
  refine r_sld X hX dL_law_987 e7 ?_
  obtain ⟨u11, e12, E⟩ := gb_some E
  obtain ⟨r8, g9, e10, E⟩ := cb_some E
  refine r_callV0 X hl0 (ci := 9) dL_law_988 y_X9_blanketOf m_L_210 rfl rfl e12 (t_x9_blanketOf (l := l) (G := G) e10) rfl rfl (Nat.le_of_ble_eq_true rfl) (by decide) ?_
  refine r_istore X (L1 := [(6, .int r8), (5, .int r3), (0, .ref b9), (1, .ref a1), (2, .ref a2), (3, .ref a3), (4, .int a4)]) dL_law_991 (by decide) rfl ?_
  refine r_aload_n X 2 dL_law_993 rfl rfl ?_
  obtain ⟨u16, e17, E⟩ := gb_some E
  obtain ⟨r13, g14, e15, E⟩ := cb_some E
  refine r_callV0 X hl0 (ci := 9) dL_law_994 y_X9_thrown m_L_133 rfl rfl e17 (t_x9_thrown (l := l) (G := G) e15) rfl rfl (Nat.le_of_ble_eq_true rfl) (by decide) ?_
  refine r_iload X dL_law_997 rfl ?_
  refine r_icmp_eq X 1004 dL_law_999 (by decide) (fun c18 => ?_) (fun c18 => ?_)
  · rw [if_pos c18] at E
    refine r_iload X dL_law_1004 rfl ?_
    refine r_if_ne X 1021 dL_law_1006 (by decide) (fun c19 => ?_) (fun c19 => ?_)
    · rw [if_neg c19] at E
      refine r_goto X 2692 dL_law_1021 (by decide) ?_
      refine r_iinc X (v := (a4 + 3)) (L1 := [(4, .int (a4 + 3)), (6, .int r8), (5, .int r3), (0, .ref b9), (1, .ref a1), (2, .ref a2), (3, .ref a3)]) dL_law_2692 rfl rfl (by decide) rfl ?_
      refine r_goto X 23 dL_law_2695 (by decide) ?_
      cases E
      exact r_widen X ⟨by first | exact Nat.le_add_right _ _ | exact Nat.add_le_add_left (by decide) _, Nat.le_trans hkc.1 hkc.2⟩ ⟨by first | exact Nat.le_add_right _ _ | exact Nat.add_le_add_left (by decide) _, Nat.le_trans hks.1 hks.2⟩ <| r_pick (by rfl : lpick [(4, .int (a4 + 3)), (6, .int r8), (5, .int r3), (0, .ref b9), (1, .ref a1), (2, .ref a2), (3, .ref a3)] [3, 4, 5, 6, 0] = _) (hc _ rfl)
    · rw [if_pos c19] at E
      refine r_aload_n X 3 dL_law_1009 rfl rfl ?_
      refine r_iconst X (v := 0) dL_law_1010 (by decide) ?_
      obtain ⟨x20, e21, E⟩ := gb_some E
      refine r_lald X dL_law_1011 e21 ?_
      refine r_iload X dL_law_1012 rfl ?_
      refine r_i2l X dL_law_1014 ?_
      refine r_lcmp X dL_law_1015 ?_
      refine r_if_eq X 1021 dL_law_1016 (by decide) (fun c22 => ?_) (fun c22 => ?_)
      · rw [if_pos c22] at E
        refine r_goto X 2692 dL_law_1021 (by decide) ?_
        refine r_iinc X (v := (a4 + 3)) (L1 := [(4, .int (a4 + 3)), (6, .int r8), (5, .int r3), (0, .ref b9), (1, .ref a1), (2, .ref a2), (3, .ref a3)]) dL_law_2692 rfl rfl (by decide) rfl ?_
        refine r_goto X 23 dL_law_2695 (by decide) ?_
        cases E
        exact r_widen X ⟨by first | exact Nat.le_add_right _ _ | exact Nat.add_le_add_left (by decide) _, Nat.le_trans hkc.1 hkc.2⟩ ⟨by first | exact Nat.le_add_right _ _ | exact Nat.add_le_add_left (by decide) _, Nat.le_trans hks.1 hks.2⟩ <| r_pick (by rfl : lpick [(4, .int (a4 + 3)), (6, .int r8), (5, .int r3), (0, .ref b9), (1, .ref a1), (2, .ref a2), (3, .ref a3)] [3, 4, 5, 6, 0] = _) (hc _ rfl)
      · rw [if_neg c22] at E
        refine r_iconst X (v := 0) dL_law_1019 (by decide) ?_
        cases E
        exact absurd (show (0 : Int32) = 1 from hx _ rfl) (by decide)
  · rw [if_neg c18] at E
    refine r_iconst X (v := 0) dL_law_1002 (by decide) ?_
    cases E
    exact absurd (show (0 : Int32) = 1 from hx _ rfl) (by decide)
set_option maxHeartbeats 4000000 in
set_option maxRecDepth 100000 in
theorem t_l_law_j1024_23 {l : Launch} (hst : l.stackTraces = false) {G : GG} {M : MC} {b9 Ln : Nat} {xs : Nat → Int32} (hX : HX M G b9 Ln xs) (X : CX M G cL_law 9 RL room_1) (hl0 : M.2.1 = l) {Q : State → Prop} {kc ks : Nat} {s9 : ((Int32) ⊕ ((Unit) ⊕ Int32))} {g1 : AH}  {a1 : Nat} {a2 : Nat} {a3 : Nat} {a4 : Int32} {Kc Ks : Nat} (hkc : kc + 3 ≤ Kc ∧ Kc ≤ 601024) (hks : ks + 18 ≤ Ks ∧ Ks ≤ 7293034) (hc : ∀ s1, s9 = .inl s1 → WW M G 9 Q (kc + 3) (ks + 18) g1 23 [(0, .ref b9), (1, .ref a1), (2, .ref a2), (3, .ref a3), (4, .int s1)] []) (hx : ∀ t, s9 = .inr t → Sum.elim (fun t1 => WW M G 9 Q Kc Ks g1 2698 [] []) (fun t2 : Int32 => t2 = 1) t) {g : AH} (E : l_law_j1024_23 Ln xs a1 a2 a3 a4 g = some (s9, g1)) : WW M G 9 Q kc ks g 1024 [(0, .ref b9), (1, .ref a1), (2, .ref a2), (3, .ref a3), (4, .int a4)] [] := by
  unfold l_law_j1024_23 at E
  refine r_aload_n X 1 dL_law_1024 rfl rfl ?_
  refine r_aload_n X 0 dL_law_1025 rfl rfl ?_
  refine r_iload X dL_law_1026 rfl ?_
  refine r_iconst X (v := 1) dL_law_1028 (by decide) ?_
  refine r_iadd X dL_law_1029 ?_
  obtain ⟨x1, e2, E⟩ := gb_some E
  refine r_sld X hX dL_law_1030 e2 ?_
  refine r_aload_n X 3 dL_law_1031 rfl rfl ?_
  obtain ⟨r3, g4, e5, E⟩ := cb_some E
  refine r_callW X hl0 dL_law_1032 y_L_warmth m_L_211 (t_l_warmth (l := l) hst (G := G) e5) rfl rfl (Nat.le_of_ble_eq_true rfl) ⟨by decide, by show _ + 1 ≤ 601024; omega, by show _ + 6 ≤ 7293034; omega⟩ ?_
  refine r_istore X (L1 := [(5, .int r3), (0, .ref b9), (1, .ref a1), (2, .ref a2), (3, .ref a3), (4, .int a4)]) dL_law_1035 (by decide) rfl ?_
  refine r_aload_n X 2 dL_law_1037 rfl rfl ?_
  refine r_aload_n X 0 dL_law_1038 rfl rfl ?_
  refine r_iload X dL_law_1039 rfl ?_
  refine r_iconst X (v := 1) dL_law_1041 (by decide) ?_
  refine r_iadd X dL_law_1042 ?_
  obtain ⟨x6, e7, E⟩ := gb_some E
  refine r_sld X hX dL_law_1043 e7 ?_
  obtain ⟨u11, e12, E⟩ := gb_some E
  obtain ⟨r8, g9, e10, E⟩ := cb_some E
  refine r_callV0 X hl0 (ci := 9) dL_law_1044 y_X9_warmth m_L_213 rfl rfl e12 (t_x9_warmth (l := l) (G := G) e10) rfl rfl (Nat.le_of_ble_eq_true rfl) (by decide) ?_
  refine r_istore X (L1 := [(6, .int r8), (5, .int r3), (0, .ref b9), (1, .ref a1), (2, .ref a2), (3, .ref a3), (4, .int a4)]) dL_law_1047 (by decide) rfl ?_
  refine r_aload_n X 2 dL_law_1049 rfl rfl ?_
  obtain ⟨u16, e17, E⟩ := gb_some E
  obtain ⟨r13, g14, e15, E⟩ := cb_some E
  refine r_callV0 X hl0 (ci := 9) dL_law_1050 y_X9_thrown m_L_133 rfl rfl e17 (t_x9_thrown (l := l) (G := G) e15) rfl rfl (Nat.le_of_ble_eq_true rfl) (by decide) ?_
  refine r_iload X dL_law_1053 rfl ?_
  refine r_icmp_eq X 1060 dL_law_1055 (by decide) (fun c18 => ?_) (fun c18 => ?_)
  · rw [if_pos c18] at E
    refine r_iload X dL_law_1060 rfl ?_
    refine r_if_ne X 1077 dL_law_1062 (by decide) (fun c19 => ?_) (fun c19 => ?_)
    · rw [if_neg c19] at E
      refine r_goto X 2692 dL_law_1077 (by decide) ?_
      refine r_iinc X (v := (a4 + 3)) (L1 := [(4, .int (a4 + 3)), (6, .int r8), (5, .int r3), (0, .ref b9), (1, .ref a1), (2, .ref a2), (3, .ref a3)]) dL_law_2692 rfl rfl (by decide) rfl ?_
      refine r_goto X 23 dL_law_2695 (by decide) ?_
      cases E
      exact r_widen X ⟨by first | exact Nat.le_add_right _ _ | exact Nat.add_le_add_left (by decide) _, Nat.le_trans hkc.1 hkc.2⟩ ⟨by first | exact Nat.le_add_right _ _ | exact Nat.add_le_add_left (by decide) _, Nat.le_trans hks.1 hks.2⟩ <| r_pick (by rfl : lpick [(4, .int (a4 + 3)), (6, .int r8), (5, .int r3), (0, .ref b9), (1, .ref a1), (2, .ref a2), (3, .ref a3)] [3, 4, 5, 6, 0] = _) (hc _ rfl)
    · rw [if_pos c19] at E
      refine r_aload_n X 3 dL_law_1065 rfl rfl ?_
      refine r_iconst X (v := 0) dL_law_1066 (by decide) ?_
      obtain ⟨x20, e21, E⟩ := gb_some E
      refine r_lald X dL_law_1067 e21 ?_
      refine r_iload X dL_law_1068 rfl ?_
      refine r_i2l X dL_law_1070 ?_
      refine r_lcmp X dL_law_1071 ?_
      refine r_if_eq X 1077 dL_law_1072 (by decide) (fun c22 => ?_) (fun c22 => ?_)
      · rw [if_pos c22] at E
        refine r_goto X 2692 dL_law_1077 (by decide) ?_
        refine r_iinc X (v := (a4 + 3)) (L1 := [(4, .int (a4 + 3)), (6, .int r8), (5, .int r3), (0, .ref b9), (1, .ref a1), (2, .ref a2), (3, .ref a3)]) dL_law_2692 rfl rfl (by decide) rfl ?_
        refine r_goto X 23 dL_law_2695 (by decide) ?_
        cases E
        exact r_widen X ⟨by first | exact Nat.le_add_right _ _ | exact Nat.add_le_add_left (by decide) _, Nat.le_trans hkc.1 hkc.2⟩ ⟨by first | exact Nat.le_add_right _ _ | exact Nat.add_le_add_left (by decide) _, Nat.le_trans hks.1 hks.2⟩ <| r_pick (by rfl : lpick [(4, .int (a4 + 3)), (6, .int r8), (5, .int r3), (0, .ref b9), (1, .ref a1), (2, .ref a2), (3, .ref a3)] [3, 4, 5, 6, 0] = _) (hc _ rfl)
      · rw [if_neg c22] at E
        refine r_iconst X (v := 0) dL_law_1075 (by decide) ?_
        cases E
        exact absurd (show (0 : Int32) = 1 from hx _ rfl) (by decide)
  · rw [if_neg c18] at E
    refine r_iconst X (v := 0) dL_law_1058 (by decide) ?_
    cases E
    exact absurd (show (0 : Int32) = 1 from hx _ rfl) (by decide)
set_option maxHeartbeats 4000000 in
set_option maxRecDepth 100000 in
theorem t_l_law_j1080_23 {l : Launch} (hst : l.stackTraces = false) {G : GG} {M : MC} {b9 Ln : Nat} {xs : Nat → Int32} (hX : HX M G b9 Ln xs) (X : CX M G cL_law 9 RL room_1) (hl0 : M.2.1 = l) {Q : State → Prop} {kc ks : Nat} {s9 : ((Int32) ⊕ ((Unit) ⊕ Int32))} {g1 : AH}  {a1 : Nat} {a2 : Nat} {a3 : Nat} {a4 : Int32} {Kc Ks : Nat} (hkc : kc + 3 ≤ Kc ∧ Kc ≤ 601024) (hks : ks + 18 ≤ Ks ∧ Ks ≤ 7293034) (hc : ∀ s1, s9 = .inl s1 → WW M G 9 Q (kc + 3) (ks + 18) g1 23 [(0, .ref b9), (1, .ref a1), (2, .ref a2), (3, .ref a3), (4, .int s1)] []) (hx : ∀ t, s9 = .inr t → Sum.elim (fun t1 => WW M G 9 Q Kc Ks g1 2698 [] []) (fun t2 : Int32 => t2 = 1) t) {g : AH} (E : l_law_j1080_23 Ln xs a1 a2 a3 a4 g = some (s9, g1)) : WW M G 9 Q kc ks g 1080 [(0, .ref b9), (1, .ref a1), (2, .ref a2), (3, .ref a3), (4, .int a4)] [] := by
  unfold l_law_j1080_23 at E
  refine r_aload_n X 1 dL_law_1080 rfl rfl ?_
  refine r_aload_n X 0 dL_law_1081 rfl rfl ?_
  refine r_iload X dL_law_1082 rfl ?_
  refine r_iconst X (v := 1) dL_law_1084 (by decide) ?_
  refine r_iadd X dL_law_1085 ?_
  obtain ⟨x1, e2, E⟩ := gb_some E
  refine r_sld X hX dL_law_1086 e2 ?_
  refine r_aload_n X 3 dL_law_1087 rfl rfl ?_
  obtain ⟨r3, g4, e5, E⟩ := cb_some E
  refine r_callW X hl0 dL_law_1088 y_L_activity m_L_214 (t_l_activity (l := l) hst (G := G) e5) rfl rfl (Nat.le_of_ble_eq_true rfl) ⟨by decide, by show _ + 1 ≤ 601024; omega, by show _ + 6 ≤ 7293034; omega⟩ ?_
  refine r_istore X (L1 := [(5, .int r3), (0, .ref b9), (1, .ref a1), (2, .ref a2), (3, .ref a3), (4, .int a4)]) dL_law_1091 (by decide) rfl ?_
  refine r_aload_n X 2 dL_law_1093 rfl rfl ?_
  refine r_aload_n X 0 dL_law_1094 rfl rfl ?_
  refine r_iload X dL_law_1095 rfl ?_
  refine r_iconst X (v := 1) dL_law_1097 (by decide) ?_
  refine r_iadd X dL_law_1098 ?_
  obtain ⟨x6, e7, E⟩ := gb_some E
  refine r_sld X hX dL_law_1099 e7 ?_
  obtain ⟨u11, e12, E⟩ := gb_some E
  obtain ⟨r8, g9, e10, E⟩ := cb_some E
  refine r_callV0 X hl0 (ci := 9) dL_law_1100 y_X9_activity m_L_216 rfl rfl e12 (t_x9_activity (l := l) (G := G) e10) rfl rfl (Nat.le_of_ble_eq_true rfl) (by decide) ?_
  refine r_istore X (L1 := [(6, .int r8), (5, .int r3), (0, .ref b9), (1, .ref a1), (2, .ref a2), (3, .ref a3), (4, .int a4)]) dL_law_1103 (by decide) rfl ?_
  refine r_aload_n X 2 dL_law_1105 rfl rfl ?_
  obtain ⟨u16, e17, E⟩ := gb_some E
  obtain ⟨r13, g14, e15, E⟩ := cb_some E
  refine r_callV0 X hl0 (ci := 9) dL_law_1106 y_X9_thrown m_L_133 rfl rfl e17 (t_x9_thrown (l := l) (G := G) e15) rfl rfl (Nat.le_of_ble_eq_true rfl) (by decide) ?_
  refine r_iload X dL_law_1109 rfl ?_
  refine r_icmp_eq X 1116 dL_law_1111 (by decide) (fun c18 => ?_) (fun c18 => ?_)
  · rw [if_pos c18] at E
    refine r_iload X dL_law_1116 rfl ?_
    refine r_if_ne X 1133 dL_law_1118 (by decide) (fun c19 => ?_) (fun c19 => ?_)
    · rw [if_neg c19] at E
      refine r_goto X 2692 dL_law_1133 (by decide) ?_
      refine r_iinc X (v := (a4 + 3)) (L1 := [(4, .int (a4 + 3)), (6, .int r8), (5, .int r3), (0, .ref b9), (1, .ref a1), (2, .ref a2), (3, .ref a3)]) dL_law_2692 rfl rfl (by decide) rfl ?_
      refine r_goto X 23 dL_law_2695 (by decide) ?_
      cases E
      exact r_widen X ⟨by first | exact Nat.le_add_right _ _ | exact Nat.add_le_add_left (by decide) _, Nat.le_trans hkc.1 hkc.2⟩ ⟨by first | exact Nat.le_add_right _ _ | exact Nat.add_le_add_left (by decide) _, Nat.le_trans hks.1 hks.2⟩ <| r_pick (by rfl : lpick [(4, .int (a4 + 3)), (6, .int r8), (5, .int r3), (0, .ref b9), (1, .ref a1), (2, .ref a2), (3, .ref a3)] [3, 4, 5, 6, 0] = _) (hc _ rfl)
    · rw [if_pos c19] at E
      refine r_aload_n X 3 dL_law_1121 rfl rfl ?_
      refine r_iconst X (v := 0) dL_law_1122 (by decide) ?_
      obtain ⟨x20, e21, E⟩ := gb_some E
      refine r_lald X dL_law_1123 e21 ?_
      refine r_iload X dL_law_1124 rfl ?_
      refine r_i2l X dL_law_1126 ?_
      refine r_lcmp X dL_law_1127 ?_
      refine r_if_eq X 1133 dL_law_1128 (by decide) (fun c22 => ?_) (fun c22 => ?_)
      · rw [if_pos c22] at E
        refine r_goto X 2692 dL_law_1133 (by decide) ?_
        refine r_iinc X (v := (a4 + 3)) (L1 := [(4, .int (a4 + 3)), (6, .int r8), (5, .int r3), (0, .ref b9), (1, .ref a1), (2, .ref a2), (3, .ref a3)]) dL_law_2692 rfl rfl (by decide) rfl ?_
        refine r_goto X 23 dL_law_2695 (by decide) ?_
        cases E
        exact r_widen X ⟨by first | exact Nat.le_add_right _ _ | exact Nat.add_le_add_left (by decide) _, Nat.le_trans hkc.1 hkc.2⟩ ⟨by first | exact Nat.le_add_right _ _ | exact Nat.add_le_add_left (by decide) _, Nat.le_trans hks.1 hks.2⟩ <| r_pick (by rfl : lpick [(4, .int (a4 + 3)), (6, .int r8), (5, .int r3), (0, .ref b9), (1, .ref a1), (2, .ref a2), (3, .ref a3)] [3, 4, 5, 6, 0] = _) (hc _ rfl)
      · rw [if_neg c22] at E
        refine r_iconst X (v := 0) dL_law_1131 (by decide) ?_
        cases E
        exact absurd (show (0 : Int32) = 1 from hx _ rfl) (by decide)
  · rw [if_neg c18] at E
    refine r_iconst X (v := 0) dL_law_1114 (by decide) ?_
    cases E
    exact absurd (show (0 : Int32) = 1 from hx _ rfl) (by decide)
set_option maxHeartbeats 4000000 in
set_option maxRecDepth 100000 in
theorem t_l_law_j1136_23 {l : Launch} (hst : l.stackTraces = false) {G : GG} {M : MC} {b9 Ln : Nat} {xs : Nat → Int32} (hX : HX M G b9 Ln xs) (X : CX M G cL_law 9 RL room_1) (hl0 : M.2.1 = l) {Q : State → Prop} {kc ks : Nat} {s9 : ((Int32) ⊕ ((Unit) ⊕ Int32))} {g1 : AH}  {a1 : Nat} {a2 : Nat} {a3 : Nat} {a4 : Int32} {Kc Ks : Nat} (hkc : kc + 3 ≤ Kc ∧ Kc ≤ 601024) (hks : ks + 18 ≤ Ks ∧ Ks ≤ 7293034) (hc : ∀ s1, s9 = .inl s1 → WW M G 9 Q (kc + 3) (ks + 18) g1 23 [(0, .ref b9), (1, .ref a1), (2, .ref a2), (3, .ref a3), (4, .int s1)] []) (hx : ∀ t, s9 = .inr t → Sum.elim (fun t1 => WW M G 9 Q Kc Ks g1 2698 [] []) (fun t2 : Int32 => t2 = 1) t) {g : AH} (E : l_law_j1136_23 Ln xs a1 a2 a3 a4 g = some (s9, g1)) : WW M G 9 Q kc ks g 1136 [(0, .ref b9), (1, .ref a1), (2, .ref a2), (3, .ref a3), (4, .int a4)] [] := by
  unfold l_law_j1136_23 at E
  refine r_aload_n X 1 dL_law_1136 rfl rfl ?_
  refine r_aload_n X 0 dL_law_1137 rfl rfl ?_
  refine r_iload X dL_law_1138 rfl ?_
  refine r_iconst X (v := 1) dL_law_1140 (by decide) ?_
  refine r_iadd X dL_law_1141 ?_
  obtain ⟨x1, e2, E⟩ := gb_some E
  refine r_sld X hX dL_law_1142 e2 ?_
  refine r_aload_n X 0 dL_law_1143 rfl rfl ?_
  refine r_iload X dL_law_1144 rfl ?_
  refine r_iconst X (v := 2) dL_law_1146 (by decide) ?_
  refine r_iadd X dL_law_1147 ?_
  obtain ⟨x3, e4, E⟩ := gb_some E
  refine r_sld X hX dL_law_1148 e4 ?_
  refine r_aload_n X 3 dL_law_1149 rfl rfl ?_
  obtain ⟨r5, g6, e7, E⟩ := cb_some E
  refine r_callW X hl0 dL_law_1150 y_L_hoursOf m_L_217 (t_l_hoursOf (l := l) hst (G := G) e7) rfl rfl (Nat.le_of_ble_eq_true rfl) ⟨by decide, by show _ + 2 ≤ 601024; omega, by show _ + 12 ≤ 7293034; omega⟩ ?_
  refine r_istore X (L1 := [(5, .int r5), (0, .ref b9), (1, .ref a1), (2, .ref a2), (3, .ref a3), (4, .int a4)]) dL_law_1153 (by decide) rfl ?_
  refine r_aload_n X 2 dL_law_1155 rfl rfl ?_
  refine r_aload_n X 0 dL_law_1156 rfl rfl ?_
  refine r_iload X dL_law_1157 rfl ?_
  refine r_iconst X (v := 1) dL_law_1159 (by decide) ?_
  refine r_iadd X dL_law_1160 ?_
  obtain ⟨x8, e9, E⟩ := gb_some E
  refine r_sld X hX dL_law_1161 e9 ?_
  refine r_aload_n X 0 dL_law_1162 rfl rfl ?_
  refine r_iload X dL_law_1163 rfl ?_
  refine r_iconst X (v := 2) dL_law_1165 (by decide) ?_
  refine r_iadd X dL_law_1166 ?_
  obtain ⟨x10, e11, E⟩ := gb_some E
  refine r_sld X hX dL_law_1167 e11 ?_
  obtain ⟨u15, e16, E⟩ := gb_some E
  obtain ⟨r12, g13, e14, E⟩ := cb_some E
  refine r_callV0 X hl0 (ci := 9) dL_law_1168 y_X9_hoursOf m_L_220 rfl rfl e16 (t_x9_hoursOf (l := l) (G := G) e14) rfl rfl (Nat.le_of_ble_eq_true rfl) (by decide) ?_
  refine r_istore X (L1 := [(6, .int r12), (5, .int r5), (0, .ref b9), (1, .ref a1), (2, .ref a2), (3, .ref a3), (4, .int a4)]) dL_law_1171 (by decide) rfl ?_
  refine r_aload_n X 2 dL_law_1173 rfl rfl ?_
  obtain ⟨u20, e21, E⟩ := gb_some E
  obtain ⟨r17, g18, e19, E⟩ := cb_some E
  refine r_callV0 X hl0 (ci := 9) dL_law_1174 y_X9_thrown m_L_133 rfl rfl e21 (t_x9_thrown (l := l) (G := G) e19) rfl rfl (Nat.le_of_ble_eq_true rfl) (by decide) ?_
  refine r_iload X dL_law_1177 rfl ?_
  refine r_icmp_eq X 1184 dL_law_1179 (by decide) (fun c22 => ?_) (fun c22 => ?_)
  · rw [if_pos c22] at E
    refine r_iload X dL_law_1184 rfl ?_
    refine r_if_ne X 1201 dL_law_1186 (by decide) (fun c23 => ?_) (fun c23 => ?_)
    · rw [if_neg c23] at E
      refine r_goto X 2692 dL_law_1201 (by decide) ?_
      refine r_iinc X (v := (a4 + 3)) (L1 := [(4, .int (a4 + 3)), (6, .int r12), (5, .int r5), (0, .ref b9), (1, .ref a1), (2, .ref a2), (3, .ref a3)]) dL_law_2692 rfl rfl (by decide) rfl ?_
      refine r_goto X 23 dL_law_2695 (by decide) ?_
      cases E
      exact r_widen X ⟨by first | exact Nat.le_add_right _ _ | exact Nat.add_le_add_left (by decide) _, Nat.le_trans hkc.1 hkc.2⟩ ⟨by first | exact Nat.le_add_right _ _ | exact Nat.add_le_add_left (by decide) _, Nat.le_trans hks.1 hks.2⟩ <| r_pick (by rfl : lpick [(4, .int (a4 + 3)), (6, .int r12), (5, .int r5), (0, .ref b9), (1, .ref a1), (2, .ref a2), (3, .ref a3)] [3, 4, 5, 6, 0] = _) (hc _ rfl)
    · rw [if_pos c23] at E
      refine r_aload_n X 3 dL_law_1189 rfl rfl ?_
      refine r_iconst X (v := 0) dL_law_1190 (by decide) ?_
      obtain ⟨x24, e25, E⟩ := gb_some E
      refine r_lald X dL_law_1191 e25 ?_
      refine r_iload X dL_law_1192 rfl ?_
      refine r_i2l X dL_law_1194 ?_
      refine r_lcmp X dL_law_1195 ?_
      refine r_if_eq X 1201 dL_law_1196 (by decide) (fun c26 => ?_) (fun c26 => ?_)
      · rw [if_pos c26] at E
        refine r_goto X 2692 dL_law_1201 (by decide) ?_
        refine r_iinc X (v := (a4 + 3)) (L1 := [(4, .int (a4 + 3)), (6, .int r12), (5, .int r5), (0, .ref b9), (1, .ref a1), (2, .ref a2), (3, .ref a3)]) dL_law_2692 rfl rfl (by decide) rfl ?_
        refine r_goto X 23 dL_law_2695 (by decide) ?_
        cases E
        exact r_widen X ⟨by first | exact Nat.le_add_right _ _ | exact Nat.add_le_add_left (by decide) _, Nat.le_trans hkc.1 hkc.2⟩ ⟨by first | exact Nat.le_add_right _ _ | exact Nat.add_le_add_left (by decide) _, Nat.le_trans hks.1 hks.2⟩ <| r_pick (by rfl : lpick [(4, .int (a4 + 3)), (6, .int r12), (5, .int r5), (0, .ref b9), (1, .ref a1), (2, .ref a2), (3, .ref a3)] [3, 4, 5, 6, 0] = _) (hc _ rfl)
      · rw [if_neg c26] at E
        refine r_iconst X (v := 0) dL_law_1199 (by decide) ?_
        cases E
        exact absurd (show (0 : Int32) = 1 from hx _ rfl) (by decide)
  · rw [if_neg c22] at E
    refine r_iconst X (v := 0) dL_law_1182 (by decide) ?_
    cases E
    exact absurd (show (0 : Int32) = 1 from hx _ rfl) (by decide)
set_option maxHeartbeats 4000000 in
set_option maxRecDepth 100000 in
theorem t_l_law_j1204_23 {l : Launch} (hst : l.stackTraces = false) {G : GG} {M : MC} {b9 Ln : Nat} {xs : Nat → Int32} (hX : HX M G b9 Ln xs) (X : CX M G cL_law 9 RL room_1) (hl0 : M.2.1 = l) {Q : State → Prop} {kc ks : Nat} {s9 : ((Int32) ⊕ ((Unit) ⊕ Int32))} {g1 : AH}  {a1 : Nat} {a2 : Nat} {a3 : Nat} {a4 : Int32} {Kc Ks : Nat} (hkc : kc + 3 ≤ Kc ∧ Kc ≤ 601024) (hks : ks + 18 ≤ Ks ∧ Ks ≤ 7293034) (hc : ∀ s1, s9 = .inl s1 → WW M G 9 Q (kc + 3) (ks + 18) g1 23 [(0, .ref b9), (1, .ref a1), (2, .ref a2), (3, .ref a3), (4, .int s1)] []) (hx : ∀ t, s9 = .inr t → Sum.elim (fun t1 => WW M G 9 Q Kc Ks g1 2698 [] []) (fun t2 : Int32 => t2 = 1) t) {g : AH} (E : l_law_j1204_23 Ln xs a1 a2 a3 a4 g = some (s9, g1)) : WW M G 9 Q kc ks g 1204 [(0, .ref b9), (1, .ref a1), (2, .ref a2), (3, .ref a3), (4, .int a4)] [] := by
  unfold l_law_j1204_23 at E
  refine r_aload_n X 1 dL_law_1204 rfl rfl ?_
  refine r_aload_n X 0 dL_law_1205 rfl rfl ?_
  refine r_iload X dL_law_1206 rfl ?_
  refine r_iconst X (v := 1) dL_law_1208 (by decide) ?_
  refine r_iadd X dL_law_1209 ?_
  obtain ⟨x1, e2, E⟩ := gb_some E
  refine r_sld X hX dL_law_1210 e2 ?_
  refine r_aload_n X 3 dL_law_1211 rfl rfl ?_
  obtain ⟨r3, g4, e5, E⟩ := cb_some E
  refine r_callW X hl0 dL_law_1212 y_L_coinsOf m_L_221 (t_l_coinsOf (l := l) hst (G := G) e5) rfl rfl (Nat.le_of_ble_eq_true rfl) ⟨by decide, by show _ + 1 ≤ 601024; omega, by show _ + 6 ≤ 7293034; omega⟩ ?_
  refine r_istore X (L1 := [(5, .int r3), (0, .ref b9), (1, .ref a1), (2, .ref a2), (3, .ref a3), (4, .int a4)]) dL_law_1215 (by decide) rfl ?_
  refine r_aload_n X 2 dL_law_1217 rfl rfl ?_
  refine r_aload_n X 0 dL_law_1218 rfl rfl ?_
  refine r_iload X dL_law_1219 rfl ?_
  refine r_iconst X (v := 1) dL_law_1221 (by decide) ?_
  refine r_iadd X dL_law_1222 ?_
  obtain ⟨x6, e7, E⟩ := gb_some E
  refine r_sld X hX dL_law_1223 e7 ?_
  obtain ⟨u11, e12, E⟩ := gb_some E
  obtain ⟨r8, g9, e10, E⟩ := cb_some E
  refine r_callV0 X hl0 (ci := 9) dL_law_1224 y_X9_coinsOf m_L_223 rfl rfl e12 (t_x9_coinsOf (l := l) (G := G) e10) rfl rfl (Nat.le_of_ble_eq_true rfl) (by decide) ?_
  refine r_istore X (L1 := [(6, .int r8), (5, .int r3), (0, .ref b9), (1, .ref a1), (2, .ref a2), (3, .ref a3), (4, .int a4)]) dL_law_1227 (by decide) rfl ?_
  refine r_aload_n X 2 dL_law_1229 rfl rfl ?_
  obtain ⟨u16, e17, E⟩ := gb_some E
  obtain ⟨r13, g14, e15, E⟩ := cb_some E
  refine r_callV0 X hl0 (ci := 9) dL_law_1230 y_X9_thrown m_L_133 rfl rfl e17 (t_x9_thrown (l := l) (G := G) e15) rfl rfl (Nat.le_of_ble_eq_true rfl) (by decide) ?_
  refine r_iload X dL_law_1233 rfl ?_
  refine r_icmp_eq X 1240 dL_law_1235 (by decide) (fun c18 => ?_) (fun c18 => ?_)
  · rw [if_pos c18] at E
    refine r_iload X dL_law_1240 rfl ?_
    refine r_if_ne X 1257 dL_law_1242 (by decide) (fun c19 => ?_) (fun c19 => ?_)
    · rw [if_neg c19] at E
      refine r_goto X 2692 dL_law_1257 (by decide) ?_
      refine r_iinc X (v := (a4 + 3)) (L1 := [(4, .int (a4 + 3)), (6, .int r8), (5, .int r3), (0, .ref b9), (1, .ref a1), (2, .ref a2), (3, .ref a3)]) dL_law_2692 rfl rfl (by decide) rfl ?_
      refine r_goto X 23 dL_law_2695 (by decide) ?_
      cases E
      exact r_widen X ⟨by first | exact Nat.le_add_right _ _ | exact Nat.add_le_add_left (by decide) _, Nat.le_trans hkc.1 hkc.2⟩ ⟨by first | exact Nat.le_add_right _ _ | exact Nat.add_le_add_left (by decide) _, Nat.le_trans hks.1 hks.2⟩ <| r_pick (by rfl : lpick [(4, .int (a4 + 3)), (6, .int r8), (5, .int r3), (0, .ref b9), (1, .ref a1), (2, .ref a2), (3, .ref a3)] [3, 4, 5, 6, 0] = _) (hc _ rfl)
    · rw [if_pos c19] at E
      refine r_aload_n X 3 dL_law_1245 rfl rfl ?_
      refine r_iconst X (v := 0) dL_law_1246 (by decide) ?_
      obtain ⟨x20, e21, E⟩ := gb_some E
      refine r_lald X dL_law_1247 e21 ?_
      refine r_iload X dL_law_1248 rfl ?_
      refine r_i2l X dL_law_1250 ?_
      refine r_lcmp X dL_law_1251 ?_
      refine r_if_eq X 1257 dL_law_1252 (by decide) (fun c22 => ?_) (fun c22 => ?_)
      · rw [if_pos c22] at E
        refine r_goto X 2692 dL_law_1257 (by decide) ?_
        refine r_iinc X (v := (a4 + 3)) (L1 := [(4, .int (a4 + 3)), (6, .int r8), (5, .int r3), (0, .ref b9), (1, .ref a1), (2, .ref a2), (3, .ref a3)]) dL_law_2692 rfl rfl (by decide) rfl ?_
        refine r_goto X 23 dL_law_2695 (by decide) ?_
        cases E
        exact r_widen X ⟨by first | exact Nat.le_add_right _ _ | exact Nat.add_le_add_left (by decide) _, Nat.le_trans hkc.1 hkc.2⟩ ⟨by first | exact Nat.le_add_right _ _ | exact Nat.add_le_add_left (by decide) _, Nat.le_trans hks.1 hks.2⟩ <| r_pick (by rfl : lpick [(4, .int (a4 + 3)), (6, .int r8), (5, .int r3), (0, .ref b9), (1, .ref a1), (2, .ref a2), (3, .ref a3)] [3, 4, 5, 6, 0] = _) (hc _ rfl)
      · rw [if_neg c22] at E
        refine r_iconst X (v := 0) dL_law_1255 (by decide) ?_
        cases E
        exact absurd (show (0 : Int32) = 1 from hx _ rfl) (by decide)
  · rw [if_neg c18] at E
    refine r_iconst X (v := 0) dL_law_1238 (by decide) ?_
    cases E
    exact absurd (show (0 : Int32) = 1 from hx _ rfl) (by decide)
set_option maxHeartbeats 4000000 in
set_option maxRecDepth 100000 in
theorem t_l_law_j1260_23 {l : Launch} (hst : l.stackTraces = false) {G : GG} {M : MC} {b9 Ln : Nat} {xs : Nat → Int32} (hX : HX M G b9 Ln xs) (X : CX M G cL_law 9 RL room_1) (hl0 : M.2.1 = l) {Q : State → Prop} {kc ks : Nat} {s9 : ((Int32) ⊕ ((Unit) ⊕ Int32))} {g1 : AH}  {a1 : Nat} {a2 : Nat} {a3 : Nat} {a4 : Int32} {Kc Ks : Nat} (hkc : kc + 3 ≤ Kc ∧ Kc ≤ 601024) (hks : ks + 18 ≤ Ks ∧ Ks ≤ 7293034) (hc : ∀ s1, s9 = .inl s1 → WW M G 9 Q (kc + 3) (ks + 18) g1 23 [(0, .ref b9), (1, .ref a1), (2, .ref a2), (3, .ref a3), (4, .int s1)] []) (hx : ∀ t, s9 = .inr t → Sum.elim (fun t1 => WW M G 9 Q Kc Ks g1 2698 [] []) (fun t2 : Int32 => t2 = 1) t) {g : AH} (E : l_law_j1260_23 Ln xs a1 a2 a3 a4 g = some (s9, g1)) : WW M G 9 Q kc ks g 1260 [(0, .ref b9), (1, .ref a1), (2, .ref a2), (3, .ref a3), (4, .int a4)] [] := by
  unfold l_law_j1260_23 at E
  refine r_aload_n X 1 dL_law_1260 rfl rfl ?_
  refine r_aload_n X 0 dL_law_1261 rfl rfl ?_
  refine r_iload X dL_law_1262 rfl ?_
  refine r_iconst X (v := 1) dL_law_1264 (by decide) ?_
  refine r_iadd X dL_law_1265 ?_
  obtain ⟨x1, e2, E⟩ := gb_some E
  refine r_sld X hX dL_law_1266 e2 ?_
  refine r_aload_n X 3 dL_law_1267 rfl rfl ?_
  obtain ⟨r3, g4, e5, E⟩ := cb_some E
  refine r_callW X hl0 dL_law_1268 y_L_debtOf m_L_224 (t_l_debtOf (l := l) hst (G := G) e5) rfl rfl (Nat.le_of_ble_eq_true rfl) ⟨by decide, by show _ + 1 ≤ 601024; omega, by show _ + 6 ≤ 7293034; omega⟩ ?_
  refine r_istore X (L1 := [(5, .int r3), (0, .ref b9), (1, .ref a1), (2, .ref a2), (3, .ref a3), (4, .int a4)]) dL_law_1271 (by decide) rfl ?_
  refine r_aload_n X 2 dL_law_1273 rfl rfl ?_
  refine r_aload_n X 0 dL_law_1274 rfl rfl ?_
  refine r_iload X dL_law_1275 rfl ?_
  refine r_iconst X (v := 1) dL_law_1277 (by decide) ?_
  refine r_iadd X dL_law_1278 ?_
  obtain ⟨x6, e7, E⟩ := gb_some E
  refine r_sld X hX dL_law_1279 e7 ?_
  obtain ⟨u11, e12, E⟩ := gb_some E
  obtain ⟨r8, g9, e10, E⟩ := cb_some E
  refine r_callV0 X hl0 (ci := 9) dL_law_1280 y_X9_debtOf m_L_226 rfl rfl e12 (t_x9_debtOf (l := l) (G := G) e10) rfl rfl (Nat.le_of_ble_eq_true rfl) (by decide) ?_
  refine r_istore X (L1 := [(6, .int r8), (5, .int r3), (0, .ref b9), (1, .ref a1), (2, .ref a2), (3, .ref a3), (4, .int a4)]) dL_law_1283 (by decide) rfl ?_
  refine r_aload_n X 2 dL_law_1285 rfl rfl ?_
  obtain ⟨u16, e17, E⟩ := gb_some E
  obtain ⟨r13, g14, e15, E⟩ := cb_some E
  refine r_callV0 X hl0 (ci := 9) dL_law_1286 y_X9_thrown m_L_133 rfl rfl e17 (t_x9_thrown (l := l) (G := G) e15) rfl rfl (Nat.le_of_ble_eq_true rfl) (by decide) ?_
  refine r_iload X dL_law_1289 rfl ?_
  refine r_icmp_eq X 1296 dL_law_1291 (by decide) (fun c18 => ?_) (fun c18 => ?_)
  · rw [if_pos c18] at E
    refine r_iload X dL_law_1296 rfl ?_
    refine r_if_ne X 1313 dL_law_1298 (by decide) (fun c19 => ?_) (fun c19 => ?_)
    · rw [if_neg c19] at E
      refine r_goto X 2692 dL_law_1313 (by decide) ?_
      refine r_iinc X (v := (a4 + 3)) (L1 := [(4, .int (a4 + 3)), (6, .int r8), (5, .int r3), (0, .ref b9), (1, .ref a1), (2, .ref a2), (3, .ref a3)]) dL_law_2692 rfl rfl (by decide) rfl ?_
      refine r_goto X 23 dL_law_2695 (by decide) ?_
      cases E
      exact r_widen X ⟨by first | exact Nat.le_add_right _ _ | exact Nat.add_le_add_left (by decide) _, Nat.le_trans hkc.1 hkc.2⟩ ⟨by first | exact Nat.le_add_right _ _ | exact Nat.add_le_add_left (by decide) _, Nat.le_trans hks.1 hks.2⟩ <| r_pick (by rfl : lpick [(4, .int (a4 + 3)), (6, .int r8), (5, .int r3), (0, .ref b9), (1, .ref a1), (2, .ref a2), (3, .ref a3)] [3, 4, 5, 6, 0] = _) (hc _ rfl)
    · rw [if_pos c19] at E
      refine r_aload_n X 3 dL_law_1301 rfl rfl ?_
      refine r_iconst X (v := 0) dL_law_1302 (by decide) ?_
      obtain ⟨x20, e21, E⟩ := gb_some E
      refine r_lald X dL_law_1303 e21 ?_
      refine r_iload X dL_law_1304 rfl ?_
      refine r_i2l X dL_law_1306 ?_
      refine r_lcmp X dL_law_1307 ?_
      refine r_if_eq X 1313 dL_law_1308 (by decide) (fun c22 => ?_) (fun c22 => ?_)
      · rw [if_pos c22] at E
        refine r_goto X 2692 dL_law_1313 (by decide) ?_
        refine r_iinc X (v := (a4 + 3)) (L1 := [(4, .int (a4 + 3)), (6, .int r8), (5, .int r3), (0, .ref b9), (1, .ref a1), (2, .ref a2), (3, .ref a3)]) dL_law_2692 rfl rfl (by decide) rfl ?_
        refine r_goto X 23 dL_law_2695 (by decide) ?_
        cases E
        exact r_widen X ⟨by first | exact Nat.le_add_right _ _ | exact Nat.add_le_add_left (by decide) _, Nat.le_trans hkc.1 hkc.2⟩ ⟨by first | exact Nat.le_add_right _ _ | exact Nat.add_le_add_left (by decide) _, Nat.le_trans hks.1 hks.2⟩ <| r_pick (by rfl : lpick [(4, .int (a4 + 3)), (6, .int r8), (5, .int r3), (0, .ref b9), (1, .ref a1), (2, .ref a2), (3, .ref a3)] [3, 4, 5, 6, 0] = _) (hc _ rfl)
      · rw [if_neg c22] at E
        refine r_iconst X (v := 0) dL_law_1311 (by decide) ?_
        cases E
        exact absurd (show (0 : Int32) = 1 from hx _ rfl) (by decide)
  · rw [if_neg c18] at E
    refine r_iconst X (v := 0) dL_law_1294 (by decide) ?_
    cases E
    exact absurd (show (0 : Int32) = 1 from hx _ rfl) (by decide)
set_option maxHeartbeats 4000000 in
set_option maxRecDepth 100000 in
theorem t_l_law_j1316_23 {l : Launch} (hst : l.stackTraces = false) {G : GG} {M : MC} {b9 Ln : Nat} {xs : Nat → Int32} (hX : HX M G b9 Ln xs) (X : CX M G cL_law 9 RL room_1) (hl0 : M.2.1 = l) {Q : State → Prop} {kc ks : Nat} {s9 : ((Int32) ⊕ ((Unit) ⊕ Int32))} {g1 : AH}  {a1 : Nat} {a2 : Nat} {a3 : Nat} {a4 : Int32} {Kc Ks : Nat} (hkc : kc + 3 ≤ Kc ∧ Kc ≤ 601024) (hks : ks + 18 ≤ Ks ∧ Ks ≤ 7293034) (hc : ∀ s1, s9 = .inl s1 → WW M G 9 Q (kc + 3) (ks + 18) g1 23 [(0, .ref b9), (1, .ref a1), (2, .ref a2), (3, .ref a3), (4, .int s1)] []) (hx : ∀ t, s9 = .inr t → Sum.elim (fun t1 => WW M G 9 Q Kc Ks g1 2698 [] []) (fun t2 : Int32 => t2 = 1) t) {g : AH} (E : l_law_j1316_23 Ln xs a1 a2 a3 a4 g = some (s9, g1)) : WW M G 9 Q kc ks g 1316 [(0, .ref b9), (1, .ref a1), (2, .ref a2), (3, .ref a3), (4, .int a4)] [] := by
  unfold l_law_j1316_23 at E
  refine r_aload_n X 1 dL_law_1316 rfl rfl ?_
  refine r_aload_n X 0 dL_law_1317 rfl rfl ?_
  refine r_iload X dL_law_1318 rfl ?_
  refine r_iconst X (v := 1) dL_law_1320 (by decide) ?_
  refine r_iadd X dL_law_1321 ?_
  obtain ⟨x1, e2, E⟩ := gb_some E
  refine r_sld X hX dL_law_1322 e2 ?_
  refine r_aload_n X 3 dL_law_1323 rfl rfl ?_
  obtain ⟨r3, g4, e5, E⟩ := cb_some E
  refine r_callW X hl0 dL_law_1324 y_L_hikerAtRank m_L_227 (t_l_hikerAtRank (l := l) hst (G := G) e5) rfl rfl (Nat.le_of_ble_eq_true rfl) ⟨by decide, by show _ + 1 ≤ 601024; omega, by show _ + 6 ≤ 7293034; omega⟩ ?_
  refine r_istore X (L1 := [(5, .int r3), (0, .ref b9), (1, .ref a1), (2, .ref a2), (3, .ref a3), (4, .int a4)]) dL_law_1327 (by decide) rfl ?_
  refine r_aload_n X 2 dL_law_1329 rfl rfl ?_
  refine r_aload_n X 0 dL_law_1330 rfl rfl ?_
  refine r_iload X dL_law_1331 rfl ?_
  refine r_iconst X (v := 1) dL_law_1333 (by decide) ?_
  refine r_iadd X dL_law_1334 ?_
  obtain ⟨x6, e7, E⟩ := gb_some E
  refine r_sld X hX dL_law_1335 e7 ?_
  obtain ⟨u11, e12, E⟩ := gb_some E
  obtain ⟨r8, g9, e10, E⟩ := cb_some E
  refine r_callV0 X hl0 (ci := 9) dL_law_1336 y_X9_hikerAtRank m_L_229 rfl rfl e12 (t_x9_hikerAtRank (l := l) (G := G) e10) rfl rfl (Nat.le_of_ble_eq_true rfl) (by decide) ?_
  refine r_istore X (L1 := [(6, .int r8), (5, .int r3), (0, .ref b9), (1, .ref a1), (2, .ref a2), (3, .ref a3), (4, .int a4)]) dL_law_1339 (by decide) rfl ?_
  refine r_aload_n X 2 dL_law_1341 rfl rfl ?_
  obtain ⟨u16, e17, E⟩ := gb_some E
  obtain ⟨r13, g14, e15, E⟩ := cb_some E
  refine r_callV0 X hl0 (ci := 9) dL_law_1342 y_X9_thrown m_L_133 rfl rfl e17 (t_x9_thrown (l := l) (G := G) e15) rfl rfl (Nat.le_of_ble_eq_true rfl) (by decide) ?_
  refine r_iload X dL_law_1345 rfl ?_
  refine r_icmp_eq X 1352 dL_law_1347 (by decide) (fun c18 => ?_) (fun c18 => ?_)
  · rw [if_pos c18] at E
    refine r_iload X dL_law_1352 rfl ?_
    refine r_if_ne X 1369 dL_law_1354 (by decide) (fun c19 => ?_) (fun c19 => ?_)
    · rw [if_neg c19] at E
      refine r_goto X 2692 dL_law_1369 (by decide) ?_
      refine r_iinc X (v := (a4 + 3)) (L1 := [(4, .int (a4 + 3)), (6, .int r8), (5, .int r3), (0, .ref b9), (1, .ref a1), (2, .ref a2), (3, .ref a3)]) dL_law_2692 rfl rfl (by decide) rfl ?_
      refine r_goto X 23 dL_law_2695 (by decide) ?_
      cases E
      exact r_widen X ⟨by first | exact Nat.le_add_right _ _ | exact Nat.add_le_add_left (by decide) _, Nat.le_trans hkc.1 hkc.2⟩ ⟨by first | exact Nat.le_add_right _ _ | exact Nat.add_le_add_left (by decide) _, Nat.le_trans hks.1 hks.2⟩ <| r_pick (by rfl : lpick [(4, .int (a4 + 3)), (6, .int r8), (5, .int r3), (0, .ref b9), (1, .ref a1), (2, .ref a2), (3, .ref a3)] [3, 4, 5, 6, 0] = _) (hc _ rfl)
    · rw [if_pos c19] at E
      refine r_aload_n X 3 dL_law_1357 rfl rfl ?_
      refine r_iconst X (v := 0) dL_law_1358 (by decide) ?_
      obtain ⟨x20, e21, E⟩ := gb_some E
      refine r_lald X dL_law_1359 e21 ?_
      refine r_iload X dL_law_1360 rfl ?_
      refine r_i2l X dL_law_1362 ?_
      refine r_lcmp X dL_law_1363 ?_
      refine r_if_eq X 1369 dL_law_1364 (by decide) (fun c22 => ?_) (fun c22 => ?_)
      · rw [if_pos c22] at E
        refine r_goto X 2692 dL_law_1369 (by decide) ?_
        refine r_iinc X (v := (a4 + 3)) (L1 := [(4, .int (a4 + 3)), (6, .int r8), (5, .int r3), (0, .ref b9), (1, .ref a1), (2, .ref a2), (3, .ref a3)]) dL_law_2692 rfl rfl (by decide) rfl ?_
        refine r_goto X 23 dL_law_2695 (by decide) ?_
        cases E
        exact r_widen X ⟨by first | exact Nat.le_add_right _ _ | exact Nat.add_le_add_left (by decide) _, Nat.le_trans hkc.1 hkc.2⟩ ⟨by first | exact Nat.le_add_right _ _ | exact Nat.add_le_add_left (by decide) _, Nat.le_trans hks.1 hks.2⟩ <| r_pick (by rfl : lpick [(4, .int (a4 + 3)), (6, .int r8), (5, .int r3), (0, .ref b9), (1, .ref a1), (2, .ref a2), (3, .ref a3)] [3, 4, 5, 6, 0] = _) (hc _ rfl)
      · rw [if_neg c22] at E
        refine r_iconst X (v := 0) dL_law_1367 (by decide) ?_
        cases E
        exact absurd (show (0 : Int32) = 1 from hx _ rfl) (by decide)
  · rw [if_neg c18] at E
    refine r_iconst X (v := 0) dL_law_1350 (by decide) ?_
    cases E
    exact absurd (show (0 : Int32) = 1 from hx _ rfl) (by decide)
set_option maxHeartbeats 4000000 in
set_option maxRecDepth 100000 in
theorem t_l_law_j1372_23 {l : Launch} (hst : l.stackTraces = false) {G : GG} {M : MC} {b9 Ln : Nat} {xs : Nat → Int32} (hX : HX M G b9 Ln xs) (X : CX M G cL_law 9 RL room_1) (hl0 : M.2.1 = l) {Q : State → Prop} {kc ks : Nat} {s9 : ((Int32) ⊕ ((Unit) ⊕ Int32))} {g1 : AH}  {a1 : Nat} {a2 : Nat} {a3 : Nat} {a4 : Int32} {Kc Ks : Nat} (hkc : kc + 3 ≤ Kc ∧ Kc ≤ 601024) (hks : ks + 18 ≤ Ks ∧ Ks ≤ 7293034) (hc : ∀ s1, s9 = .inl s1 → WW M G 9 Q (kc + 3) (ks + 18) g1 23 [(0, .ref b9), (1, .ref a1), (2, .ref a2), (3, .ref a3), (4, .int s1)] []) (hx : ∀ t, s9 = .inr t → Sum.elim (fun t1 => WW M G 9 Q Kc Ks g1 2698 [] []) (fun t2 : Int32 => t2 = 1) t) {g : AH} (E : l_law_j1372_23 Ln xs a1 a2 a3 a4 g = some (s9, g1)) : WW M G 9 Q kc ks g 1372 [(0, .ref b9), (1, .ref a1), (2, .ref a2), (3, .ref a3), (4, .int a4)] [] := by
  unfold l_law_j1372_23 at E
  refine r_aload_n X 1 dL_law_1372 rfl rfl ?_
  obtain ⟨u4, e5, E⟩ := gb_some E
  obtain ⟨r1, g2, e3, E⟩ := cb_some E
  refine r_callV0 X hl0 (ci := 8) dL_law_1373 y_X8_worstSnorer m_L_230 rfl rfl e5 (t_x8_worstSnorer (l := l) (G := G) e3) rfl rfl (Nat.le_of_ble_eq_true rfl) (by decide) ?_
  refine r_aload_n X 2 dL_law_1376 rfl rfl ?_
  obtain ⟨u9, e10, E⟩ := gb_some E
  obtain ⟨r6, g7, e8, E⟩ := cb_some E
  refine r_callV0 X hl0 (ci := 9) dL_law_1377 y_X9_worstSnorer m_L_233 rfl rfl e10 (t_x9_worstSnorer (l := l) (G := G) e8) rfl rfl (Nat.le_of_ble_eq_true rfl) (by decide) ?_
  refine r_icmp_eq X 2692 dL_law_1380 (by decide) (fun c11 => ?_) (fun c11 => ?_)
  · rw [if_pos c11] at E
    refine r_iinc X (v := (a4 + 3)) (L1 := [(4, .int (a4 + 3)), (0, .ref b9), (1, .ref a1), (2, .ref a2), (3, .ref a3)]) dL_law_2692 rfl rfl (by decide) rfl ?_
    refine r_goto X 23 dL_law_2695 (by decide) ?_
    cases E
    exact r_widen X ⟨by first | exact Nat.le_add_right _ _ | exact Nat.add_le_add_left (by decide) _, Nat.le_trans hkc.1 hkc.2⟩ ⟨by first | exact Nat.le_add_right _ _ | exact Nat.add_le_add_left (by decide) _, Nat.le_trans hks.1 hks.2⟩ <| r_pick (by rfl : lpick [(4, .int (a4 + 3)), (0, .ref b9), (1, .ref a1), (2, .ref a2), (3, .ref a3)] [1, 2, 3, 4, 0] = _) (hc _ rfl)
  · rw [if_neg c11] at E
    refine r_iconst X (v := 0) dL_law_1383 (by decide) ?_
    cases E
    exact absurd (show (0 : Int32) = 1 from hx _ rfl) (by decide)
set_option maxHeartbeats 4000000 in
set_option maxRecDepth 100000 in
theorem t_l_law_j1385_23 {l : Launch} (hst : l.stackTraces = false) {G : GG} {M : MC} {b9 Ln : Nat} {xs : Nat → Int32} (hX : HX M G b9 Ln xs) (X : CX M G cL_law 9 RL room_1) (hl0 : M.2.1 = l) {Q : State → Prop} {kc ks : Nat} {s9 : ((Int32) ⊕ ((Unit) ⊕ Int32))} {g1 : AH}  {a1 : Nat} {a2 : Nat} {a3 : Nat} {a4 : Int32} {Kc Ks : Nat} (hkc : kc + 3 ≤ Kc ∧ Kc ≤ 601024) (hks : ks + 18 ≤ Ks ∧ Ks ≤ 7293034) (hc : ∀ s1, s9 = .inl s1 → WW M G 9 Q (kc + 3) (ks + 18) g1 23 [(0, .ref b9), (1, .ref a1), (2, .ref a2), (3, .ref a3), (4, .int s1)] []) (hx : ∀ t, s9 = .inr t → Sum.elim (fun t1 => WW M G 9 Q Kc Ks g1 2698 [] []) (fun t2 : Int32 => t2 = 1) t) {g : AH} (E : l_law_j1385_23 Ln xs a1 a2 a3 a4 g = some (s9, g1)) : WW M G 9 Q kc ks g 1385 [(0, .ref b9), (1, .ref a1), (2, .ref a2), (3, .ref a3), (4, .int a4)] [] := by
  unfold l_law_j1385_23 at E
  refine r_aload_n X 1 dL_law_1385 rfl rfl ?_
  obtain ⟨u4, e5, E⟩ := gb_some E
  obtain ⟨r1, g2, e3, E⟩ := cb_some E
  refine r_callV0 X hl0 (ci := 8) dL_law_1386 y_X8_hikersWithout m_L_234 rfl rfl e5 (t_x8_hikersWithout (l := l) (G := G) e3) rfl rfl (Nat.le_of_ble_eq_true rfl) (by decide) ?_
  refine r_aload_n X 2 dL_law_1389 rfl rfl ?_
  obtain ⟨u9, e10, E⟩ := gb_some E
  obtain ⟨r6, g7, e8, E⟩ := cb_some E
  refine r_callV0 X hl0 (ci := 9) dL_law_1390 y_X9_hikersWithout m_L_237 rfl rfl e10 (t_x9_hikersWithout (l := l) (G := G) e8) rfl rfl (Nat.le_of_ble_eq_true rfl) (by decide) ?_
  refine r_icmp_eq X 2692 dL_law_1393 (by decide) (fun c11 => ?_) (fun c11 => ?_)
  · rw [if_pos c11] at E
    refine r_iinc X (v := (a4 + 3)) (L1 := [(4, .int (a4 + 3)), (0, .ref b9), (1, .ref a1), (2, .ref a2), (3, .ref a3)]) dL_law_2692 rfl rfl (by decide) rfl ?_
    refine r_goto X 23 dL_law_2695 (by decide) ?_
    cases E
    exact r_widen X ⟨by first | exact Nat.le_add_right _ _ | exact Nat.add_le_add_left (by decide) _, Nat.le_trans hkc.1 hkc.2⟩ ⟨by first | exact Nat.le_add_right _ _ | exact Nat.add_le_add_left (by decide) _, Nat.le_trans hks.1 hks.2⟩ <| r_pick (by rfl : lpick [(4, .int (a4 + 3)), (0, .ref b9), (1, .ref a1), (2, .ref a2), (3, .ref a3)] [1, 2, 3, 4, 0] = _) (hc _ rfl)
  · rw [if_neg c11] at E
    refine r_iconst X (v := 0) dL_law_1396 (by decide) ?_
    cases E
    exact absurd (show (0 : Int32) = 1 from hx _ rfl) (by decide)
set_option maxHeartbeats 4000000 in
set_option maxRecDepth 100000 in
theorem t_l_law_j1398_23 {l : Launch} (hst : l.stackTraces = false) {G : GG} {M : MC} {b9 Ln : Nat} {xs : Nat → Int32} (hX : HX M G b9 Ln xs) (X : CX M G cL_law 9 RL room_1) (hl0 : M.2.1 = l) {Q : State → Prop} {kc ks : Nat} {s9 : ((Int32) ⊕ ((Unit) ⊕ Int32))} {g1 : AH}  {a1 : Nat} {a2 : Nat} {a3 : Nat} {a4 : Int32} {Kc Ks : Nat} (hkc : kc + 3 ≤ Kc ∧ Kc ≤ 601024) (hks : ks + 18 ≤ Ks ∧ Ks ≤ 7293034) (hc : ∀ s1, s9 = .inl s1 → WW M G 9 Q (kc + 3) (ks + 18) g1 23 [(0, .ref b9), (1, .ref a1), (2, .ref a2), (3, .ref a3), (4, .int s1)] []) (hx : ∀ t, s9 = .inr t → Sum.elim (fun t1 => WW M G 9 Q Kc Ks g1 2698 [] []) (fun t2 : Int32 => t2 = 1) t) {g : AH} (E : l_law_j1398_23 Ln xs a1 a2 a3 a4 g = some (s9, g1)) : WW M G 9 Q kc ks g 1398 [(0, .ref b9), (1, .ref a1), (2, .ref a2), (3, .ref a3), (4, .int a4)] [] := by
  unfold l_law_j1398_23 at E
  refine r_aload_n X 1 dL_law_1398 rfl rfl ?_
  obtain ⟨u4, e5, E⟩ := gb_some E
  obtain ⟨r1, g2, e3, E⟩ := cb_some E
  refine r_callV0 X hl0 (ci := 8) dL_law_1399 y_X8_coldHikers m_L_238 rfl rfl e5 (t_x8_coldHikers (l := l) (G := G) e3) rfl rfl (Nat.le_of_ble_eq_true rfl) (by decide) ?_
  refine r_aload_n X 2 dL_law_1402 rfl rfl ?_
  obtain ⟨u9, e10, E⟩ := gb_some E
  obtain ⟨r6, g7, e8, E⟩ := cb_some E
  refine r_callV0 X hl0 (ci := 9) dL_law_1403 y_X9_coldHikers m_L_241 rfl rfl e10 (t_x9_coldHikers (l := l) (G := G) e8) rfl rfl (Nat.le_of_ble_eq_true rfl) (by decide) ?_
  refine r_icmp_eq X 2692 dL_law_1406 (by decide) (fun c11 => ?_) (fun c11 => ?_)
  · rw [if_pos c11] at E
    refine r_iinc X (v := (a4 + 3)) (L1 := [(4, .int (a4 + 3)), (0, .ref b9), (1, .ref a1), (2, .ref a2), (3, .ref a3)]) dL_law_2692 rfl rfl (by decide) rfl ?_
    refine r_goto X 23 dL_law_2695 (by decide) ?_
    cases E
    exact r_widen X ⟨by first | exact Nat.le_add_right _ _ | exact Nat.add_le_add_left (by decide) _, Nat.le_trans hkc.1 hkc.2⟩ ⟨by first | exact Nat.le_add_right _ _ | exact Nat.add_le_add_left (by decide) _, Nat.le_trans hks.1 hks.2⟩ <| r_pick (by rfl : lpick [(4, .int (a4 + 3)), (0, .ref b9), (1, .ref a1), (2, .ref a2), (3, .ref a3)] [1, 2, 3, 4, 0] = _) (hc _ rfl)
  · rw [if_neg c11] at E
    refine r_iconst X (v := 0) dL_law_1409 (by decide) ?_
    cases E
    exact absurd (show (0 : Int32) = 1 from hx _ rfl) (by decide)
set_option maxHeartbeats 4000000 in
set_option maxRecDepth 100000 in
theorem t_l_law_j1411_23 {l : Launch} (hst : l.stackTraces = false) {G : GG} {M : MC} {b9 Ln : Nat} {xs : Nat → Int32} (hX : HX M G b9 Ln xs) (X : CX M G cL_law 9 RL room_1) (hl0 : M.2.1 = l) {Q : State → Prop} {kc ks : Nat} {s9 : ((Int32) ⊕ ((Unit) ⊕ Int32))} {g1 : AH}  {a1 : Nat} {a2 : Nat} {a3 : Nat} {a4 : Int32} {Kc Ks : Nat} (hkc : kc + 3 ≤ Kc ∧ Kc ≤ 601024) (hks : ks + 18 ≤ Ks ∧ Ks ≤ 7293034) (hc : ∀ s1, s9 = .inl s1 → WW M G 9 Q (kc + 3) (ks + 18) g1 23 [(0, .ref b9), (1, .ref a1), (2, .ref a2), (3, .ref a3), (4, .int s1)] []) (hx : ∀ t, s9 = .inr t → Sum.elim (fun t1 => WW M G 9 Q Kc Ks g1 2698 [] []) (fun t2 : Int32 => t2 = 1) t) {g : AH} (E : l_law_j1411_23 Ln xs a1 a2 a3 a4 g = some (s9, g1)) : WW M G 9 Q kc ks g 1411 [(0, .ref b9), (1, .ref a1), (2, .ref a2), (3, .ref a3), (4, .int a4)] [] := by
  unfold l_law_j1411_23 at E
  refine r_aload_n X 1 dL_law_1411 rfl rfl ?_
  obtain ⟨u4, e5, E⟩ := gb_some E
  obtain ⟨r1, g2, e3, E⟩ := cb_some E
  refine r_callV0 X hl0 (ci := 8) dL_law_1412 y_X8_coldestHiker m_L_242 rfl rfl e5 (t_x8_coldestHiker (l := l) (G := G) e3) rfl rfl (Nat.le_of_ble_eq_true rfl) (by decide) ?_
  refine r_aload_n X 2 dL_law_1415 rfl rfl ?_
  obtain ⟨u9, e10, E⟩ := gb_some E
  obtain ⟨r6, g7, e8, E⟩ := cb_some E
  refine r_callV0 X hl0 (ci := 9) dL_law_1416 y_X9_coldestHiker m_L_245 rfl rfl e10 (t_x9_coldestHiker (l := l) (G := G) e8) rfl rfl (Nat.le_of_ble_eq_true rfl) (by decide) ?_
  refine r_icmp_eq X 2692 dL_law_1419 (by decide) (fun c11 => ?_) (fun c11 => ?_)
  · rw [if_pos c11] at E
    refine r_iinc X (v := (a4 + 3)) (L1 := [(4, .int (a4 + 3)), (0, .ref b9), (1, .ref a1), (2, .ref a2), (3, .ref a3)]) dL_law_2692 rfl rfl (by decide) rfl ?_
    refine r_goto X 23 dL_law_2695 (by decide) ?_
    cases E
    exact r_widen X ⟨by first | exact Nat.le_add_right _ _ | exact Nat.add_le_add_left (by decide) _, Nat.le_trans hkc.1 hkc.2⟩ ⟨by first | exact Nat.le_add_right _ _ | exact Nat.add_le_add_left (by decide) _, Nat.le_trans hks.1 hks.2⟩ <| r_pick (by rfl : lpick [(4, .int (a4 + 3)), (0, .ref b9), (1, .ref a1), (2, .ref a2), (3, .ref a3)] [1, 2, 3, 4, 0] = _) (hc _ rfl)
  · rw [if_neg c11] at E
    refine r_iconst X (v := 0) dL_law_1422 (by decide) ?_
    cases E
    exact absurd (show (0 : Int32) = 1 from hx _ rfl) (by decide)
set_option maxHeartbeats 4000000 in
set_option maxRecDepth 100000 in
theorem t_l_law_j1424_23 {l : Launch} (hst : l.stackTraces = false) {G : GG} {M : MC} {b9 Ln : Nat} {xs : Nat → Int32} (hX : HX M G b9 Ln xs) (X : CX M G cL_law 9 RL room_1) (hl0 : M.2.1 = l) {Q : State → Prop} {kc ks : Nat} {s9 : ((Int32) ⊕ ((Unit) ⊕ Int32))} {g1 : AH}  {a1 : Nat} {a2 : Nat} {a3 : Nat} {a4 : Int32} {Kc Ks : Nat} (hkc : kc + 3 ≤ Kc ∧ Kc ≤ 601024) (hks : ks + 18 ≤ Ks ∧ Ks ≤ 7293034) (hc : ∀ s1, s9 = .inl s1 → WW M G 9 Q (kc + 3) (ks + 18) g1 23 [(0, .ref b9), (1, .ref a1), (2, .ref a2), (3, .ref a3), (4, .int s1)] []) (hx : ∀ t, s9 = .inr t → Sum.elim (fun t1 => WW M G 9 Q Kc Ks g1 2698 [] []) (fun t2 : Int32 => t2 = 1) t) {g : AH} (E : l_law_j1424_23 Ln xs a1 a2 a3 a4 g = some (s9, g1)) : WW M G 9 Q kc ks g 1424 [(0, .ref b9), (1, .ref a1), (2, .ref a2), (3, .ref a3), (4, .int a4)] [] := by
  unfold l_law_j1424_23 at E
  refine r_aload_n X 1 dL_law_1424 rfl rfl ?_
  obtain ⟨u4, e5, E⟩ := gb_some E
  obtain ⟨r1, g2, e3, E⟩ := cb_some E
  refine r_callV0 X hl0 (ci := 8) dL_law_1425 y_X8_fewestCold m_L_246 rfl rfl e5 (t_x8_fewestCold (l := l) (G := G) e3) rfl rfl (Nat.le_of_ble_eq_true rfl) (by decide) ?_
  refine r_aload_n X 2 dL_law_1428 rfl rfl ?_
  obtain ⟨u9, e10, E⟩ := gb_some E
  obtain ⟨r6, g7, e8, E⟩ := cb_some E
  refine r_callV0 X hl0 (ci := 9) dL_law_1429 y_X9_fewestCold m_L_249 rfl rfl e10 (t_x9_fewestCold (l := l) (G := G) e8) rfl rfl (Nat.le_of_ble_eq_true rfl) (by decide) ?_
  refine r_icmp_eq X 2692 dL_law_1432 (by decide) (fun c11 => ?_) (fun c11 => ?_)
  · rw [if_pos c11] at E
    refine r_iinc X (v := (a4 + 3)) (L1 := [(4, .int (a4 + 3)), (0, .ref b9), (1, .ref a1), (2, .ref a2), (3, .ref a3)]) dL_law_2692 rfl rfl (by decide) rfl ?_
    refine r_goto X 23 dL_law_2695 (by decide) ?_
    cases E
    exact r_widen X ⟨by first | exact Nat.le_add_right _ _ | exact Nat.add_le_add_left (by decide) _, Nat.le_trans hkc.1 hkc.2⟩ ⟨by first | exact Nat.le_add_right _ _ | exact Nat.add_le_add_left (by decide) _, Nat.le_trans hks.1 hks.2⟩ <| r_pick (by rfl : lpick [(4, .int (a4 + 3)), (0, .ref b9), (1, .ref a1), (2, .ref a2), (3, .ref a3)] [1, 2, 3, 4, 0] = _) (hc _ rfl)
  · rw [if_neg c11] at E
    refine r_iconst X (v := 0) dL_law_1435 (by decide) ?_
    cases E
    exact absurd (show (0 : Int32) = 1 from hx _ rfl) (by decide)
set_option maxHeartbeats 4000000 in
set_option maxRecDepth 100000 in
theorem t_l_law_j1437_23 {l : Launch} (hst : l.stackTraces = false) {G : GG} {M : MC} {b9 Ln : Nat} {xs : Nat → Int32} (hX : HX M G b9 Ln xs) (X : CX M G cL_law 9 RL room_1) (hl0 : M.2.1 = l) {Q : State → Prop} {kc ks : Nat} {s9 : ((Int32) ⊕ ((Unit) ⊕ Int32))} {g1 : AH}  {a1 : Nat} {a2 : Nat} {a3 : Nat} {a4 : Int32} {Kc Ks : Nat} (hkc : kc + 3 ≤ Kc ∧ Kc ≤ 601024) (hks : ks + 18 ≤ Ks ∧ Ks ≤ 7293034) (hc : ∀ s1, s9 = .inl s1 → WW M G 9 Q (kc + 3) (ks + 18) g1 23 [(0, .ref b9), (1, .ref a1), (2, .ref a2), (3, .ref a3), (4, .int s1)] []) (hx : ∀ t, s9 = .inr t → Sum.elim (fun t1 => WW M G 9 Q Kc Ks g1 2698 [] []) (fun t2 : Int32 => t2 = 1) t) {g : AH} (E : l_law_j1437_23 Ln xs a1 a2 a3 a4 g = some (s9, g1)) : WW M G 9 Q kc ks g 1437 [(0, .ref b9), (1, .ref a1), (2, .ref a2), (3, .ref a3), (4, .int a4)] [] := by
  unfold l_law_j1437_23 at E
  refine r_aload_n X 1 dL_law_1437 rfl rfl ?_
  obtain ⟨u4, e5, E⟩ := gb_some E
  obtain ⟨r1, g2, e3, E⟩ := cb_some E
  refine r_callV0 X hl0 (ci := 8) dL_law_1438 y_X8_bestExchange m_L_250 rfl rfl e5 (t_x8_bestExchange (l := l) (G := G) e3) rfl rfl (Nat.le_of_ble_eq_true rfl) (by decide) ?_
  refine r_aload_n X 2 dL_law_1441 rfl rfl ?_
  obtain ⟨u9, e10, E⟩ := gb_some E
  obtain ⟨r6, g7, e8, E⟩ := cb_some E
  refine r_callV0 X hl0 (ci := 9) dL_law_1442 y_X9_bestExchange m_L_253 rfl rfl e10 (t_x9_bestExchange (l := l) (G := G) e8) rfl rfl (Nat.le_of_ble_eq_true rfl) (by decide) ?_
  refine r_icmp_eq X 2692 dL_law_1445 (by decide) (fun c11 => ?_) (fun c11 => ?_)
  · rw [if_pos c11] at E
    refine r_iinc X (v := (a4 + 3)) (L1 := [(4, .int (a4 + 3)), (0, .ref b9), (1, .ref a1), (2, .ref a2), (3, .ref a3)]) dL_law_2692 rfl rfl (by decide) rfl ?_
    refine r_goto X 23 dL_law_2695 (by decide) ?_
    cases E
    exact r_widen X ⟨by first | exact Nat.le_add_right _ _ | exact Nat.add_le_add_left (by decide) _, Nat.le_trans hkc.1 hkc.2⟩ ⟨by first | exact Nat.le_add_right _ _ | exact Nat.add_le_add_left (by decide) _, Nat.le_trans hks.1 hks.2⟩ <| r_pick (by rfl : lpick [(4, .int (a4 + 3)), (0, .ref b9), (1, .ref a1), (2, .ref a2), (3, .ref a3)] [1, 2, 3, 4, 0] = _) (hc _ rfl)
  · rw [if_neg c11] at E
    refine r_iconst X (v := 0) dL_law_1448 (by decide) ?_
    cases E
    exact absurd (show (0 : Int32) = 1 from hx _ rfl) (by decide)
set_option maxHeartbeats 4000000 in
set_option maxRecDepth 100000 in
theorem t_l_law_j1450_23 {l : Launch} (hst : l.stackTraces = false) {G : GG} {M : MC} {b9 Ln : Nat} {xs : Nat → Int32} (hX : HX M G b9 Ln xs) (X : CX M G cL_law 9 RL room_1) (hl0 : M.2.1 = l) {Q : State → Prop} {kc ks : Nat} {s9 : ((Int32) ⊕ ((Unit) ⊕ Int32))} {g1 : AH}  {a1 : Nat} {a2 : Nat} {a3 : Nat} {a4 : Int32} {Kc Ks : Nat} (hkc : kc + 3 ≤ Kc ∧ Kc ≤ 601024) (hks : ks + 18 ≤ Ks ∧ Ks ≤ 7293034) (hc : ∀ s1, s9 = .inl s1 → WW M G 9 Q (kc + 3) (ks + 18) g1 23 [(0, .ref b9), (1, .ref a1), (2, .ref a2), (3, .ref a3), (4, .int s1)] []) (hx : ∀ t, s9 = .inr t → Sum.elim (fun t1 => WW M G 9 Q Kc Ks g1 2698 [] []) (fun t2 : Int32 => t2 = 1) t) {g : AH} (E : l_law_j1450_23 Ln xs a1 a2 a3 a4 g = some (s9, g1)) : WW M G 9 Q kc ks g 1450 [(0, .ref b9), (1, .ref a1), (2, .ref a2), (3, .ref a3), (4, .int a4)] [] := by
  unfold l_law_j1450_23 at E
  refine r_aload_n X 1 dL_law_1450 rfl rfl ?_
  refine r_aload_n X 0 dL_law_1451 rfl rfl ?_
  refine r_iload X dL_law_1452 rfl ?_
  refine r_iconst X (v := 1) dL_law_1454 (by decide) ?_
  refine r_iadd X dL_law_1455 ?_
  obtain ⟨x1, e2, E⟩ := gb_some E
  refine r_sld X hX dL_law_1456 e2 ?_
  refine r_aload_n X 3 dL_law_1457 rfl rfl ?_
  obtain ⟨r3, g4, e5, E⟩ := cb_some E
  refine r_callW X hl0 dL_law_1458 y_L_warmestBunk m_L_254 (t_l_warmestBunk (l := l) hst (G := G) e5) rfl rfl (Nat.le_of_ble_eq_true rfl) ⟨by decide, by show _ + 1 ≤ 601024; omega, by show _ + 6 ≤ 7293034; omega⟩ ?_
  refine r_istore X (L1 := [(5, .int r3), (0, .ref b9), (1, .ref a1), (2, .ref a2), (3, .ref a3), (4, .int a4)]) dL_law_1461 (by decide) rfl ?_
  refine r_aload_n X 2 dL_law_1463 rfl rfl ?_
  refine r_aload_n X 0 dL_law_1464 rfl rfl ?_
  refine r_iload X dL_law_1465 rfl ?_
  refine r_iconst X (v := 1) dL_law_1467 (by decide) ?_
  refine r_iadd X dL_law_1468 ?_
  obtain ⟨x6, e7, E⟩ := gb_some E
  refine r_sld X hX dL_law_1469 e7 ?_
  obtain ⟨u11, e12, E⟩ := gb_some E
  obtain ⟨r8, g9, e10, E⟩ := cb_some E
  refine r_callV0 X hl0 (ci := 9) dL_law_1470 y_X9_warmestBunk m_L_256 rfl rfl e12 (t_x9_warmestBunk (l := l) (G := G) e10) rfl rfl (Nat.le_of_ble_eq_true rfl) (by decide) ?_
  refine r_istore X (L1 := [(6, .int r8), (5, .int r3), (0, .ref b9), (1, .ref a1), (2, .ref a2), (3, .ref a3), (4, .int a4)]) dL_law_1473 (by decide) rfl ?_
  refine r_aload_n X 2 dL_law_1475 rfl rfl ?_
  obtain ⟨u16, e17, E⟩ := gb_some E
  obtain ⟨r13, g14, e15, E⟩ := cb_some E
  refine r_callV0 X hl0 (ci := 9) dL_law_1476 y_X9_thrown m_L_133 rfl rfl e17 (t_x9_thrown (l := l) (G := G) e15) rfl rfl (Nat.le_of_ble_eq_true rfl) (by decide) ?_
  refine r_iload X dL_law_1479 rfl ?_
  refine r_icmp_eq X 1486 dL_law_1481 (by decide) (fun c18 => ?_) (fun c18 => ?_)
  · rw [if_pos c18] at E
    refine r_iload X dL_law_1486 rfl ?_
    refine r_if_ne X 1503 dL_law_1488 (by decide) (fun c19 => ?_) (fun c19 => ?_)
    · rw [if_neg c19] at E
      refine r_goto X 2692 dL_law_1503 (by decide) ?_
      refine r_iinc X (v := (a4 + 3)) (L1 := [(4, .int (a4 + 3)), (6, .int r8), (5, .int r3), (0, .ref b9), (1, .ref a1), (2, .ref a2), (3, .ref a3)]) dL_law_2692 rfl rfl (by decide) rfl ?_
      refine r_goto X 23 dL_law_2695 (by decide) ?_
      cases E
      exact r_widen X ⟨by first | exact Nat.le_add_right _ _ | exact Nat.add_le_add_left (by decide) _, Nat.le_trans hkc.1 hkc.2⟩ ⟨by first | exact Nat.le_add_right _ _ | exact Nat.add_le_add_left (by decide) _, Nat.le_trans hks.1 hks.2⟩ <| r_pick (by rfl : lpick [(4, .int (a4 + 3)), (6, .int r8), (5, .int r3), (0, .ref b9), (1, .ref a1), (2, .ref a2), (3, .ref a3)] [3, 4, 5, 6, 0] = _) (hc _ rfl)
    · rw [if_pos c19] at E
      refine r_aload_n X 3 dL_law_1491 rfl rfl ?_
      refine r_iconst X (v := 0) dL_law_1492 (by decide) ?_
      obtain ⟨x20, e21, E⟩ := gb_some E
      refine r_lald X dL_law_1493 e21 ?_
      refine r_iload X dL_law_1494 rfl ?_
      refine r_i2l X dL_law_1496 ?_
      refine r_lcmp X dL_law_1497 ?_
      refine r_if_eq X 1503 dL_law_1498 (by decide) (fun c22 => ?_) (fun c22 => ?_)
      · rw [if_pos c22] at E
        refine r_goto X 2692 dL_law_1503 (by decide) ?_
        refine r_iinc X (v := (a4 + 3)) (L1 := [(4, .int (a4 + 3)), (6, .int r8), (5, .int r3), (0, .ref b9), (1, .ref a1), (2, .ref a2), (3, .ref a3)]) dL_law_2692 rfl rfl (by decide) rfl ?_
        refine r_goto X 23 dL_law_2695 (by decide) ?_
        cases E
        exact r_widen X ⟨by first | exact Nat.le_add_right _ _ | exact Nat.add_le_add_left (by decide) _, Nat.le_trans hkc.1 hkc.2⟩ ⟨by first | exact Nat.le_add_right _ _ | exact Nat.add_le_add_left (by decide) _, Nat.le_trans hks.1 hks.2⟩ <| r_pick (by rfl : lpick [(4, .int (a4 + 3)), (6, .int r8), (5, .int r3), (0, .ref b9), (1, .ref a1), (2, .ref a2), (3, .ref a3)] [3, 4, 5, 6, 0] = _) (hc _ rfl)
      · rw [if_neg c22] at E
        refine r_iconst X (v := 0) dL_law_1501 (by decide) ?_
        cases E
        exact absurd (show (0 : Int32) = 1 from hx _ rfl) (by decide)
  · rw [if_neg c18] at E
    refine r_iconst X (v := 0) dL_law_1484 (by decide) ?_
    cases E
    exact absurd (show (0 : Int32) = 1 from hx _ rfl) (by decide)
set_option maxHeartbeats 4000000 in
set_option maxRecDepth 100000 in
theorem t_l_law_j1506_23 {l : Launch} (hst : l.stackTraces = false) {G : GG} {M : MC} {b9 Ln : Nat} {xs : Nat → Int32} (hX : HX M G b9 Ln xs) (X : CX M G cL_law 9 RL room_1) (hl0 : M.2.1 = l) {Q : State → Prop} {kc ks : Nat} {s9 : ((Int32) ⊕ ((Unit) ⊕ Int32))} {g1 : AH}  {a1 : Nat} {a2 : Nat} {a3 : Nat} {a4 : Int32} {Kc Ks : Nat} (hkc : kc + 3 ≤ Kc ∧ Kc ≤ 601024) (hks : ks + 18 ≤ Ks ∧ Ks ≤ 7293034) (hc : ∀ s1, s9 = .inl s1 → WW M G 9 Q (kc + 3) (ks + 18) g1 23 [(0, .ref b9), (1, .ref a1), (2, .ref a2), (3, .ref a3), (4, .int s1)] []) (hx : ∀ t, s9 = .inr t → Sum.elim (fun t1 => WW M G 9 Q Kc Ks g1 2698 [] []) (fun t2 : Int32 => t2 = 1) t) {g : AH} (E : l_law_j1506_23 Ln xs a1 a2 a3 a4 g = some (s9, g1)) : WW M G 9 Q kc ks g 1506 [(0, .ref b9), (1, .ref a1), (2, .ref a2), (3, .ref a3), (4, .int a4)] [] := by
  unfold l_law_j1506_23 at E
  refine r_aload_n X 1 dL_law_1506 rfl rfl ?_
  obtain ⟨u4, e5, E⟩ := gb_some E
  obtain ⟨r1, g2, e3, E⟩ := cb_some E
  refine r_callV0 X hl0 (ci := 8) dL_law_1507 y_X8_hutCoins m_L_257 rfl rfl e5 (t_x8_hutCoins (l := l) (G := G) e3) rfl rfl (Nat.le_of_ble_eq_true rfl) (by decide) ?_
  refine r_aload_n X 2 dL_law_1510 rfl rfl ?_
  obtain ⟨u9, e10, E⟩ := gb_some E
  obtain ⟨r6, g7, e8, E⟩ := cb_some E
  refine r_callV0 X hl0 (ci := 9) dL_law_1511 y_X9_hutCoins m_L_260 rfl rfl e10 (t_x9_hutCoins (l := l) (G := G) e8) rfl rfl (Nat.le_of_ble_eq_true rfl) (by decide) ?_
  refine r_icmp_eq X 2692 dL_law_1514 (by decide) (fun c11 => ?_) (fun c11 => ?_)
  · rw [if_pos c11] at E
    refine r_iinc X (v := (a4 + 3)) (L1 := [(4, .int (a4 + 3)), (0, .ref b9), (1, .ref a1), (2, .ref a2), (3, .ref a3)]) dL_law_2692 rfl rfl (by decide) rfl ?_
    refine r_goto X 23 dL_law_2695 (by decide) ?_
    cases E
    exact r_widen X ⟨by first | exact Nat.le_add_right _ _ | exact Nat.add_le_add_left (by decide) _, Nat.le_trans hkc.1 hkc.2⟩ ⟨by first | exact Nat.le_add_right _ _ | exact Nat.add_le_add_left (by decide) _, Nat.le_trans hks.1 hks.2⟩ <| r_pick (by rfl : lpick [(4, .int (a4 + 3)), (0, .ref b9), (1, .ref a1), (2, .ref a2), (3, .ref a3)] [1, 2, 3, 4, 0] = _) (hc _ rfl)
  · rw [if_neg c11] at E
    refine r_iconst X (v := 0) dL_law_1517 (by decide) ?_
    cases E
    exact absurd (show (0 : Int32) = 1 from hx _ rfl) (by decide)
set_option maxHeartbeats 4000000 in
set_option maxRecDepth 100000 in
theorem t_l_law_j1519_23 {l : Launch} (hst : l.stackTraces = false) {G : GG} {M : MC} {b9 Ln : Nat} {xs : Nat → Int32} (hX : HX M G b9 Ln xs) (X : CX M G cL_law 9 RL room_1) (hl0 : M.2.1 = l) {Q : State → Prop} {kc ks : Nat} {s9 : ((Int32) ⊕ ((Unit) ⊕ Int32))} {g1 : AH}  {a1 : Nat} {a2 : Nat} {a3 : Nat} {a4 : Int32} {Kc Ks : Nat} (hkc : kc + 3 ≤ Kc ∧ Kc ≤ 601024) (hks : ks + 18 ≤ Ks ∧ Ks ≤ 7293034) (hc : ∀ s1, s9 = .inl s1 → WW M G 9 Q (kc + 3) (ks + 18) g1 23 [(0, .ref b9), (1, .ref a1), (2, .ref a2), (3, .ref a3), (4, .int s1)] []) (hx : ∀ t, s9 = .inr t → Sum.elim (fun t1 => WW M G 9 Q Kc Ks g1 2698 [] []) (fun t2 : Int32 => t2 = 1) t) {g : AH} (E : l_law_j1519_23 Ln xs a1 a2 a3 a4 g = some (s9, g1)) : WW M G 9 Q kc ks g 1519 [(0, .ref b9), (1, .ref a1), (2, .ref a2), (3, .ref a3), (4, .int a4)] [] := by
  unfold l_law_j1519_23 at E
  refine r_aload_n X 1 dL_law_1519 rfl rfl ?_
  obtain ⟨u4, e5, E⟩ := gb_some E
  obtain ⟨r1, g2, e3, E⟩ := cb_some E
  refine r_callV0 X hl0 (ci := 8) dL_law_1520 y_X8_burnedLogs m_L_261 rfl rfl e5 (t_x8_burnedLogs (l := l) (G := G) e3) rfl rfl (Nat.le_of_ble_eq_true rfl) (by decide) ?_
  refine r_aload_n X 2 dL_law_1523 rfl rfl ?_
  obtain ⟨u9, e10, E⟩ := gb_some E
  obtain ⟨r6, g7, e8, E⟩ := cb_some E
  refine r_callV0 X hl0 (ci := 9) dL_law_1524 y_X9_burnedLogs m_L_264 rfl rfl e10 (t_x9_burnedLogs (l := l) (G := G) e8) rfl rfl (Nat.le_of_ble_eq_true rfl) (by decide) ?_
  refine r_icmp_eq X 2692 dL_law_1527 (by decide) (fun c11 => ?_) (fun c11 => ?_)
  · rw [if_pos c11] at E
    refine r_iinc X (v := (a4 + 3)) (L1 := [(4, .int (a4 + 3)), (0, .ref b9), (1, .ref a1), (2, .ref a2), (3, .ref a3)]) dL_law_2692 rfl rfl (by decide) rfl ?_
    refine r_goto X 23 dL_law_2695 (by decide) ?_
    cases E
    exact r_widen X ⟨by first | exact Nat.le_add_right _ _ | exact Nat.add_le_add_left (by decide) _, Nat.le_trans hkc.1 hkc.2⟩ ⟨by first | exact Nat.le_add_right _ _ | exact Nat.add_le_add_left (by decide) _, Nat.le_trans hks.1 hks.2⟩ <| r_pick (by rfl : lpick [(4, .int (a4 + 3)), (0, .ref b9), (1, .ref a1), (2, .ref a2), (3, .ref a3)] [1, 2, 3, 4, 0] = _) (hc _ rfl)
  · rw [if_neg c11] at E
    refine r_iconst X (v := 0) dL_law_1530 (by decide) ?_
    cases E
    exact absurd (show (0 : Int32) = 1 from hx _ rfl) (by decide)
set_option maxHeartbeats 4000000 in
set_option maxRecDepth 100000 in
theorem t_l_law_j1532_23 {l : Launch} (hst : l.stackTraces = false) {G : GG} {M : MC} {b9 Ln : Nat} {xs : Nat → Int32} (hX : HX M G b9 Ln xs) (X : CX M G cL_law 9 RL room_1) (hl0 : M.2.1 = l) {Q : State → Prop} {kc ks : Nat} {s9 : ((Int32) ⊕ ((Unit) ⊕ Int32))} {g1 : AH}  {a1 : Nat} {a2 : Nat} {a3 : Nat} {a4 : Int32} {Kc Ks : Nat} (hkc : kc + 3 ≤ Kc ∧ Kc ≤ 601024) (hks : ks + 18 ≤ Ks ∧ Ks ≤ 7293034) (hc : ∀ s1, s9 = .inl s1 → WW M G 9 Q (kc + 3) (ks + 18) g1 23 [(0, .ref b9), (1, .ref a1), (2, .ref a2), (3, .ref a3), (4, .int s1)] []) (hx : ∀ t, s9 = .inr t → Sum.elim (fun t1 => WW M G 9 Q Kc Ks g1 2698 [] []) (fun t2 : Int32 => t2 = 1) t) {g : AH} (E : l_law_j1532_23 Ln xs a1 a2 a3 a4 g = some (s9, g1)) : WW M G 9 Q kc ks g 1532 [(0, .ref b9), (1, .ref a1), (2, .ref a2), (3, .ref a3), (4, .int a4)] [] := by
  unfold l_law_j1532_23 at E
  refine r_aload_n X 1 dL_law_1532 rfl rfl ?_
  obtain ⟨u4, e5, E⟩ := gb_some E
  obtain ⟨r1, g2, e3, E⟩ := cb_some E
  refine r_callV0 X hl0 (ci := 8) dL_law_1533 y_X8_totalDebt m_L_265 rfl rfl e5 (t_x8_totalDebt (l := l) (G := G) e3) rfl rfl (Nat.le_of_ble_eq_true rfl) (by decide) ?_
  refine r_aload_n X 2 dL_law_1536 rfl rfl ?_
  obtain ⟨u9, e10, E⟩ := gb_some E
  obtain ⟨r6, g7, e8, E⟩ := cb_some E
  refine r_callV0 X hl0 (ci := 9) dL_law_1537 y_X9_totalDebt m_L_268 rfl rfl e10 (t_x9_totalDebt (l := l) (G := G) e8) rfl rfl (Nat.le_of_ble_eq_true rfl) (by decide) ?_
  refine r_icmp_eq X 2692 dL_law_1540 (by decide) (fun c11 => ?_) (fun c11 => ?_)
  · rw [if_pos c11] at E
    refine r_iinc X (v := (a4 + 3)) (L1 := [(4, .int (a4 + 3)), (0, .ref b9), (1, .ref a1), (2, .ref a2), (3, .ref a3)]) dL_law_2692 rfl rfl (by decide) rfl ?_
    refine r_goto X 23 dL_law_2695 (by decide) ?_
    cases E
    exact r_widen X ⟨by first | exact Nat.le_add_right _ _ | exact Nat.add_le_add_left (by decide) _, Nat.le_trans hkc.1 hkc.2⟩ ⟨by first | exact Nat.le_add_right _ _ | exact Nat.add_le_add_left (by decide) _, Nat.le_trans hks.1 hks.2⟩ <| r_pick (by rfl : lpick [(4, .int (a4 + 3)), (0, .ref b9), (1, .ref a1), (2, .ref a2), (3, .ref a3)] [1, 2, 3, 4, 0] = _) (hc _ rfl)
  · rw [if_neg c11] at E
    refine r_iconst X (v := 0) dL_law_1543 (by decide) ?_
    cases E
    exact absurd (show (0 : Int32) = 1 from hx _ rfl) (by decide)
set_option maxHeartbeats 4000000 in
set_option maxRecDepth 100000 in
theorem t_l_law_j1545_23 {l : Launch} (hst : l.stackTraces = false) {G : GG} {M : MC} {b9 Ln : Nat} {xs : Nat → Int32} (hX : HX M G b9 Ln xs) (X : CX M G cL_law 9 RL room_1) (hl0 : M.2.1 = l) {Q : State → Prop} {kc ks : Nat} {s9 : ((Int32) ⊕ ((Unit) ⊕ Int32))} {g1 : AH}  {a1 : Nat} {a2 : Nat} {a3 : Nat} {a4 : Int32} {Kc Ks : Nat} (hkc : kc + 3 ≤ Kc ∧ Kc ≤ 601024) (hks : ks + 18 ≤ Ks ∧ Ks ≤ 7293034) (hc : ∀ s1, s9 = .inl s1 → WW M G 9 Q (kc + 3) (ks + 18) g1 23 [(0, .ref b9), (1, .ref a1), (2, .ref a2), (3, .ref a3), (4, .int s1)] []) (hx : ∀ t, s9 = .inr t → Sum.elim (fun t1 => WW M G 9 Q Kc Ks g1 2698 [] []) (fun t2 : Int32 => t2 = 1) t) {g : AH} (E : l_law_j1545_23 Ln xs a1 a2 a3 a4 g = some (s9, g1)) : WW M G 9 Q kc ks g 1545 [(0, .ref b9), (1, .ref a1), (2, .ref a2), (3, .ref a3), (4, .int a4)] [] := by
  unfold l_law_j1545_23 at E
  refine r_aload_n X 1 dL_law_1545 rfl rfl ?_
  obtain ⟨u4, e5, E⟩ := gb_some E
  obtain ⟨r1, g2, e3, E⟩ := cb_some E
  refine r_callV0 X hl0 (ci := 8) dL_law_1546 y_X8_auditDifference m_L_269 rfl rfl e5 (t_x8_auditDifference (l := l) (G := G) e3) rfl rfl (Nat.le_of_ble_eq_true rfl) (by decide) ?_
  refine r_aload_n X 2 dL_law_1549 rfl rfl ?_
  obtain ⟨u9, e10, E⟩ := gb_some E
  obtain ⟨r6, g7, e8, E⟩ := cb_some E
  refine r_callV0 X hl0 (ci := 9) dL_law_1550 y_X9_auditDifference m_L_272 rfl rfl e10 (t_x9_auditDifference (l := l) (G := G) e8) rfl rfl (Nat.le_of_ble_eq_true rfl) (by decide) ?_
  refine r_icmp_eq X 2692 dL_law_1553 (by decide) (fun c11 => ?_) (fun c11 => ?_)
  · rw [if_pos c11] at E
    refine r_iinc X (v := (a4 + 3)) (L1 := [(4, .int (a4 + 3)), (0, .ref b9), (1, .ref a1), (2, .ref a2), (3, .ref a3)]) dL_law_2692 rfl rfl (by decide) rfl ?_
    refine r_goto X 23 dL_law_2695 (by decide) ?_
    cases E
    exact r_widen X ⟨by first | exact Nat.le_add_right _ _ | exact Nat.add_le_add_left (by decide) _, Nat.le_trans hkc.1 hkc.2⟩ ⟨by first | exact Nat.le_add_right _ _ | exact Nat.add_le_add_left (by decide) _, Nat.le_trans hks.1 hks.2⟩ <| r_pick (by rfl : lpick [(4, .int (a4 + 3)), (0, .ref b9), (1, .ref a1), (2, .ref a2), (3, .ref a3)] [1, 2, 3, 4, 0] = _) (hc _ rfl)
  · rw [if_neg c11] at E
    refine r_iconst X (v := 0) dL_law_1556 (by decide) ?_
    cases E
    exact absurd (show (0 : Int32) = 1 from hx _ rfl) (by decide)
set_option maxHeartbeats 4000000 in
set_option maxRecDepth 100000 in
theorem t_l_law_j1558_23 {l : Launch} (hst : l.stackTraces = false) {G : GG} {M : MC} {b9 Ln : Nat} {xs : Nat → Int32} (hX : HX M G b9 Ln xs) (X : CX M G cL_law 9 RL room_1) (hl0 : M.2.1 = l) {Q : State → Prop} {kc ks : Nat} {s9 : ((Int32) ⊕ ((Unit) ⊕ Int32))} {g1 : AH}  {a1 : Nat} {a2 : Nat} {a3 : Nat} {a4 : Int32} {Kc Ks : Nat} (hkc : kc + 3 ≤ Kc ∧ Kc ≤ 601024) (hks : ks + 18 ≤ Ks ∧ Ks ≤ 7293034) (hc : ∀ s1, s9 = .inl s1 → WW M G 9 Q (kc + 3) (ks + 18) g1 23 [(0, .ref b9), (1, .ref a1), (2, .ref a2), (3, .ref a3), (4, .int s1)] []) (hx : ∀ t, s9 = .inr t → Sum.elim (fun t1 => WW M G 9 Q Kc Ks g1 2698 [] []) (fun t2 : Int32 => t2 = 1) t) {g : AH} (E : l_law_j1558_23 Ln xs a1 a2 a3 a4 g = some (s9, g1)) : WW M G 9 Q kc ks g 1558 [(0, .ref b9), (1, .ref a1), (2, .ref a2), (3, .ref a3), (4, .int a4)] [] := by
  unfold l_law_j1558_23 at E
  refine r_aload_n X 1 dL_law_1558 rfl rfl ?_
  obtain ⟨u4, e5, E⟩ := gb_some E
  obtain ⟨r1, g2, e3, E⟩ := cb_some E
  refine r_callV0 X hl0 (ci := 8) dL_law_1559 y_X8_meanWarmth m_L_273 rfl rfl e5 (t_x8_meanWarmth (l := l) (G := G) e3) rfl rfl (Nat.le_of_ble_eq_true rfl) (by decide) ?_
  refine r_dstore X (L1 := [(5, .double r1), (0, .ref b9), (1, .ref a1), (2, .ref a2), (3, .ref a3), (4, .int a4)]) dL_law_1562 (by decide) rfl ?_
  refine r_aload_n X 2 dL_law_1564 rfl rfl ?_
  obtain ⟨u9, e10, E⟩ := gb_some E
  obtain ⟨r6, g7, e8, E⟩ := cb_some E
  refine r_callV0 X hl0 (ci := 9) dL_law_1565 y_X9_meanWarmth m_L_277 rfl rfl e10 (t_x9_meanWarmth (l := l) (G := G) e8) rfl rfl (Nat.le_of_ble_eq_true rfl) (by decide) ?_
  refine r_dstore X (L1 := [(7, .double r6), (5, .double r1), (0, .ref b9), (1, .ref a1), (2, .ref a2), (3, .ref a3), (4, .int a4)]) dL_law_1568 (by decide) rfl ?_
  refine r_dload X dL_law_1570 rfl ?_
  refine r_dload X dL_law_1572 rfl ?_
  refine r_dcmp X dL_law_1574 ?_
  refine r_if_eq X 1596 dL_law_1575 (by decide) (fun c11 => ?_) (fun c11 => ?_)
  · rw [if_pos c11] at E
    refine r_goto X 2692 dL_law_1596 (by decide) ?_
    refine r_iinc X (v := (a4 + 3)) (L1 := [(4, .int (a4 + 3)), (7, .double r6), (5, .double r1), (0, .ref b9), (1, .ref a1), (2, .ref a2), (3, .ref a3)]) dL_law_2692 rfl rfl (by decide) rfl ?_
    refine r_goto X 23 dL_law_2695 (by decide) ?_
    cases E
    exact r_widen X ⟨by first | exact Nat.le_add_right _ _ | exact Nat.add_le_add_left (by decide) _, Nat.le_trans hkc.1 hkc.2⟩ ⟨by first | exact Nat.le_add_right _ _ | exact Nat.add_le_add_left (by decide) _, Nat.le_trans hks.1 hks.2⟩ <| r_pick (by rfl : lpick [(4, .int (a4 + 3)), (7, .double r6), (5, .double r1), (0, .ref b9), (1, .ref a1), (2, .ref a2), (3, .ref a3)] [3, 4, 5, 6, 0] = _) (hc _ rfl)
  · rw [if_neg c11] at E
    refine r_dload X dL_law_1578 rfl ?_
    refine r_dload X dL_law_1580 rfl ?_
    refine r_dcmp X dL_law_1582 ?_
    refine r_if_eq X 1594 dL_law_1583 (by decide) (fun c12 => ?_) (fun c12 => ?_)
    · rw [if_pos c12] at E
      refine r_iconst X (v := 0) dL_law_1594 (by decide) ?_
      cases E
      exact absurd (show (0 : Int32) = 1 from hx _ rfl) (by decide)
    · rw [if_neg c12] at E
      refine r_dload X dL_law_1586 rfl ?_
      refine r_dload X dL_law_1588 rfl ?_
      refine r_dcmp X dL_law_1590 ?_
      refine r_if_ne X 1596 dL_law_1591 (by decide) (fun c13 => ?_) (fun c13 => ?_)
      · rw [if_neg c13] at E
        refine r_goto X 2692 dL_law_1596 (by decide) ?_
        refine r_iinc X (v := (a4 + 3)) (L1 := [(4, .int (a4 + 3)), (7, .double r6), (5, .double r1), (0, .ref b9), (1, .ref a1), (2, .ref a2), (3, .ref a3)]) dL_law_2692 rfl rfl (by decide) rfl ?_
        refine r_goto X 23 dL_law_2695 (by decide) ?_
        cases E
        exact r_widen X ⟨by first | exact Nat.le_add_right _ _ | exact Nat.add_le_add_left (by decide) _, Nat.le_trans hkc.1 hkc.2⟩ ⟨by first | exact Nat.le_add_right _ _ | exact Nat.add_le_add_left (by decide) _, Nat.le_trans hks.1 hks.2⟩ <| r_pick (by rfl : lpick [(4, .int (a4 + 3)), (7, .double r6), (5, .double r1), (0, .ref b9), (1, .ref a1), (2, .ref a2), (3, .ref a3)] [3, 4, 5, 6, 0] = _) (hc _ rfl)
      · rw [if_pos c13] at E
        refine r_iconst X (v := 0) dL_law_1594 (by decide) ?_
        cases E
        exact absurd (show (0 : Int32) = 1 from hx _ rfl) (by decide)
set_option maxHeartbeats 4000000 in
set_option maxRecDepth 100000 in
theorem t_l_law_j1599_23 {l : Launch} (hst : l.stackTraces = false) {G : GG} {M : MC} {b9 Ln : Nat} {xs : Nat → Int32} (hX : HX M G b9 Ln xs) (X : CX M G cL_law 9 RL room_1) (hl0 : M.2.1 = l) {Q : State → Prop} {kc ks : Nat} {s9 : ((Int32) ⊕ ((Unit) ⊕ Int32))} {g1 : AH}  {a1 : Nat} {a2 : Nat} {a3 : Nat} {a4 : Int32} {Kc Ks : Nat} (hkc : kc + 3 ≤ Kc ∧ Kc ≤ 601024) (hks : ks + 18 ≤ Ks ∧ Ks ≤ 7293034) (hc : ∀ s1, s9 = .inl s1 → WW M G 9 Q (kc + 3) (ks + 18) g1 23 [(0, .ref b9), (1, .ref a1), (2, .ref a2), (3, .ref a3), (4, .int s1)] []) (hx : ∀ t, s9 = .inr t → Sum.elim (fun t1 => WW M G 9 Q Kc Ks g1 2698 [] []) (fun t2 : Int32 => t2 = 1) t) {g : AH} (E : l_law_j1599_23 Ln xs a1 a2 a3 a4 g = some (s9, g1)) : WW M G 9 Q kc ks g 1599 [(0, .ref b9), (1, .ref a1), (2, .ref a2), (3, .ref a3), (4, .int a4)] [] := by
  unfold l_law_j1599_23 at E
  refine r_aload_n X 1 dL_law_1599 rfl rfl ?_
  obtain ⟨u4, e5, E⟩ := gb_some E
  obtain ⟨r1, g2, e3, E⟩ := cb_some E
  refine r_callV0 X hl0 (ci := 8) dL_law_1600 y_X8_sleepShare m_L_278 rfl rfl e5 (t_x8_sleepShare (l := l) (G := G) e3) rfl rfl (Nat.le_of_ble_eq_true rfl) (by decide) ?_
  by_cases c6 : n64 (FP.f2d r1)
  rotate_left
  · rw [if_neg c6] at E; cases E
  rw [if_pos c6] at E
  refine r_f2d X dL_law_1603 c6 ?_
  refine r_dstore X (L1 := [(5, .double (FP.f2d r1)), (0, .ref b9), (1, .ref a1), (2, .ref a2), (3, .ref a3), (4, .int a4)]) dL_law_1604 (by decide) rfl ?_
  refine r_aload_n X 2 dL_law_1606 rfl rfl ?_
  obtain ⟨u10, e11, E⟩ := gb_some E
  obtain ⟨r7, g8, e9, E⟩ := cb_some E
  refine r_callV0 X hl0 (ci := 9) dL_law_1607 y_X9_sleepShare m_L_282 rfl rfl e11 (t_x9_sleepShare (l := l) (G := G) e9) rfl rfl (Nat.le_of_ble_eq_true rfl) (by decide) ?_
  by_cases c12 : n64 (FP.f2d r7)
  rotate_left
  · rw [if_neg c12] at E; cases E
  rw [if_pos c12] at E
  refine r_f2d X dL_law_1610 c12 ?_
  refine r_dstore X (L1 := [(7, .double (FP.f2d r7)), (5, .double (FP.f2d r1)), (0, .ref b9), (1, .ref a1), (2, .ref a2), (3, .ref a3), (4, .int a4)]) dL_law_1611 (by decide) rfl ?_
  refine r_dload X dL_law_1613 rfl ?_
  refine r_dload X dL_law_1615 rfl ?_
  refine r_dcmp X dL_law_1617 ?_
  refine r_if_eq X 1639 dL_law_1618 (by decide) (fun c13 => ?_) (fun c13 => ?_)
  · rw [if_pos c13] at E
    refine r_goto X 2692 dL_law_1639 (by decide) ?_
    refine r_iinc X (v := (a4 + 3)) (L1 := [(4, .int (a4 + 3)), (7, .double (FP.f2d r7)), (5, .double (FP.f2d r1)), (0, .ref b9), (1, .ref a1), (2, .ref a2), (3, .ref a3)]) dL_law_2692 rfl rfl (by decide) rfl ?_
    refine r_goto X 23 dL_law_2695 (by decide) ?_
    cases E
    exact r_widen X ⟨by first | exact Nat.le_add_right _ _ | exact Nat.add_le_add_left (by decide) _, Nat.le_trans hkc.1 hkc.2⟩ ⟨by first | exact Nat.le_add_right _ _ | exact Nat.add_le_add_left (by decide) _, Nat.le_trans hks.1 hks.2⟩ <| r_pick (by rfl : lpick [(4, .int (a4 + 3)), (7, .double (FP.f2d r7)), (5, .double (FP.f2d r1)), (0, .ref b9), (1, .ref a1), (2, .ref a2), (3, .ref a3)] [3, 4, 5, 6, 0] = _) (hc _ rfl)
  · rw [if_neg c13] at E
    refine r_dload X dL_law_1621 rfl ?_
    refine r_dload X dL_law_1623 rfl ?_
    refine r_dcmp X dL_law_1625 ?_
    refine r_if_eq X 1637 dL_law_1626 (by decide) (fun c14 => ?_) (fun c14 => ?_)
    · rw [if_pos c14] at E
      refine r_iconst X (v := 0) dL_law_1637 (by decide) ?_
      cases E
      exact absurd (show (0 : Int32) = 1 from hx _ rfl) (by decide)
    · rw [if_neg c14] at E
      refine r_dload X dL_law_1629 rfl ?_
      refine r_dload X dL_law_1631 rfl ?_
      refine r_dcmp X dL_law_1633 ?_
      refine r_if_ne X 1639 dL_law_1634 (by decide) (fun c15 => ?_) (fun c15 => ?_)
      · rw [if_neg c15] at E
        refine r_goto X 2692 dL_law_1639 (by decide) ?_
        refine r_iinc X (v := (a4 + 3)) (L1 := [(4, .int (a4 + 3)), (7, .double (FP.f2d r7)), (5, .double (FP.f2d r1)), (0, .ref b9), (1, .ref a1), (2, .ref a2), (3, .ref a3)]) dL_law_2692 rfl rfl (by decide) rfl ?_
        refine r_goto X 23 dL_law_2695 (by decide) ?_
        cases E
        exact r_widen X ⟨by first | exact Nat.le_add_right _ _ | exact Nat.add_le_add_left (by decide) _, Nat.le_trans hkc.1 hkc.2⟩ ⟨by first | exact Nat.le_add_right _ _ | exact Nat.add_le_add_left (by decide) _, Nat.le_trans hks.1 hks.2⟩ <| r_pick (by rfl : lpick [(4, .int (a4 + 3)), (7, .double (FP.f2d r7)), (5, .double (FP.f2d r1)), (0, .ref b9), (1, .ref a1), (2, .ref a2), (3, .ref a3)] [3, 4, 5, 6, 0] = _) (hc _ rfl)
      · rw [if_pos c15] at E
        refine r_iconst X (v := 0) dL_law_1637 (by decide) ?_
        cases E
        exact absurd (show (0 : Int32) = 1 from hx _ rfl) (by decide)
set_option maxHeartbeats 4000000 in
set_option maxRecDepth 100000 in
theorem t_l_law_j1642_23 {l : Launch} (hst : l.stackTraces = false) {G : GG} {M : MC} {b9 Ln : Nat} {xs : Nat → Int32} (hX : HX M G b9 Ln xs) (X : CX M G cL_law 9 RL room_1) (hl0 : M.2.1 = l) {Q : State → Prop} {kc ks : Nat} {s9 : ((Int32) ⊕ ((Unit) ⊕ Int32))} {g1 : AH}  {a1 : Nat} {a2 : Nat} {a3 : Nat} {a4 : Int32} {Kc Ks : Nat} (hkc : kc + 3 ≤ Kc ∧ Kc ≤ 601024) (hks : ks + 18 ≤ Ks ∧ Ks ≤ 7293034) (hc : ∀ s1, s9 = .inl s1 → WW M G 9 Q (kc + 3) (ks + 18) g1 23 [(0, .ref b9), (1, .ref a1), (2, .ref a2), (3, .ref a3), (4, .int s1)] []) (hx : ∀ t, s9 = .inr t → Sum.elim (fun t1 => WW M G 9 Q Kc Ks g1 2698 [] []) (fun t2 : Int32 => t2 = 1) t) {g : AH} (E : l_law_j1642_23 Ln xs a1 a2 a3 a4 g = some (s9, g1)) : WW M G 9 Q kc ks g 1642 [(0, .ref b9), (1, .ref a1), (2, .ref a2), (3, .ref a3), (4, .int a4)] [] := by
  unfold l_law_j1642_23 at E
  refine r_aload_n X 1 dL_law_1642 rfl rfl ?_
  refine r_aload_n X 0 dL_law_1643 rfl rfl ?_
  refine r_iload X dL_law_1644 rfl ?_
  refine r_iconst X (v := 1) dL_law_1646 (by decide) ?_
  refine r_iadd X dL_law_1647 ?_
  obtain ⟨x1, e2, E⟩ := gb_some E
  refine r_sld X hX dL_law_1648 e2 ?_
  refine r_aload_n X 3 dL_law_1649 rfl rfl ?_
  obtain ⟨r3, g4, e5, E⟩ := cb_some E
  refine r_callW X hl0 dL_law_1650 y_L_temperatureAfter m_L_283 (t_l_temperatureAfter (l := l) hst (G := G) e5) rfl rfl (Nat.le_of_ble_eq_true rfl) ⟨by decide, by show _ + 1 ≤ 601024; omega, by show _ + 6 ≤ 7293034; omega⟩ ?_
  refine r_istore X (L1 := [(5, .int r3), (0, .ref b9), (1, .ref a1), (2, .ref a2), (3, .ref a3), (4, .int a4)]) dL_law_1653 (by decide) rfl ?_
  refine r_aload_n X 2 dL_law_1655 rfl rfl ?_
  refine r_aload_n X 0 dL_law_1656 rfl rfl ?_
  refine r_iload X dL_law_1657 rfl ?_
  refine r_iconst X (v := 1) dL_law_1659 (by decide) ?_
  refine r_iadd X dL_law_1660 ?_
  obtain ⟨x6, e7, E⟩ := gb_some E
  refine r_sld X hX dL_law_1661 e7 ?_
  obtain ⟨u11, e12, E⟩ := gb_some E
  obtain ⟨r8, g9, e10, E⟩ := cb_some E
  refine r_callV0 X hl0 (ci := 9) dL_law_1662 y_X9_temperatureAfter m_L_285 rfl rfl e12 (t_x9_temperatureAfter (l := l) (G := G) e10) rfl rfl (Nat.le_of_ble_eq_true rfl) (by decide) ?_
  refine r_istore X (L1 := [(6, .int r8), (5, .int r3), (0, .ref b9), (1, .ref a1), (2, .ref a2), (3, .ref a3), (4, .int a4)]) dL_law_1665 (by decide) rfl ?_
  refine r_aload_n X 2 dL_law_1667 rfl rfl ?_
  obtain ⟨u16, e17, E⟩ := gb_some E
  obtain ⟨r13, g14, e15, E⟩ := cb_some E
  refine r_callV0 X hl0 (ci := 9) dL_law_1668 y_X9_thrown m_L_133 rfl rfl e17 (t_x9_thrown (l := l) (G := G) e15) rfl rfl (Nat.le_of_ble_eq_true rfl) (by decide) ?_
  refine r_iload X dL_law_1671 rfl ?_
  refine r_icmp_eq X 1678 dL_law_1673 (by decide) (fun c18 => ?_) (fun c18 => ?_)
  · rw [if_pos c18] at E
    refine r_iload X dL_law_1678 rfl ?_
    refine r_if_ne X 1695 dL_law_1680 (by decide) (fun c19 => ?_) (fun c19 => ?_)
    · rw [if_neg c19] at E
      refine r_goto X 2692 dL_law_1695 (by decide) ?_
      refine r_iinc X (v := (a4 + 3)) (L1 := [(4, .int (a4 + 3)), (6, .int r8), (5, .int r3), (0, .ref b9), (1, .ref a1), (2, .ref a2), (3, .ref a3)]) dL_law_2692 rfl rfl (by decide) rfl ?_
      refine r_goto X 23 dL_law_2695 (by decide) ?_
      cases E
      exact r_widen X ⟨by first | exact Nat.le_add_right _ _ | exact Nat.add_le_add_left (by decide) _, Nat.le_trans hkc.1 hkc.2⟩ ⟨by first | exact Nat.le_add_right _ _ | exact Nat.add_le_add_left (by decide) _, Nat.le_trans hks.1 hks.2⟩ <| r_pick (by rfl : lpick [(4, .int (a4 + 3)), (6, .int r8), (5, .int r3), (0, .ref b9), (1, .ref a1), (2, .ref a2), (3, .ref a3)] [3, 4, 5, 6, 0] = _) (hc _ rfl)
    · rw [if_pos c19] at E
      refine r_aload_n X 3 dL_law_1683 rfl rfl ?_
      refine r_iconst X (v := 0) dL_law_1684 (by decide) ?_
      obtain ⟨x20, e21, E⟩ := gb_some E
      refine r_lald X dL_law_1685 e21 ?_
      refine r_iload X dL_law_1686 rfl ?_
      refine r_i2l X dL_law_1688 ?_
      refine r_lcmp X dL_law_1689 ?_
      refine r_if_eq X 1695 dL_law_1690 (by decide) (fun c22 => ?_) (fun c22 => ?_)
      · rw [if_pos c22] at E
        refine r_goto X 2692 dL_law_1695 (by decide) ?_
        refine r_iinc X (v := (a4 + 3)) (L1 := [(4, .int (a4 + 3)), (6, .int r8), (5, .int r3), (0, .ref b9), (1, .ref a1), (2, .ref a2), (3, .ref a3)]) dL_law_2692 rfl rfl (by decide) rfl ?_
        refine r_goto X 23 dL_law_2695 (by decide) ?_
        cases E
        exact r_widen X ⟨by first | exact Nat.le_add_right _ _ | exact Nat.add_le_add_left (by decide) _, Nat.le_trans hkc.1 hkc.2⟩ ⟨by first | exact Nat.le_add_right _ _ | exact Nat.add_le_add_left (by decide) _, Nat.le_trans hks.1 hks.2⟩ <| r_pick (by rfl : lpick [(4, .int (a4 + 3)), (6, .int r8), (5, .int r3), (0, .ref b9), (1, .ref a1), (2, .ref a2), (3, .ref a3)] [3, 4, 5, 6, 0] = _) (hc _ rfl)
      · rw [if_neg c22] at E
        refine r_iconst X (v := 0) dL_law_1693 (by decide) ?_
        cases E
        exact absurd (show (0 : Int32) = 1 from hx _ rfl) (by decide)
  · rw [if_neg c18] at E
    refine r_iconst X (v := 0) dL_law_1676 (by decide) ?_
    cases E
    exact absurd (show (0 : Int32) = 1 from hx _ rfl) (by decide)
set_option maxHeartbeats 4000000 in
set_option maxRecDepth 100000 in
theorem t_l_law_j1698_23 {l : Launch} (hst : l.stackTraces = false) {G : GG} {M : MC} {b9 Ln : Nat} {xs : Nat → Int32} (hX : HX M G b9 Ln xs) (X : CX M G cL_law 9 RL room_1) (hl0 : M.2.1 = l) {Q : State → Prop} {kc ks : Nat} {s9 : ((Int32) ⊕ ((Unit) ⊕ Int32))} {g1 : AH}  {a1 : Nat} {a2 : Nat} {a3 : Nat} {a4 : Int32} {Kc Ks : Nat} (hkc : kc + 3 ≤ Kc ∧ Kc ≤ 601024) (hks : ks + 18 ≤ Ks ∧ Ks ≤ 7293034) (hc : ∀ s1, s9 = .inl s1 → WW M G 9 Q (kc + 3) (ks + 18) g1 23 [(0, .ref b9), (1, .ref a1), (2, .ref a2), (3, .ref a3), (4, .int s1)] []) (hx : ∀ t, s9 = .inr t → Sum.elim (fun t1 => WW M G 9 Q Kc Ks g1 2698 [] []) (fun t2 : Int32 => t2 = 1) t) {g : AH} (E : l_law_j1698_23 Ln xs a1 a2 a3 a4 g = some (s9, g1)) : WW M G 9 Q kc ks g 1698 [(0, .ref b9), (1, .ref a1), (2, .ref a2), (3, .ref a3), (4, .int a4)] [] := by
  unfold l_law_j1698_23 at E
  refine r_aload_n X 1 dL_law_1698 rfl rfl ?_
  refine r_aload_n X 0 dL_law_1699 rfl rfl ?_
  refine r_iload X dL_law_1700 rfl ?_
  refine r_iconst X (v := 1) dL_law_1702 (by decide) ?_
  refine r_iadd X dL_law_1703 ?_
  obtain ⟨x1, e2, E⟩ := gb_some E
  refine r_sld X hX dL_law_1704 e2 ?_
  refine r_aload_n X 3 dL_law_1705 rfl rfl ?_
  obtain ⟨r3, g4, e5, E⟩ := cb_some E
  refine r_callW X hl0 dL_law_1706 y_L_shiversUntilDawn m_L_286 (t_l_shiversUntilDawn (l := l) hst (G := G) e5) rfl rfl (Nat.le_of_ble_eq_true rfl) ⟨by decide, by show _ + 1 ≤ 601024; omega, by show _ + 6 ≤ 7293034; omega⟩ ?_
  refine r_istore X (L1 := [(5, .int r3), (0, .ref b9), (1, .ref a1), (2, .ref a2), (3, .ref a3), (4, .int a4)]) dL_law_1709 (by decide) rfl ?_
  refine r_aload_n X 2 dL_law_1711 rfl rfl ?_
  refine r_aload_n X 0 dL_law_1712 rfl rfl ?_
  refine r_iload X dL_law_1713 rfl ?_
  refine r_iconst X (v := 1) dL_law_1715 (by decide) ?_
  refine r_iadd X dL_law_1716 ?_
  obtain ⟨x6, e7, E⟩ := gb_some E
  refine r_sld X hX dL_law_1717 e7 ?_
  obtain ⟨u11, e12, E⟩ := gb_some E
  obtain ⟨r8, g9, e10, E⟩ := cb_some E
  refine r_callV0 X hl0 (ci := 9) dL_law_1718 y_X9_shiversUntilDawn m_L_288 rfl rfl e12 (t_x9_shiversUntilDawn (l := l) (G := G) e10) rfl rfl (Nat.le_of_ble_eq_true rfl) (by decide) ?_
  refine r_istore X (L1 := [(6, .int r8), (5, .int r3), (0, .ref b9), (1, .ref a1), (2, .ref a2), (3, .ref a3), (4, .int a4)]) dL_law_1721 (by decide) rfl ?_
  refine r_aload_n X 2 dL_law_1723 rfl rfl ?_
  obtain ⟨u16, e17, E⟩ := gb_some E
  obtain ⟨r13, g14, e15, E⟩ := cb_some E
  refine r_callV0 X hl0 (ci := 9) dL_law_1724 y_X9_thrown m_L_133 rfl rfl e17 (t_x9_thrown (l := l) (G := G) e15) rfl rfl (Nat.le_of_ble_eq_true rfl) (by decide) ?_
  refine r_iload X dL_law_1727 rfl ?_
  refine r_icmp_eq X 1734 dL_law_1729 (by decide) (fun c18 => ?_) (fun c18 => ?_)
  · rw [if_pos c18] at E
    refine r_iload X dL_law_1734 rfl ?_
    refine r_if_ne X 1751 dL_law_1736 (by decide) (fun c19 => ?_) (fun c19 => ?_)
    · rw [if_neg c19] at E
      refine r_goto X 2692 dL_law_1751 (by decide) ?_
      refine r_iinc X (v := (a4 + 3)) (L1 := [(4, .int (a4 + 3)), (6, .int r8), (5, .int r3), (0, .ref b9), (1, .ref a1), (2, .ref a2), (3, .ref a3)]) dL_law_2692 rfl rfl (by decide) rfl ?_
      refine r_goto X 23 dL_law_2695 (by decide) ?_
      cases E
      exact r_widen X ⟨by first | exact Nat.le_add_right _ _ | exact Nat.add_le_add_left (by decide) _, Nat.le_trans hkc.1 hkc.2⟩ ⟨by first | exact Nat.le_add_right _ _ | exact Nat.add_le_add_left (by decide) _, Nat.le_trans hks.1 hks.2⟩ <| r_pick (by rfl : lpick [(4, .int (a4 + 3)), (6, .int r8), (5, .int r3), (0, .ref b9), (1, .ref a1), (2, .ref a2), (3, .ref a3)] [3, 4, 5, 6, 0] = _) (hc _ rfl)
    · rw [if_pos c19] at E
      refine r_aload_n X 3 dL_law_1739 rfl rfl ?_
      refine r_iconst X (v := 0) dL_law_1740 (by decide) ?_
      obtain ⟨x20, e21, E⟩ := gb_some E
      refine r_lald X dL_law_1741 e21 ?_
      refine r_iload X dL_law_1742 rfl ?_
      refine r_i2l X dL_law_1744 ?_
      refine r_lcmp X dL_law_1745 ?_
      refine r_if_eq X 1751 dL_law_1746 (by decide) (fun c22 => ?_) (fun c22 => ?_)
      · rw [if_pos c22] at E
        refine r_goto X 2692 dL_law_1751 (by decide) ?_
        refine r_iinc X (v := (a4 + 3)) (L1 := [(4, .int (a4 + 3)), (6, .int r8), (5, .int r3), (0, .ref b9), (1, .ref a1), (2, .ref a2), (3, .ref a3)]) dL_law_2692 rfl rfl (by decide) rfl ?_
        refine r_goto X 23 dL_law_2695 (by decide) ?_
        cases E
        exact r_widen X ⟨by first | exact Nat.le_add_right _ _ | exact Nat.add_le_add_left (by decide) _, Nat.le_trans hkc.1 hkc.2⟩ ⟨by first | exact Nat.le_add_right _ _ | exact Nat.add_le_add_left (by decide) _, Nat.le_trans hks.1 hks.2⟩ <| r_pick (by rfl : lpick [(4, .int (a4 + 3)), (6, .int r8), (5, .int r3), (0, .ref b9), (1, .ref a1), (2, .ref a2), (3, .ref a3)] [3, 4, 5, 6, 0] = _) (hc _ rfl)
      · rw [if_neg c22] at E
        refine r_iconst X (v := 0) dL_law_1749 (by decide) ?_
        cases E
        exact absurd (show (0 : Int32) = 1 from hx _ rfl) (by decide)
  · rw [if_neg c18] at E
    refine r_iconst X (v := 0) dL_law_1732 (by decide) ?_
    cases E
    exact absurd (show (0 : Int32) = 1 from hx _ rfl) (by decide)
set_option maxHeartbeats 4000000 in
set_option maxRecDepth 100000 in
theorem t_l_law_j1754_23 {l : Launch} (hst : l.stackTraces = false) {G : GG} {M : MC} {b9 Ln : Nat} {xs : Nat → Int32} (hX : HX M G b9 Ln xs) (X : CX M G cL_law 9 RL room_1) (hl0 : M.2.1 = l) {Q : State → Prop} {kc ks : Nat} {s9 : ((Int32) ⊕ ((Unit) ⊕ Int32))} {g1 : AH}  {a1 : Nat} {a2 : Nat} {a3 : Nat} {a4 : Int32} {Kc Ks : Nat} (hkc : kc + 3 ≤ Kc ∧ Kc ≤ 601024) (hks : ks + 18 ≤ Ks ∧ Ks ≤ 7293034) (hc : ∀ s1, s9 = .inl s1 → WW M G 9 Q (kc + 3) (ks + 18) g1 23 [(0, .ref b9), (1, .ref a1), (2, .ref a2), (3, .ref a3), (4, .int s1)] []) (hx : ∀ t, s9 = .inr t → Sum.elim (fun t1 => WW M G 9 Q Kc Ks g1 2698 [] []) (fun t2 : Int32 => t2 = 1) t) {g : AH} (E : l_law_j1754_23 Ln xs a1 a2 a3 a4 g = some (s9, g1)) : WW M G 9 Q kc ks g 1754 [(0, .ref b9), (1, .ref a1), (2, .ref a2), (3, .ref a3), (4, .int a4)] [] := by
  unfold l_law_j1754_23 at E
  refine r_aload_n X 1 dL_law_1754 rfl rfl ?_
  refine r_aload_n X 0 dL_law_1755 rfl rfl ?_
  refine r_iload X dL_law_1756 rfl ?_
  refine r_iconst X (v := 1) dL_law_1758 (by decide) ?_
  refine r_iadd X dL_law_1759 ?_
  obtain ⟨x1, e2, E⟩ := gb_some E
  refine r_sld X hX dL_law_1760 e2 ?_
  refine r_aload_n X 3 dL_law_1761 rfl rfl ?_
  obtain ⟨r3, g4, e5, E⟩ := cb_some E
  refine r_callW X hl0 dL_law_1762 y_L_paymentAtDawn m_L_289 (t_l_paymentAtDawn (l := l) hst (G := G) e5) rfl rfl (Nat.le_of_ble_eq_true rfl) ⟨by decide, by show _ + 1 ≤ 601024; omega, by show _ + 6 ≤ 7293034; omega⟩ ?_
  refine r_istore X (L1 := [(5, .int r3), (0, .ref b9), (1, .ref a1), (2, .ref a2), (3, .ref a3), (4, .int a4)]) dL_law_1765 (by decide) rfl ?_
  refine r_aload_n X 2 dL_law_1767 rfl rfl ?_
  refine r_aload_n X 0 dL_law_1768 rfl rfl ?_
  refine r_iload X dL_law_1769 rfl ?_
  refine r_iconst X (v := 1) dL_law_1771 (by decide) ?_
  refine r_iadd X dL_law_1772 ?_
  obtain ⟨x6, e7, E⟩ := gb_some E
  refine r_sld X hX dL_law_1773 e7 ?_
  obtain ⟨u11, e12, E⟩ := gb_some E
  obtain ⟨r8, g9, e10, E⟩ := cb_some E
  refine r_callV0 X hl0 (ci := 9) dL_law_1774 y_X9_paymentAtDawn m_L_291 rfl rfl e12 (t_x9_paymentAtDawn (l := l) (G := G) e10) rfl rfl (Nat.le_of_ble_eq_true rfl) (by decide) ?_
  refine r_istore X (L1 := [(6, .int r8), (5, .int r3), (0, .ref b9), (1, .ref a1), (2, .ref a2), (3, .ref a3), (4, .int a4)]) dL_law_1777 (by decide) rfl ?_
  refine r_aload_n X 2 dL_law_1779 rfl rfl ?_
  obtain ⟨u16, e17, E⟩ := gb_some E
  obtain ⟨r13, g14, e15, E⟩ := cb_some E
  refine r_callV0 X hl0 (ci := 9) dL_law_1780 y_X9_thrown m_L_133 rfl rfl e17 (t_x9_thrown (l := l) (G := G) e15) rfl rfl (Nat.le_of_ble_eq_true rfl) (by decide) ?_
  refine r_iload X dL_law_1783 rfl ?_
  refine r_icmp_eq X 1790 dL_law_1785 (by decide) (fun c18 => ?_) (fun c18 => ?_)
  · rw [if_pos c18] at E
    refine r_iload X dL_law_1790 rfl ?_
    refine r_if_ne X 1807 dL_law_1792 (by decide) (fun c19 => ?_) (fun c19 => ?_)
    · rw [if_neg c19] at E
      refine r_goto X 2692 dL_law_1807 (by decide) ?_
      refine r_iinc X (v := (a4 + 3)) (L1 := [(4, .int (a4 + 3)), (6, .int r8), (5, .int r3), (0, .ref b9), (1, .ref a1), (2, .ref a2), (3, .ref a3)]) dL_law_2692 rfl rfl (by decide) rfl ?_
      refine r_goto X 23 dL_law_2695 (by decide) ?_
      cases E
      exact r_widen X ⟨by first | exact Nat.le_add_right _ _ | exact Nat.add_le_add_left (by decide) _, Nat.le_trans hkc.1 hkc.2⟩ ⟨by first | exact Nat.le_add_right _ _ | exact Nat.add_le_add_left (by decide) _, Nat.le_trans hks.1 hks.2⟩ <| r_pick (by rfl : lpick [(4, .int (a4 + 3)), (6, .int r8), (5, .int r3), (0, .ref b9), (1, .ref a1), (2, .ref a2), (3, .ref a3)] [3, 4, 5, 6, 0] = _) (hc _ rfl)
    · rw [if_pos c19] at E
      refine r_aload_n X 3 dL_law_1795 rfl rfl ?_
      refine r_iconst X (v := 0) dL_law_1796 (by decide) ?_
      obtain ⟨x20, e21, E⟩ := gb_some E
      refine r_lald X dL_law_1797 e21 ?_
      refine r_iload X dL_law_1798 rfl ?_
      refine r_i2l X dL_law_1800 ?_
      refine r_lcmp X dL_law_1801 ?_
      refine r_if_eq X 1807 dL_law_1802 (by decide) (fun c22 => ?_) (fun c22 => ?_)
      · rw [if_pos c22] at E
        refine r_goto X 2692 dL_law_1807 (by decide) ?_
        refine r_iinc X (v := (a4 + 3)) (L1 := [(4, .int (a4 + 3)), (6, .int r8), (5, .int r3), (0, .ref b9), (1, .ref a1), (2, .ref a2), (3, .ref a3)]) dL_law_2692 rfl rfl (by decide) rfl ?_
        refine r_goto X 23 dL_law_2695 (by decide) ?_
        cases E
        exact r_widen X ⟨by first | exact Nat.le_add_right _ _ | exact Nat.add_le_add_left (by decide) _, Nat.le_trans hkc.1 hkc.2⟩ ⟨by first | exact Nat.le_add_right _ _ | exact Nat.add_le_add_left (by decide) _, Nat.le_trans hks.1 hks.2⟩ <| r_pick (by rfl : lpick [(4, .int (a4 + 3)), (6, .int r8), (5, .int r3), (0, .ref b9), (1, .ref a1), (2, .ref a2), (3, .ref a3)] [3, 4, 5, 6, 0] = _) (hc _ rfl)
      · rw [if_neg c22] at E
        refine r_iconst X (v := 0) dL_law_1805 (by decide) ?_
        cases E
        exact absurd (show (0 : Int32) = 1 from hx _ rfl) (by decide)
  · rw [if_neg c18] at E
    refine r_iconst X (v := 0) dL_law_1788 (by decide) ?_
    cases E
    exact absurd (show (0 : Int32) = 1 from hx _ rfl) (by decide)
set_option maxHeartbeats 4000000 in
set_option maxRecDepth 100000 in
theorem t_l_law_j1810_23 {l : Launch} (hst : l.stackTraces = false) {G : GG} {M : MC} {b9 Ln : Nat} {xs : Nat → Int32} (hX : HX M G b9 Ln xs) (X : CX M G cL_law 9 RL room_1) (hl0 : M.2.1 = l) {Q : State → Prop} {kc ks : Nat} {s9 : ((Int32) ⊕ ((Unit) ⊕ Int32))} {g1 : AH}  {a1 : Nat} {a2 : Nat} {a3 : Nat} {a4 : Int32} {Kc Ks : Nat} (hkc : kc + 3 ≤ Kc ∧ Kc ≤ 601024) (hks : ks + 18 ≤ Ks ∧ Ks ≤ 7293034) (hc : ∀ s1, s9 = .inl s1 → WW M G 9 Q (kc + 3) (ks + 18) g1 23 [(0, .ref b9), (1, .ref a1), (2, .ref a2), (3, .ref a3), (4, .int s1)] []) (hx : ∀ t, s9 = .inr t → Sum.elim (fun t1 => WW M G 9 Q Kc Ks g1 2698 [] []) (fun t2 : Int32 => t2 = 1) t) {g : AH} (E : l_law_j1810_23 Ln xs a1 a2 a3 a4 g = some (s9, g1)) : WW M G 9 Q kc ks g 1810 [(0, .ref b9), (1, .ref a1), (2, .ref a2), (3, .ref a3), (4, .int a4)] [] := by
  unfold l_law_j1810_23 at E
  refine r_aload_n X 1 dL_law_1810 rfl rfl ?_
  refine r_aload_n X 0 dL_law_1811 rfl rfl ?_
  refine r_iload X dL_law_1812 rfl ?_
  refine r_iconst X (v := 1) dL_law_1814 (by decide) ?_
  refine r_iadd X dL_law_1815 ?_
  obtain ⟨x1, e2, E⟩ := gb_some E
  refine r_sld X hX dL_law_1816 e2 ?_
  refine r_aload_n X 0 dL_law_1817 rfl rfl ?_
  refine r_iload X dL_law_1818 rfl ?_
  refine r_iconst X (v := 2) dL_law_1820 (by decide) ?_
  refine r_iadd X dL_law_1821 ?_
  obtain ⟨x3, e4, E⟩ := gb_some E
  refine r_sld X hX dL_law_1822 e4 ?_
  refine r_aload_n X 3 dL_law_1823 rfl rfl ?_
  obtain ⟨r5, g6, e7, E⟩ := cb_some E
  refine r_callW X hl0 dL_law_1824 y_L_debtAfter m_L_292 (t_l_debtAfter (l := l) hst (G := G) e7) rfl rfl (Nat.le_of_ble_eq_true rfl) ⟨by decide, by show _ + 2 ≤ 601024; omega, by show _ + 12 ≤ 7293034; omega⟩ ?_
  refine r_istore X (L1 := [(5, .int r5), (0, .ref b9), (1, .ref a1), (2, .ref a2), (3, .ref a3), (4, .int a4)]) dL_law_1827 (by decide) rfl ?_
  refine r_aload_n X 2 dL_law_1829 rfl rfl ?_
  refine r_aload_n X 0 dL_law_1830 rfl rfl ?_
  refine r_iload X dL_law_1831 rfl ?_
  refine r_iconst X (v := 1) dL_law_1833 (by decide) ?_
  refine r_iadd X dL_law_1834 ?_
  obtain ⟨x8, e9, E⟩ := gb_some E
  refine r_sld X hX dL_law_1835 e9 ?_
  refine r_aload_n X 0 dL_law_1836 rfl rfl ?_
  refine r_iload X dL_law_1837 rfl ?_
  refine r_iconst X (v := 2) dL_law_1839 (by decide) ?_
  refine r_iadd X dL_law_1840 ?_
  obtain ⟨x10, e11, E⟩ := gb_some E
  refine r_sld X hX dL_law_1841 e11 ?_
  obtain ⟨u15, e16, E⟩ := gb_some E
  obtain ⟨r12, g13, e14, E⟩ := cb_some E
  refine r_callV0 X hl0 (ci := 9) dL_law_1842 y_X9_debtAfter m_L_294 rfl rfl e16 (t_x9_debtAfter (l := l) (G := G) e14) rfl rfl (Nat.le_of_ble_eq_true rfl) (by decide) ?_
  refine r_istore X (L1 := [(6, .int r12), (5, .int r5), (0, .ref b9), (1, .ref a1), (2, .ref a2), (3, .ref a3), (4, .int a4)]) dL_law_1845 (by decide) rfl ?_
  refine r_aload_n X 2 dL_law_1847 rfl rfl ?_
  obtain ⟨u20, e21, E⟩ := gb_some E
  obtain ⟨r17, g18, e19, E⟩ := cb_some E
  refine r_callV0 X hl0 (ci := 9) dL_law_1848 y_X9_thrown m_L_133 rfl rfl e21 (t_x9_thrown (l := l) (G := G) e19) rfl rfl (Nat.le_of_ble_eq_true rfl) (by decide) ?_
  refine r_iload X dL_law_1851 rfl ?_
  refine r_icmp_eq X 1858 dL_law_1853 (by decide) (fun c22 => ?_) (fun c22 => ?_)
  · rw [if_pos c22] at E
    refine r_iload X dL_law_1858 rfl ?_
    refine r_if_ne X 1875 dL_law_1860 (by decide) (fun c23 => ?_) (fun c23 => ?_)
    · rw [if_neg c23] at E
      refine r_goto X 2692 dL_law_1875 (by decide) ?_
      refine r_iinc X (v := (a4 + 3)) (L1 := [(4, .int (a4 + 3)), (6, .int r12), (5, .int r5), (0, .ref b9), (1, .ref a1), (2, .ref a2), (3, .ref a3)]) dL_law_2692 rfl rfl (by decide) rfl ?_
      refine r_goto X 23 dL_law_2695 (by decide) ?_
      cases E
      exact r_widen X ⟨by first | exact Nat.le_add_right _ _ | exact Nat.add_le_add_left (by decide) _, Nat.le_trans hkc.1 hkc.2⟩ ⟨by first | exact Nat.le_add_right _ _ | exact Nat.add_le_add_left (by decide) _, Nat.le_trans hks.1 hks.2⟩ <| r_pick (by rfl : lpick [(4, .int (a4 + 3)), (6, .int r12), (5, .int r5), (0, .ref b9), (1, .ref a1), (2, .ref a2), (3, .ref a3)] [3, 4, 5, 6, 0] = _) (hc _ rfl)
    · rw [if_pos c23] at E
      refine r_aload_n X 3 dL_law_1863 rfl rfl ?_
      refine r_iconst X (v := 0) dL_law_1864 (by decide) ?_
      obtain ⟨x24, e25, E⟩ := gb_some E
      refine r_lald X dL_law_1865 e25 ?_
      refine r_iload X dL_law_1866 rfl ?_
      refine r_i2l X dL_law_1868 ?_
      refine r_lcmp X dL_law_1869 ?_
      refine r_if_eq X 1875 dL_law_1870 (by decide) (fun c26 => ?_) (fun c26 => ?_)
      · rw [if_pos c26] at E
        refine r_goto X 2692 dL_law_1875 (by decide) ?_
        refine r_iinc X (v := (a4 + 3)) (L1 := [(4, .int (a4 + 3)), (6, .int r12), (5, .int r5), (0, .ref b9), (1, .ref a1), (2, .ref a2), (3, .ref a3)]) dL_law_2692 rfl rfl (by decide) rfl ?_
        refine r_goto X 23 dL_law_2695 (by decide) ?_
        cases E
        exact r_widen X ⟨by first | exact Nat.le_add_right _ _ | exact Nat.add_le_add_left (by decide) _, Nat.le_trans hkc.1 hkc.2⟩ ⟨by first | exact Nat.le_add_right _ _ | exact Nat.add_le_add_left (by decide) _, Nat.le_trans hks.1 hks.2⟩ <| r_pick (by rfl : lpick [(4, .int (a4 + 3)), (6, .int r12), (5, .int r5), (0, .ref b9), (1, .ref a1), (2, .ref a2), (3, .ref a3)] [3, 4, 5, 6, 0] = _) (hc _ rfl)
      · rw [if_neg c26] at E
        refine r_iconst X (v := 0) dL_law_1873 (by decide) ?_
        cases E
        exact absurd (show (0 : Int32) = 1 from hx _ rfl) (by decide)
  · rw [if_neg c22] at E
    refine r_iconst X (v := 0) dL_law_1856 (by decide) ?_
    cases E
    exact absurd (show (0 : Int32) = 1 from hx _ rfl) (by decide)
set_option maxHeartbeats 4000000 in
set_option maxRecDepth 100000 in
theorem t_l_law_j1878_23 {l : Launch} (hst : l.stackTraces = false) {G : GG} {M : MC} {b9 Ln : Nat} {xs : Nat → Int32} (hX : HX M G b9 Ln xs) (X : CX M G cL_law 9 RL room_1) (hl0 : M.2.1 = l) {Q : State → Prop} {kc ks : Nat} {s9 : ((Int32) ⊕ ((Unit) ⊕ Int32))} {g1 : AH}  {a1 : Nat} {a2 : Nat} {a3 : Nat} {a4 : Int32} {Kc Ks : Nat} (hkc : kc + 3 ≤ Kc ∧ Kc ≤ 601024) (hks : ks + 18 ≤ Ks ∧ Ks ≤ 7293034) (hc : ∀ s1, s9 = .inl s1 → WW M G 9 Q (kc + 3) (ks + 18) g1 23 [(0, .ref b9), (1, .ref a1), (2, .ref a2), (3, .ref a3), (4, .int s1)] []) (hx : ∀ t, s9 = .inr t → Sum.elim (fun t1 => WW M G 9 Q Kc Ks g1 2698 [] []) (fun t2 : Int32 => t2 = 1) t) {g : AH} (E : l_law_j1878_23 Ln xs a1 a2 a3 a4 g = some (s9, g1)) : WW M G 9 Q kc ks g 1878 [(0, .ref b9), (1, .ref a1), (2, .ref a2), (3, .ref a3), (4, .int a4)] [] := by
  unfold l_law_j1878_23 at E
  refine r_aload_n X 1 dL_law_1878 rfl rfl ?_
  refine r_aload_n X 0 dL_law_1879 rfl rfl ?_
  refine r_iload X dL_law_1880 rfl ?_
  refine r_iconst X (v := 1) dL_law_1882 (by decide) ?_
  refine r_iadd X dL_law_1883 ?_
  obtain ⟨x1, e2, E⟩ := gb_some E
  refine r_sld X hX dL_law_1884 e2 ?_
  refine r_aload_n X 3 dL_law_1885 rfl rfl ?_
  obtain ⟨r3, g4, e5, E⟩ := cb_some E
  refine r_callW X hl0 dL_law_1886 y_L_dawnsUntilDebt m_L_295 (t_l_dawnsUntilDebt (l := l) hst (G := G) e5) rfl rfl (Nat.le_of_ble_eq_true rfl) ⟨by decide, by show _ + 1 ≤ 601024; omega, by show _ + 6 ≤ 7293034; omega⟩ ?_
  refine r_istore X (L1 := [(5, .int r3), (0, .ref b9), (1, .ref a1), (2, .ref a2), (3, .ref a3), (4, .int a4)]) dL_law_1889 (by decide) rfl ?_
  refine r_aload_n X 2 dL_law_1891 rfl rfl ?_
  refine r_aload_n X 0 dL_law_1892 rfl rfl ?_
  refine r_iload X dL_law_1893 rfl ?_
  refine r_iconst X (v := 1) dL_law_1895 (by decide) ?_
  refine r_iadd X dL_law_1896 ?_
  obtain ⟨x6, e7, E⟩ := gb_some E
  refine r_sld X hX dL_law_1897 e7 ?_
  obtain ⟨u11, e12, E⟩ := gb_some E
  obtain ⟨r8, g9, e10, E⟩ := cb_some E
  refine r_callV0 X hl0 (ci := 9) dL_law_1898 y_X9_dawnsUntilDebt m_L_297 rfl rfl e12 (t_x9_dawnsUntilDebt (l := l) (G := G) e10) rfl rfl (Nat.le_of_ble_eq_true rfl) (by decide) ?_
  refine r_istore X (L1 := [(6, .int r8), (5, .int r3), (0, .ref b9), (1, .ref a1), (2, .ref a2), (3, .ref a3), (4, .int a4)]) dL_law_1901 (by decide) rfl ?_
  refine r_aload_n X 2 dL_law_1903 rfl rfl ?_
  obtain ⟨u16, e17, E⟩ := gb_some E
  obtain ⟨r13, g14, e15, E⟩ := cb_some E
  refine r_callV0 X hl0 (ci := 9) dL_law_1904 y_X9_thrown m_L_133 rfl rfl e17 (t_x9_thrown (l := l) (G := G) e15) rfl rfl (Nat.le_of_ble_eq_true rfl) (by decide) ?_
  refine r_iload X dL_law_1907 rfl ?_
  refine r_icmp_eq X 1914 dL_law_1909 (by decide) (fun c18 => ?_) (fun c18 => ?_)
  · rw [if_pos c18] at E
    refine r_iload X dL_law_1914 rfl ?_
    refine r_if_ne X 1931 dL_law_1916 (by decide) (fun c19 => ?_) (fun c19 => ?_)
    · rw [if_neg c19] at E
      refine r_goto X 2692 dL_law_1931 (by decide) ?_
      refine r_iinc X (v := (a4 + 3)) (L1 := [(4, .int (a4 + 3)), (6, .int r8), (5, .int r3), (0, .ref b9), (1, .ref a1), (2, .ref a2), (3, .ref a3)]) dL_law_2692 rfl rfl (by decide) rfl ?_
      refine r_goto X 23 dL_law_2695 (by decide) ?_
      cases E
      exact r_widen X ⟨by first | exact Nat.le_add_right _ _ | exact Nat.add_le_add_left (by decide) _, Nat.le_trans hkc.1 hkc.2⟩ ⟨by first | exact Nat.le_add_right _ _ | exact Nat.add_le_add_left (by decide) _, Nat.le_trans hks.1 hks.2⟩ <| r_pick (by rfl : lpick [(4, .int (a4 + 3)), (6, .int r8), (5, .int r3), (0, .ref b9), (1, .ref a1), (2, .ref a2), (3, .ref a3)] [3, 4, 5, 6, 0] = _) (hc _ rfl)
    · rw [if_pos c19] at E
      refine r_aload_n X 3 dL_law_1919 rfl rfl ?_
      refine r_iconst X (v := 0) dL_law_1920 (by decide) ?_
      obtain ⟨x20, e21, E⟩ := gb_some E
      refine r_lald X dL_law_1921 e21 ?_
      refine r_iload X dL_law_1922 rfl ?_
      refine r_i2l X dL_law_1924 ?_
      refine r_lcmp X dL_law_1925 ?_
      refine r_if_eq X 1931 dL_law_1926 (by decide) (fun c22 => ?_) (fun c22 => ?_)
      · rw [if_pos c22] at E
        refine r_goto X 2692 dL_law_1931 (by decide) ?_
        refine r_iinc X (v := (a4 + 3)) (L1 := [(4, .int (a4 + 3)), (6, .int r8), (5, .int r3), (0, .ref b9), (1, .ref a1), (2, .ref a2), (3, .ref a3)]) dL_law_2692 rfl rfl (by decide) rfl ?_
        refine r_goto X 23 dL_law_2695 (by decide) ?_
        cases E
        exact r_widen X ⟨by first | exact Nat.le_add_right _ _ | exact Nat.add_le_add_left (by decide) _, Nat.le_trans hkc.1 hkc.2⟩ ⟨by first | exact Nat.le_add_right _ _ | exact Nat.add_le_add_left (by decide) _, Nat.le_trans hks.1 hks.2⟩ <| r_pick (by rfl : lpick [(4, .int (a4 + 3)), (6, .int r8), (5, .int r3), (0, .ref b9), (1, .ref a1), (2, .ref a2), (3, .ref a3)] [3, 4, 5, 6, 0] = _) (hc _ rfl)
      · rw [if_neg c22] at E
        refine r_iconst X (v := 0) dL_law_1929 (by decide) ?_
        cases E
        exact absurd (show (0 : Int32) = 1 from hx _ rfl) (by decide)
  · rw [if_neg c18] at E
    refine r_iconst X (v := 0) dL_law_1912 (by decide) ?_
    cases E
    exact absurd (show (0 : Int32) = 1 from hx _ rfl) (by decide)
set_option maxHeartbeats 4000000 in
set_option maxRecDepth 100000 in
theorem t_l_law_j1934_23 {l : Launch} (hst : l.stackTraces = false) {G : GG} {M : MC} {b9 Ln : Nat} {xs : Nat → Int32} (hX : HX M G b9 Ln xs) (X : CX M G cL_law 9 RL room_1) (hl0 : M.2.1 = l) {Q : State → Prop} {kc ks : Nat} {s9 : ((Int32) ⊕ ((Unit) ⊕ Int32))} {g1 : AH}  {a1 : Nat} {a2 : Nat} {a3 : Nat} {a4 : Int32} {Kc Ks : Nat} (hkc : kc + 3 ≤ Kc ∧ Kc ≤ 601024) (hks : ks + 18 ≤ Ks ∧ Ks ≤ 7293034) (hc : ∀ s1, s9 = .inl s1 → WW M G 9 Q (kc + 3) (ks + 18) g1 23 [(0, .ref b9), (1, .ref a1), (2, .ref a2), (3, .ref a3), (4, .int s1)] []) (hx : ∀ t, s9 = .inr t → Sum.elim (fun t1 => WW M G 9 Q Kc Ks g1 2698 [] []) (fun t2 : Int32 => t2 = 1) t) {g : AH} (E : l_law_j1934_23 Ln xs a1 a2 a3 a4 g = some (s9, g1)) : WW M G 9 Q kc ks g 1934 [(0, .ref b9), (1, .ref a1), (2, .ref a2), (3, .ref a3), (4, .int a4)] [] := by
  unfold l_law_j1934_23 at E
  refine r_aload_n X 1 dL_law_1934 rfl rfl ?_
  obtain ⟨u4, e5, E⟩ := gb_some E
  obtain ⟨r1, g2, e3, E⟩ := cb_some E
  refine r_callV0 X hl0 (ci := 8) dL_law_1935 y_X8_hoursUntilNoLogs m_L_298 rfl rfl e5 (t_x8_hoursUntilNoLogs (l := l) (G := G) e3) rfl rfl (Nat.le_of_ble_eq_true rfl) (by decide) ?_
  refine r_aload_n X 2 dL_law_1938 rfl rfl ?_
  obtain ⟨u9, e10, E⟩ := gb_some E
  obtain ⟨r6, g7, e8, E⟩ := cb_some E
  refine r_callV0 X hl0 (ci := 9) dL_law_1939 y_X9_hoursUntilNoLogs m_L_301 rfl rfl e10 (t_x9_hoursUntilNoLogs (l := l) (G := G) e8) rfl rfl (Nat.le_of_ble_eq_true rfl) (by decide) ?_
  refine r_icmp_eq X 2692 dL_law_1942 (by decide) (fun c11 => ?_) (fun c11 => ?_)
  · rw [if_pos c11] at E
    refine r_iinc X (v := (a4 + 3)) (L1 := [(4, .int (a4 + 3)), (0, .ref b9), (1, .ref a1), (2, .ref a2), (3, .ref a3)]) dL_law_2692 rfl rfl (by decide) rfl ?_
    refine r_goto X 23 dL_law_2695 (by decide) ?_
    cases E
    exact r_widen X ⟨by first | exact Nat.le_add_right _ _ | exact Nat.add_le_add_left (by decide) _, Nat.le_trans hkc.1 hkc.2⟩ ⟨by first | exact Nat.le_add_right _ _ | exact Nat.add_le_add_left (by decide) _, Nat.le_trans hks.1 hks.2⟩ <| r_pick (by rfl : lpick [(4, .int (a4 + 3)), (0, .ref b9), (1, .ref a1), (2, .ref a2), (3, .ref a3)] [1, 2, 3, 4, 0] = _) (hc _ rfl)
  · rw [if_neg c11] at E
    refine r_iconst X (v := 0) dL_law_1945 (by decide) ?_
    cases E
    exact absurd (show (0 : Int32) = 1 from hx _ rfl) (by decide)
set_option maxHeartbeats 4000000 in
set_option maxRecDepth 100000 in
theorem t_l_law_j1947_23 {l : Launch} (hst : l.stackTraces = false) {G : GG} {M : MC} {b9 Ln : Nat} {xs : Nat → Int32} (hX : HX M G b9 Ln xs) (X : CX M G cL_law 9 RL room_1) (hl0 : M.2.1 = l) {Q : State → Prop} {kc ks : Nat} {s9 : ((Int32) ⊕ ((Unit) ⊕ Int32))} {g1 : AH}  {a1 : Nat} {a2 : Nat} {a3 : Nat} {a4 : Int32} {Kc Ks : Nat} (hkc : kc + 3 ≤ Kc ∧ Kc ≤ 601024) (hks : ks + 18 ≤ Ks ∧ Ks ≤ 7293034) (hc : ∀ s1, s9 = .inl s1 → WW M G 9 Q (kc + 3) (ks + 18) g1 23 [(0, .ref b9), (1, .ref a1), (2, .ref a2), (3, .ref a3), (4, .int s1)] []) (hx : ∀ t, s9 = .inr t → Sum.elim (fun t1 => WW M G 9 Q Kc Ks g1 2698 [] []) (fun t2 : Int32 => t2 = 1) t) {g : AH} (E : l_law_j1947_23 Ln xs a1 a2 a3 a4 g = some (s9, g1)) : WW M G 9 Q kc ks g 1947 [(0, .ref b9), (1, .ref a1), (2, .ref a2), (3, .ref a3), (4, .int a4)] [] := by
  unfold l_law_j1947_23 at E
  refine r_aload_n X 1 dL_law_1947 rfl rfl ?_
  obtain ⟨u4, e5, E⟩ := gb_some E
  obtain ⟨r1, g2, e3, E⟩ := cb_some E
  refine r_callV0 X hl0 (ci := 8) dL_law_1948 y_X8_rateNeeded m_L_302 rfl rfl e5 (t_x8_rateNeeded (l := l) (G := G) e3) rfl rfl (Nat.le_of_ble_eq_true rfl) (by decide) ?_
  refine r_aload_n X 2 dL_law_1951 rfl rfl ?_
  obtain ⟨u9, e10, E⟩ := gb_some E
  obtain ⟨r6, g7, e8, E⟩ := cb_some E
  refine r_callV0 X hl0 (ci := 9) dL_law_1952 y_X9_rateNeeded m_L_305 rfl rfl e10 (t_x9_rateNeeded (l := l) (G := G) e8) rfl rfl (Nat.le_of_ble_eq_true rfl) (by decide) ?_
  refine r_icmp_eq X 2692 dL_law_1955 (by decide) (fun c11 => ?_) (fun c11 => ?_)
  · rw [if_pos c11] at E
    refine r_iinc X (v := (a4 + 3)) (L1 := [(4, .int (a4 + 3)), (0, .ref b9), (1, .ref a1), (2, .ref a2), (3, .ref a3)]) dL_law_2692 rfl rfl (by decide) rfl ?_
    refine r_goto X 23 dL_law_2695 (by decide) ?_
    cases E
    exact r_widen X ⟨by first | exact Nat.le_add_right _ _ | exact Nat.add_le_add_left (by decide) _, Nat.le_trans hkc.1 hkc.2⟩ ⟨by first | exact Nat.le_add_right _ _ | exact Nat.add_le_add_left (by decide) _, Nat.le_trans hks.1 hks.2⟩ <| r_pick (by rfl : lpick [(4, .int (a4 + 3)), (0, .ref b9), (1, .ref a1), (2, .ref a2), (3, .ref a3)] [1, 2, 3, 4, 0] = _) (hc _ rfl)
  · rw [if_neg c11] at E
    refine r_iconst X (v := 0) dL_law_1958 (by decide) ?_
    cases E
    exact absurd (show (0 : Int32) = 1 from hx _ rfl) (by decide)
set_option maxHeartbeats 4000000 in
set_option maxRecDepth 100000 in
theorem t_l_law_j1960_23 {l : Launch} (hst : l.stackTraces = false) {G : GG} {M : MC} {b9 Ln : Nat} {xs : Nat → Int32} (hX : HX M G b9 Ln xs) (X : CX M G cL_law 9 RL room_1) (hl0 : M.2.1 = l) {Q : State → Prop} {kc ks : Nat} {s9 : ((Int32) ⊕ ((Unit) ⊕ Int32))} {g1 : AH}  {a1 : Nat} {a2 : Nat} {a3 : Nat} {a4 : Int32} {Kc Ks : Nat} (hkc : kc + 3 ≤ Kc ∧ Kc ≤ 601024) (hks : ks + 18 ≤ Ks ∧ Ks ≤ 7293034) (hc : ∀ s1, s9 = .inl s1 → WW M G 9 Q (kc + 3) (ks + 18) g1 23 [(0, .ref b9), (1, .ref a1), (2, .ref a2), (3, .ref a3), (4, .int s1)] []) (hx : ∀ t, s9 = .inr t → Sum.elim (fun t1 => WW M G 9 Q Kc Ks g1 2698 [] []) (fun t2 : Int32 => t2 = 1) t) {g : AH} (E : l_law_j1960_23 Ln xs a1 a2 a3 a4 g = some (s9, g1)) : WW M G 9 Q kc ks g 1960 [(0, .ref b9), (1, .ref a1), (2, .ref a2), (3, .ref a3), (4, .int a4)] [] := by
  unfold l_law_j1960_23 at E
  refine r_aload_n X 1 dL_law_1960 rfl rfl ?_
  obtain ⟨u4, e5, E⟩ := gb_some E
  obtain ⟨r1, g2, e3, E⟩ := cb_some E
  refine r_callV0 X hl0 (ci := 8) dL_law_1961 y_X8_bestRate m_L_306 rfl rfl e5 (t_x8_bestRate (l := l) (G := G) e3) rfl rfl (Nat.le_of_ble_eq_true rfl) (by decide) ?_
  refine r_aload_n X 2 dL_law_1964 rfl rfl ?_
  obtain ⟨u9, e10, E⟩ := gb_some E
  obtain ⟨r6, g7, e8, E⟩ := cb_some E
  refine r_callV0 X hl0 (ci := 9) dL_law_1965 y_X9_bestRate m_L_309 rfl rfl e10 (t_x9_bestRate (l := l) (G := G) e8) rfl rfl (Nat.le_of_ble_eq_true rfl) (by decide) ?_
  refine r_icmp_eq X 2692 dL_law_1968 (by decide) (fun c11 => ?_) (fun c11 => ?_)
  · rw [if_pos c11] at E
    refine r_iinc X (v := (a4 + 3)) (L1 := [(4, .int (a4 + 3)), (0, .ref b9), (1, .ref a1), (2, .ref a2), (3, .ref a3)]) dL_law_2692 rfl rfl (by decide) rfl ?_
    refine r_goto X 23 dL_law_2695 (by decide) ?_
    cases E
    exact r_widen X ⟨by first | exact Nat.le_add_right _ _ | exact Nat.add_le_add_left (by decide) _, Nat.le_trans hkc.1 hkc.2⟩ ⟨by first | exact Nat.le_add_right _ _ | exact Nat.add_le_add_left (by decide) _, Nat.le_trans hks.1 hks.2⟩ <| r_pick (by rfl : lpick [(4, .int (a4 + 3)), (0, .ref b9), (1, .ref a1), (2, .ref a2), (3, .ref a3)] [1, 2, 3, 4, 0] = _) (hc _ rfl)
  · rw [if_neg c11] at E
    refine r_iconst X (v := 0) dL_law_1971 (by decide) ?_
    cases E
    exact absurd (show (0 : Int32) = 1 from hx _ rfl) (by decide)
set_option maxHeartbeats 4000000 in
set_option maxRecDepth 100000 in
theorem t_l_law_j1973_23 {l : Launch} (hst : l.stackTraces = false) {G : GG} {M : MC} {b9 Ln : Nat} {xs : Nat → Int32} (hX : HX M G b9 Ln xs) (X : CX M G cL_law 9 RL room_1) (hl0 : M.2.1 = l) {Q : State → Prop} {kc ks : Nat} {s9 : ((Int32) ⊕ ((Unit) ⊕ Int32))} {g1 : AH}  {a1 : Nat} {a2 : Nat} {a3 : Nat} {a4 : Int32} {Kc Ks : Nat} (hkc : kc + 3 ≤ Kc ∧ Kc ≤ 601024) (hks : ks + 18 ≤ Ks ∧ Ks ≤ 7293034) (hc : ∀ s1, s9 = .inl s1 → WW M G 9 Q (kc + 3) (ks + 18) g1 23 [(0, .ref b9), (1, .ref a1), (2, .ref a2), (3, .ref a3), (4, .int s1)] []) (hx : ∀ t, s9 = .inr t → Sum.elim (fun t1 => WW M G 9 Q Kc Ks g1 2698 [] []) (fun t2 : Int32 => t2 = 1) t) {g : AH} (E : l_law_j1973_23 Ln xs a1 a2 a3 a4 g = some (s9, g1)) : WW M G 9 Q kc ks g 1973 [(0, .ref b9), (1, .ref a1), (2, .ref a2), (3, .ref a3), (4, .int a4)] [] := by
  unfold l_law_j1973_23 at E
  refine r_aload_n X 1 dL_law_1973 rfl rfl ?_
  refine r_aload_n X 0 dL_law_1974 rfl rfl ?_
  refine r_iload X dL_law_1975 rfl ?_
  refine r_iconst X (v := 1) dL_law_1977 (by decide) ?_
  refine r_iadd X dL_law_1978 ?_
  obtain ⟨x1, e2, E⟩ := gb_some E
  refine r_sld X hX dL_law_1979 e2 ?_
  refine r_aload_n X 0 dL_law_1980 rfl rfl ?_
  refine r_iload X dL_law_1981 rfl ?_
  refine r_iconst X (v := 2) dL_law_1983 (by decide) ?_
  refine r_iadd X dL_law_1984 ?_
  obtain ⟨x3, e4, E⟩ := gb_some E
  refine r_sld X hX dL_law_1985 e4 ?_
  refine r_aload_n X 3 dL_law_1986 rfl rfl ?_
  obtain ⟨r5, g6, e7, E⟩ := cb_some E
  refine r_callW X hl0 dL_law_1987 y_L_takeBlanket m_L_310 (t_l_takeBlanket (l := l) hst (G := G) e7) rfl rfl (Nat.le_of_ble_eq_true rfl) ⟨by decide, by show _ + 3 ≤ 601024; omega, by show _ + 18 ≤ 7293034; omega⟩ ?_
  refine r_istore X (L1 := [(5, .int r5), (0, .ref b9), (1, .ref a1), (2, .ref a2), (3, .ref a3), (4, .int a4)]) dL_law_1990 (by decide) rfl ?_
  refine r_aload_n X 2 dL_law_1992 rfl rfl ?_
  refine r_aload_n X 0 dL_law_1993 rfl rfl ?_
  refine r_iload X dL_law_1994 rfl ?_
  refine r_iconst X (v := 1) dL_law_1996 (by decide) ?_
  refine r_iadd X dL_law_1997 ?_
  obtain ⟨x8, e9, E⟩ := gb_some E
  refine r_sld X hX dL_law_1998 e9 ?_
  refine r_aload_n X 0 dL_law_1999 rfl rfl ?_
  refine r_iload X dL_law_2000 rfl ?_
  refine r_iconst X (v := 2) dL_law_2002 (by decide) ?_
  refine r_iadd X dL_law_2003 ?_
  obtain ⟨x10, e11, E⟩ := gb_some E
  refine r_sld X hX dL_law_2004 e11 ?_
  obtain ⟨u15, e16, E⟩ := gb_some E
  obtain ⟨r12, g13, e14, E⟩ := cb_some E
  refine r_callV0 X hl0 (ci := 9) dL_law_2005 y_X9_takeBlanket m_L_312 rfl rfl e16 (t_x9_takeBlanket (l := l) (G := G) e14) rfl rfl (Nat.le_of_ble_eq_true rfl) (by decide) ?_
  refine r_istore X (L1 := [(6, .int r12), (5, .int r5), (0, .ref b9), (1, .ref a1), (2, .ref a2), (3, .ref a3), (4, .int a4)]) dL_law_2008 (by decide) rfl ?_
  refine r_aload_n X 2 dL_law_2010 rfl rfl ?_
  obtain ⟨u20, e21, E⟩ := gb_some E
  obtain ⟨r17, g18, e19, E⟩ := cb_some E
  refine r_callV0 X hl0 (ci := 9) dL_law_2011 y_X9_thrown m_L_133 rfl rfl e21 (t_x9_thrown (l := l) (G := G) e19) rfl rfl (Nat.le_of_ble_eq_true rfl) (by decide) ?_
  refine r_iload X dL_law_2014 rfl ?_
  refine r_icmp_eq X 2021 dL_law_2016 (by decide) (fun c22 => ?_) (fun c22 => ?_)
  · rw [if_pos c22] at E
    refine r_iload X dL_law_2021 rfl ?_
    refine r_if_ne X 2038 dL_law_2023 (by decide) (fun c23 => ?_) (fun c23 => ?_)
    · rw [if_neg c23] at E
      refine r_goto X 2692 dL_law_2038 (by decide) ?_
      refine r_iinc X (v := (a4 + 3)) (L1 := [(4, .int (a4 + 3)), (6, .int r12), (5, .int r5), (0, .ref b9), (1, .ref a1), (2, .ref a2), (3, .ref a3)]) dL_law_2692 rfl rfl (by decide) rfl ?_
      refine r_goto X 23 dL_law_2695 (by decide) ?_
      cases E
      exact r_widen X ⟨by first | exact Nat.le_add_right _ _ | exact Nat.add_le_add_left (by decide) _, Nat.le_trans hkc.1 hkc.2⟩ ⟨by first | exact Nat.le_add_right _ _ | exact Nat.add_le_add_left (by decide) _, Nat.le_trans hks.1 hks.2⟩ <| r_pick (by rfl : lpick [(4, .int (a4 + 3)), (6, .int r12), (5, .int r5), (0, .ref b9), (1, .ref a1), (2, .ref a2), (3, .ref a3)] [3, 4, 5, 6, 0] = _) (hc _ rfl)
    · rw [if_pos c23] at E
      refine r_aload_n X 3 dL_law_2026 rfl rfl ?_
      refine r_iconst X (v := 0) dL_law_2027 (by decide) ?_
      obtain ⟨x24, e25, E⟩ := gb_some E
      refine r_lald X dL_law_2028 e25 ?_
      refine r_iload X dL_law_2029 rfl ?_
      refine r_i2l X dL_law_2031 ?_
      refine r_lcmp X dL_law_2032 ?_
      refine r_if_eq X 2038 dL_law_2033 (by decide) (fun c26 => ?_) (fun c26 => ?_)
      · rw [if_pos c26] at E
        refine r_goto X 2692 dL_law_2038 (by decide) ?_
        refine r_iinc X (v := (a4 + 3)) (L1 := [(4, .int (a4 + 3)), (6, .int r12), (5, .int r5), (0, .ref b9), (1, .ref a1), (2, .ref a2), (3, .ref a3)]) dL_law_2692 rfl rfl (by decide) rfl ?_
        refine r_goto X 23 dL_law_2695 (by decide) ?_
        cases E
        exact r_widen X ⟨by first | exact Nat.le_add_right _ _ | exact Nat.add_le_add_left (by decide) _, Nat.le_trans hkc.1 hkc.2⟩ ⟨by first | exact Nat.le_add_right _ _ | exact Nat.add_le_add_left (by decide) _, Nat.le_trans hks.1 hks.2⟩ <| r_pick (by rfl : lpick [(4, .int (a4 + 3)), (6, .int r12), (5, .int r5), (0, .ref b9), (1, .ref a1), (2, .ref a2), (3, .ref a3)] [3, 4, 5, 6, 0] = _) (hc _ rfl)
      · rw [if_neg c26] at E
        refine r_iconst X (v := 0) dL_law_2036 (by decide) ?_
        cases E
        exact absurd (show (0 : Int32) = 1 from hx _ rfl) (by decide)
  · rw [if_neg c22] at E
    refine r_iconst X (v := 0) dL_law_2019 (by decide) ?_
    cases E
    exact absurd (show (0 : Int32) = 1 from hx _ rfl) (by decide)
set_option maxHeartbeats 4000000 in
set_option maxRecDepth 100000 in
theorem t_l_law_j2041_23 {l : Launch} (hst : l.stackTraces = false) {G : GG} {M : MC} {b9 Ln : Nat} {xs : Nat → Int32} (hX : HX M G b9 Ln xs) (X : CX M G cL_law 9 RL room_1) (hl0 : M.2.1 = l) {Q : State → Prop} {kc ks : Nat} {s9 : ((Int32) ⊕ ((Unit) ⊕ Int32))} {g1 : AH}  {a1 : Nat} {a2 : Nat} {a3 : Nat} {a4 : Int32} {Kc Ks : Nat} (hkc : kc + 3 ≤ Kc ∧ Kc ≤ 601024) (hks : ks + 18 ≤ Ks ∧ Ks ≤ 7293034) (hc : ∀ s1, s9 = .inl s1 → WW M G 9 Q (kc + 3) (ks + 18) g1 23 [(0, .ref b9), (1, .ref a1), (2, .ref a2), (3, .ref a3), (4, .int s1)] []) (hx : ∀ t, s9 = .inr t → Sum.elim (fun t1 => WW M G 9 Q Kc Ks g1 2698 [] []) (fun t2 : Int32 => t2 = 1) t) {g : AH} (E : l_law_j2041_23 Ln xs a1 a2 a3 a4 g = some (s9, g1)) : WW M G 9 Q kc ks g 2041 [(0, .ref b9), (1, .ref a1), (2, .ref a2), (3, .ref a3), (4, .int a4)] [] := by
  unfold l_law_j2041_23 at E
  refine r_aload_n X 1 dL_law_2041 rfl rfl ?_
  refine r_aload_n X 0 dL_law_2042 rfl rfl ?_
  refine r_iload X dL_law_2043 rfl ?_
  refine r_iconst X (v := 1) dL_law_2045 (by decide) ?_
  refine r_iadd X dL_law_2046 ?_
  obtain ⟨x1, e2, E⟩ := gb_some E
  refine r_sld X hX dL_law_2047 e2 ?_
  refine r_aload_n X 3 dL_law_2048 rfl rfl ?_
  obtain ⟨r3, g4, e5, E⟩ := cb_some E
  refine r_callW X hl0 dL_law_2049 y_L_returnBlanket m_L_313 (t_l_returnBlanket (l := l) hst (G := G) e5) rfl rfl (Nat.le_of_ble_eq_true rfl) ⟨by decide, by show _ + 3 ≤ 601024; omega, by show _ + 18 ≤ 7293034; omega⟩ ?_
  refine r_istore X (L1 := [(5, .int r3), (0, .ref b9), (1, .ref a1), (2, .ref a2), (3, .ref a3), (4, .int a4)]) dL_law_2052 (by decide) rfl ?_
  refine r_aload_n X 2 dL_law_2054 rfl rfl ?_
  refine r_aload_n X 0 dL_law_2055 rfl rfl ?_
  refine r_iload X dL_law_2056 rfl ?_
  refine r_iconst X (v := 1) dL_law_2058 (by decide) ?_
  refine r_iadd X dL_law_2059 ?_
  obtain ⟨x6, e7, E⟩ := gb_some E
  refine r_sld X hX dL_law_2060 e7 ?_
  obtain ⟨u11, e12, E⟩ := gb_some E
  obtain ⟨r8, g9, e10, E⟩ := cb_some E
  refine r_callV0 X hl0 (ci := 9) dL_law_2061 y_X9_returnBlanket m_L_315 rfl rfl e12 (t_x9_returnBlanket (l := l) (G := G) e10) rfl rfl (Nat.le_of_ble_eq_true rfl) (by decide) ?_
  refine r_istore X (L1 := [(6, .int r8), (5, .int r3), (0, .ref b9), (1, .ref a1), (2, .ref a2), (3, .ref a3), (4, .int a4)]) dL_law_2064 (by decide) rfl ?_
  refine r_aload_n X 2 dL_law_2066 rfl rfl ?_
  obtain ⟨u16, e17, E⟩ := gb_some E
  obtain ⟨r13, g14, e15, E⟩ := cb_some E
  refine r_callV0 X hl0 (ci := 9) dL_law_2067 y_X9_thrown m_L_133 rfl rfl e17 (t_x9_thrown (l := l) (G := G) e15) rfl rfl (Nat.le_of_ble_eq_true rfl) (by decide) ?_
  refine r_iload X dL_law_2070 rfl ?_
  refine r_icmp_eq X 2077 dL_law_2072 (by decide) (fun c18 => ?_) (fun c18 => ?_)
  · rw [if_pos c18] at E
    refine r_iload X dL_law_2077 rfl ?_
    refine r_if_ne X 2094 dL_law_2079 (by decide) (fun c19 => ?_) (fun c19 => ?_)
    · rw [if_neg c19] at E
      refine r_goto X 2692 dL_law_2094 (by decide) ?_
      refine r_iinc X (v := (a4 + 3)) (L1 := [(4, .int (a4 + 3)), (6, .int r8), (5, .int r3), (0, .ref b9), (1, .ref a1), (2, .ref a2), (3, .ref a3)]) dL_law_2692 rfl rfl (by decide) rfl ?_
      refine r_goto X 23 dL_law_2695 (by decide) ?_
      cases E
      exact r_widen X ⟨by first | exact Nat.le_add_right _ _ | exact Nat.add_le_add_left (by decide) _, Nat.le_trans hkc.1 hkc.2⟩ ⟨by first | exact Nat.le_add_right _ _ | exact Nat.add_le_add_left (by decide) _, Nat.le_trans hks.1 hks.2⟩ <| r_pick (by rfl : lpick [(4, .int (a4 + 3)), (6, .int r8), (5, .int r3), (0, .ref b9), (1, .ref a1), (2, .ref a2), (3, .ref a3)] [3, 4, 5, 6, 0] = _) (hc _ rfl)
    · rw [if_pos c19] at E
      refine r_aload_n X 3 dL_law_2082 rfl rfl ?_
      refine r_iconst X (v := 0) dL_law_2083 (by decide) ?_
      obtain ⟨x20, e21, E⟩ := gb_some E
      refine r_lald X dL_law_2084 e21 ?_
      refine r_iload X dL_law_2085 rfl ?_
      refine r_i2l X dL_law_2087 ?_
      refine r_lcmp X dL_law_2088 ?_
      refine r_if_eq X 2094 dL_law_2089 (by decide) (fun c22 => ?_) (fun c22 => ?_)
      · rw [if_pos c22] at E
        refine r_goto X 2692 dL_law_2094 (by decide) ?_
        refine r_iinc X (v := (a4 + 3)) (L1 := [(4, .int (a4 + 3)), (6, .int r8), (5, .int r3), (0, .ref b9), (1, .ref a1), (2, .ref a2), (3, .ref a3)]) dL_law_2692 rfl rfl (by decide) rfl ?_
        refine r_goto X 23 dL_law_2695 (by decide) ?_
        cases E
        exact r_widen X ⟨by first | exact Nat.le_add_right _ _ | exact Nat.add_le_add_left (by decide) _, Nat.le_trans hkc.1 hkc.2⟩ ⟨by first | exact Nat.le_add_right _ _ | exact Nat.add_le_add_left (by decide) _, Nat.le_trans hks.1 hks.2⟩ <| r_pick (by rfl : lpick [(4, .int (a4 + 3)), (6, .int r8), (5, .int r3), (0, .ref b9), (1, .ref a1), (2, .ref a2), (3, .ref a3)] [3, 4, 5, 6, 0] = _) (hc _ rfl)
      · rw [if_neg c22] at E
        refine r_iconst X (v := 0) dL_law_2092 (by decide) ?_
        cases E
        exact absurd (show (0 : Int32) = 1 from hx _ rfl) (by decide)
  · rw [if_neg c18] at E
    refine r_iconst X (v := 0) dL_law_2075 (by decide) ?_
    cases E
    exact absurd (show (0 : Int32) = 1 from hx _ rfl) (by decide)
set_option maxHeartbeats 4000000 in
set_option maxRecDepth 100000 in
theorem t_l_law_j2097_23 {l : Launch} (hst : l.stackTraces = false) {G : GG} {M : MC} {b9 Ln : Nat} {xs : Nat → Int32} (hX : HX M G b9 Ln xs) (X : CX M G cL_law 9 RL room_1) (hl0 : M.2.1 = l) {Q : State → Prop} {kc ks : Nat} {s9 : ((Int32) ⊕ ((Unit) ⊕ Int32))} {g1 : AH}  {a1 : Nat} {a2 : Nat} {a3 : Nat} {a4 : Int32} {Kc Ks : Nat} (hkc : kc + 3 ≤ Kc ∧ Kc ≤ 601024) (hks : ks + 18 ≤ Ks ∧ Ks ≤ 7293034) (hc : ∀ s1, s9 = .inl s1 → WW M G 9 Q (kc + 3) (ks + 18) g1 23 [(0, .ref b9), (1, .ref a1), (2, .ref a2), (3, .ref a3), (4, .int s1)] []) (hx : ∀ t, s9 = .inr t → Sum.elim (fun t1 => WW M G 9 Q Kc Ks g1 2698 [] []) (fun t2 : Int32 => t2 = 1) t) {g : AH} (E : l_law_j2097_23 Ln xs a1 a2 a3 a4 g = some (s9, g1)) : WW M G 9 Q kc ks g 2097 [(0, .ref b9), (1, .ref a1), (2, .ref a2), (3, .ref a3), (4, .int a4)] [] := by
  unfold l_law_j2097_23 at E
  refine r_aload_n X 1 dL_law_2097 rfl rfl ?_
  refine r_aload_n X 0 dL_law_2098 rfl rfl ?_
  refine r_iload X dL_law_2099 rfl ?_
  refine r_iconst X (v := 1) dL_law_2101 (by decide) ?_
  refine r_iadd X dL_law_2102 ?_
  obtain ⟨x1, e2, E⟩ := gb_some E
  refine r_sld X hX dL_law_2103 e2 ?_
  refine r_aload_n X 0 dL_law_2104 rfl rfl ?_
  refine r_iload X dL_law_2105 rfl ?_
  refine r_iconst X (v := 2) dL_law_2107 (by decide) ?_
  refine r_iadd X dL_law_2108 ?_
  obtain ⟨x3, e4, E⟩ := gb_some E
  refine r_sld X hX dL_law_2109 e4 ?_
  refine r_aload_n X 3 dL_law_2110 rfl rfl ?_
  obtain ⟨r5, g6, e7, E⟩ := cb_some E
  refine r_callW X hl0 dL_law_2111 y_L_swapBlankets m_L_316 (t_l_swapBlankets (l := l) hst (G := G) e7) rfl rfl (Nat.le_of_ble_eq_true rfl) ⟨by decide, by show _ + 3 ≤ 601024; omega, by show _ + 18 ≤ 7293034; omega⟩ ?_
  refine r_istore X (L1 := [(5, .int r5), (0, .ref b9), (1, .ref a1), (2, .ref a2), (3, .ref a3), (4, .int a4)]) dL_law_2114 (by decide) rfl ?_
  refine r_aload_n X 2 dL_law_2116 rfl rfl ?_
  refine r_aload_n X 0 dL_law_2117 rfl rfl ?_
  refine r_iload X dL_law_2118 rfl ?_
  refine r_iconst X (v := 1) dL_law_2120 (by decide) ?_
  refine r_iadd X dL_law_2121 ?_
  obtain ⟨x8, e9, E⟩ := gb_some E
  refine r_sld X hX dL_law_2122 e9 ?_
  refine r_aload_n X 0 dL_law_2123 rfl rfl ?_
  refine r_iload X dL_law_2124 rfl ?_
  refine r_iconst X (v := 2) dL_law_2126 (by decide) ?_
  refine r_iadd X dL_law_2127 ?_
  obtain ⟨x10, e11, E⟩ := gb_some E
  refine r_sld X hX dL_law_2128 e11 ?_
  obtain ⟨u15, e16, E⟩ := gb_some E
  obtain ⟨r12, g13, e14, E⟩ := cb_some E
  refine r_callV0 X hl0 (ci := 9) dL_law_2129 y_X9_swapBlankets m_L_318 rfl rfl e16 (t_x9_swapBlankets (l := l) (G := G) e14) rfl rfl (Nat.le_of_ble_eq_true rfl) (by decide) ?_
  refine r_istore X (L1 := [(6, .int r12), (5, .int r5), (0, .ref b9), (1, .ref a1), (2, .ref a2), (3, .ref a3), (4, .int a4)]) dL_law_2132 (by decide) rfl ?_
  refine r_aload_n X 2 dL_law_2134 rfl rfl ?_
  obtain ⟨u20, e21, E⟩ := gb_some E
  obtain ⟨r17, g18, e19, E⟩ := cb_some E
  refine r_callV0 X hl0 (ci := 9) dL_law_2135 y_X9_thrown m_L_133 rfl rfl e21 (t_x9_thrown (l := l) (G := G) e19) rfl rfl (Nat.le_of_ble_eq_true rfl) (by decide) ?_
  refine r_iload X dL_law_2138 rfl ?_
  refine r_icmp_eq X 2145 dL_law_2140 (by decide) (fun c22 => ?_) (fun c22 => ?_)
  · rw [if_pos c22] at E
    refine r_iload X dL_law_2145 rfl ?_
    refine r_if_ne X 2162 dL_law_2147 (by decide) (fun c23 => ?_) (fun c23 => ?_)
    · rw [if_neg c23] at E
      refine r_goto X 2692 dL_law_2162 (by decide) ?_
      refine r_iinc X (v := (a4 + 3)) (L1 := [(4, .int (a4 + 3)), (6, .int r12), (5, .int r5), (0, .ref b9), (1, .ref a1), (2, .ref a2), (3, .ref a3)]) dL_law_2692 rfl rfl (by decide) rfl ?_
      refine r_goto X 23 dL_law_2695 (by decide) ?_
      cases E
      exact r_widen X ⟨by first | exact Nat.le_add_right _ _ | exact Nat.add_le_add_left (by decide) _, Nat.le_trans hkc.1 hkc.2⟩ ⟨by first | exact Nat.le_add_right _ _ | exact Nat.add_le_add_left (by decide) _, Nat.le_trans hks.1 hks.2⟩ <| r_pick (by rfl : lpick [(4, .int (a4 + 3)), (6, .int r12), (5, .int r5), (0, .ref b9), (1, .ref a1), (2, .ref a2), (3, .ref a3)] [3, 4, 5, 6, 0] = _) (hc _ rfl)
    · rw [if_pos c23] at E
      refine r_aload_n X 3 dL_law_2150 rfl rfl ?_
      refine r_iconst X (v := 0) dL_law_2151 (by decide) ?_
      obtain ⟨x24, e25, E⟩ := gb_some E
      refine r_lald X dL_law_2152 e25 ?_
      refine r_iload X dL_law_2153 rfl ?_
      refine r_i2l X dL_law_2155 ?_
      refine r_lcmp X dL_law_2156 ?_
      refine r_if_eq X 2162 dL_law_2157 (by decide) (fun c26 => ?_) (fun c26 => ?_)
      · rw [if_pos c26] at E
        refine r_goto X 2692 dL_law_2162 (by decide) ?_
        refine r_iinc X (v := (a4 + 3)) (L1 := [(4, .int (a4 + 3)), (6, .int r12), (5, .int r5), (0, .ref b9), (1, .ref a1), (2, .ref a2), (3, .ref a3)]) dL_law_2692 rfl rfl (by decide) rfl ?_
        refine r_goto X 23 dL_law_2695 (by decide) ?_
        cases E
        exact r_widen X ⟨by first | exact Nat.le_add_right _ _ | exact Nat.add_le_add_left (by decide) _, Nat.le_trans hkc.1 hkc.2⟩ ⟨by first | exact Nat.le_add_right _ _ | exact Nat.add_le_add_left (by decide) _, Nat.le_trans hks.1 hks.2⟩ <| r_pick (by rfl : lpick [(4, .int (a4 + 3)), (6, .int r12), (5, .int r5), (0, .ref b9), (1, .ref a1), (2, .ref a2), (3, .ref a3)] [3, 4, 5, 6, 0] = _) (hc _ rfl)
      · rw [if_neg c26] at E
        refine r_iconst X (v := 0) dL_law_2160 (by decide) ?_
        cases E
        exact absurd (show (0 : Int32) = 1 from hx _ rfl) (by decide)
  · rw [if_neg c22] at E
    refine r_iconst X (v := 0) dL_law_2143 (by decide) ?_
    cases E
    exact absurd (show (0 : Int32) = 1 from hx _ rfl) (by decide)
set_option maxHeartbeats 4000000 in
set_option maxRecDepth 100000 in
theorem t_l_law_j2165_23 {l : Launch} (hst : l.stackTraces = false) {G : GG} {M : MC} {b9 Ln : Nat} {xs : Nat → Int32} (hX : HX M G b9 Ln xs) (X : CX M G cL_law 9 RL room_1) (hl0 : M.2.1 = l) {Q : State → Prop} {kc ks : Nat} {s9 : ((Int32) ⊕ ((Unit) ⊕ Int32))} {g1 : AH}  {a1 : Nat} {a2 : Nat} {a3 : Nat} {a4 : Int32} {Kc Ks : Nat} (hkc : kc + 3 ≤ Kc ∧ Kc ≤ 601024) (hks : ks + 18 ≤ Ks ∧ Ks ≤ 7293034) (hc : ∀ s1, s9 = .inl s1 → WW M G 9 Q (kc + 3) (ks + 18) g1 23 [(0, .ref b9), (1, .ref a1), (2, .ref a2), (3, .ref a3), (4, .int s1)] []) (hx : ∀ t, s9 = .inr t → Sum.elim (fun t1 => WW M G 9 Q Kc Ks g1 2698 [] []) (fun t2 : Int32 => t2 = 1) t) {g : AH} (E : l_law_j2165_23 Ln xs a1 a2 a3 a4 g = some (s9, g1)) : WW M G 9 Q kc ks g 2165 [(0, .ref b9), (1, .ref a1), (2, .ref a2), (3, .ref a3), (4, .int a4)] [] := by
  unfold l_law_j2165_23 at E
  refine r_aload_n X 1 dL_law_2165 rfl rfl ?_
  refine r_aload_n X 0 dL_law_2166 rfl rfl ?_
  refine r_iload X dL_law_2167 rfl ?_
  refine r_iconst X (v := 1) dL_law_2169 (by decide) ?_
  refine r_iadd X dL_law_2170 ?_
  obtain ⟨x1, e2, E⟩ := gb_some E
  refine r_sld X hX dL_law_2171 e2 ?_
  refine r_aload_n X 0 dL_law_2172 rfl rfl ?_
  refine r_iload X dL_law_2173 rfl ?_
  refine r_iconst X (v := 2) dL_law_2175 (by decide) ?_
  refine r_iadd X dL_law_2176 ?_
  obtain ⟨x3, e4, E⟩ := gb_some E
  refine r_sld X hX dL_law_2177 e4 ?_
  refine r_aload_n X 3 dL_law_2178 rfl rfl ?_
  obtain ⟨r5, g6, e7, E⟩ := cb_some E
  refine r_callW X hl0 dL_law_2179 y_L_lieDown m_L_319 (t_l_lieDown (l := l) hst (G := G) e7) rfl rfl (Nat.le_of_ble_eq_true rfl) ⟨by decide, by show _ + 3 ≤ 601024; omega, by show _ + 18 ≤ 7293034; omega⟩ ?_
  refine r_istore X (L1 := [(5, .int r5), (0, .ref b9), (1, .ref a1), (2, .ref a2), (3, .ref a3), (4, .int a4)]) dL_law_2182 (by decide) rfl ?_
  refine r_aload_n X 2 dL_law_2184 rfl rfl ?_
  refine r_aload_n X 0 dL_law_2185 rfl rfl ?_
  refine r_iload X dL_law_2186 rfl ?_
  refine r_iconst X (v := 1) dL_law_2188 (by decide) ?_
  refine r_iadd X dL_law_2189 ?_
  obtain ⟨x8, e9, E⟩ := gb_some E
  refine r_sld X hX dL_law_2190 e9 ?_
  refine r_aload_n X 0 dL_law_2191 rfl rfl ?_
  refine r_iload X dL_law_2192 rfl ?_
  refine r_iconst X (v := 2) dL_law_2194 (by decide) ?_
  refine r_iadd X dL_law_2195 ?_
  obtain ⟨x10, e11, E⟩ := gb_some E
  refine r_sld X hX dL_law_2196 e11 ?_
  obtain ⟨u15, e16, E⟩ := gb_some E
  obtain ⟨r12, g13, e14, E⟩ := cb_some E
  refine r_callV0 X hl0 (ci := 9) dL_law_2197 y_X9_lieDown m_L_321 rfl rfl e16 (t_x9_lieDown (l := l) (G := G) e14) rfl rfl (Nat.le_of_ble_eq_true rfl) (by decide) ?_
  refine r_istore X (L1 := [(6, .int r12), (5, .int r5), (0, .ref b9), (1, .ref a1), (2, .ref a2), (3, .ref a3), (4, .int a4)]) dL_law_2200 (by decide) rfl ?_
  refine r_aload_n X 2 dL_law_2202 rfl rfl ?_
  obtain ⟨u20, e21, E⟩ := gb_some E
  obtain ⟨r17, g18, e19, E⟩ := cb_some E
  refine r_callV0 X hl0 (ci := 9) dL_law_2203 y_X9_thrown m_L_133 rfl rfl e21 (t_x9_thrown (l := l) (G := G) e19) rfl rfl (Nat.le_of_ble_eq_true rfl) (by decide) ?_
  refine r_iload X dL_law_2206 rfl ?_
  refine r_icmp_eq X 2213 dL_law_2208 (by decide) (fun c22 => ?_) (fun c22 => ?_)
  · rw [if_pos c22] at E
    refine r_iload X dL_law_2213 rfl ?_
    refine r_if_ne X 2230 dL_law_2215 (by decide) (fun c23 => ?_) (fun c23 => ?_)
    · rw [if_neg c23] at E
      refine r_goto X 2692 dL_law_2230 (by decide) ?_
      refine r_iinc X (v := (a4 + 3)) (L1 := [(4, .int (a4 + 3)), (6, .int r12), (5, .int r5), (0, .ref b9), (1, .ref a1), (2, .ref a2), (3, .ref a3)]) dL_law_2692 rfl rfl (by decide) rfl ?_
      refine r_goto X 23 dL_law_2695 (by decide) ?_
      cases E
      exact r_widen X ⟨by first | exact Nat.le_add_right _ _ | exact Nat.add_le_add_left (by decide) _, Nat.le_trans hkc.1 hkc.2⟩ ⟨by first | exact Nat.le_add_right _ _ | exact Nat.add_le_add_left (by decide) _, Nat.le_trans hks.1 hks.2⟩ <| r_pick (by rfl : lpick [(4, .int (a4 + 3)), (6, .int r12), (5, .int r5), (0, .ref b9), (1, .ref a1), (2, .ref a2), (3, .ref a3)] [3, 4, 5, 6, 0] = _) (hc _ rfl)
    · rw [if_pos c23] at E
      refine r_aload_n X 3 dL_law_2218 rfl rfl ?_
      refine r_iconst X (v := 0) dL_law_2219 (by decide) ?_
      obtain ⟨x24, e25, E⟩ := gb_some E
      refine r_lald X dL_law_2220 e25 ?_
      refine r_iload X dL_law_2221 rfl ?_
      refine r_i2l X dL_law_2223 ?_
      refine r_lcmp X dL_law_2224 ?_
      refine r_if_eq X 2230 dL_law_2225 (by decide) (fun c26 => ?_) (fun c26 => ?_)
      · rw [if_pos c26] at E
        refine r_goto X 2692 dL_law_2230 (by decide) ?_
        refine r_iinc X (v := (a4 + 3)) (L1 := [(4, .int (a4 + 3)), (6, .int r12), (5, .int r5), (0, .ref b9), (1, .ref a1), (2, .ref a2), (3, .ref a3)]) dL_law_2692 rfl rfl (by decide) rfl ?_
        refine r_goto X 23 dL_law_2695 (by decide) ?_
        cases E
        exact r_widen X ⟨by first | exact Nat.le_add_right _ _ | exact Nat.add_le_add_left (by decide) _, Nat.le_trans hkc.1 hkc.2⟩ ⟨by first | exact Nat.le_add_right _ _ | exact Nat.add_le_add_left (by decide) _, Nat.le_trans hks.1 hks.2⟩ <| r_pick (by rfl : lpick [(4, .int (a4 + 3)), (6, .int r12), (5, .int r5), (0, .ref b9), (1, .ref a1), (2, .ref a2), (3, .ref a3)] [3, 4, 5, 6, 0] = _) (hc _ rfl)
      · rw [if_neg c26] at E
        refine r_iconst X (v := 0) dL_law_2228 (by decide) ?_
        cases E
        exact absurd (show (0 : Int32) = 1 from hx _ rfl) (by decide)
  · rw [if_neg c22] at E
    refine r_iconst X (v := 0) dL_law_2211 (by decide) ?_
    cases E
    exact absurd (show (0 : Int32) = 1 from hx _ rfl) (by decide)
set_option maxHeartbeats 4000000 in
set_option maxRecDepth 100000 in
theorem t_l_law_j2233_23 {l : Launch} (hst : l.stackTraces = false) {G : GG} {M : MC} {b9 Ln : Nat} {xs : Nat → Int32} (hX : HX M G b9 Ln xs) (X : CX M G cL_law 9 RL room_1) (hl0 : M.2.1 = l) {Q : State → Prop} {kc ks : Nat} {s9 : ((Int32) ⊕ ((Unit) ⊕ Int32))} {g1 : AH}  {a1 : Nat} {a2 : Nat} {a3 : Nat} {a4 : Int32} {Kc Ks : Nat} (hkc : kc + 3 ≤ Kc ∧ Kc ≤ 601024) (hks : ks + 18 ≤ Ks ∧ Ks ≤ 7293034) (hc : ∀ s1, s9 = .inl s1 → WW M G 9 Q (kc + 3) (ks + 18) g1 23 [(0, .ref b9), (1, .ref a1), (2, .ref a2), (3, .ref a3), (4, .int s1)] []) (hx : ∀ t, s9 = .inr t → Sum.elim (fun t1 => WW M G 9 Q Kc Ks g1 2698 [] []) (fun t2 : Int32 => t2 = 1) t) {g : AH} (E : l_law_j2233_23 Ln xs a1 a2 a3 a4 g = some (s9, g1)) : WW M G 9 Q kc ks g 2233 [(0, .ref b9), (1, .ref a1), (2, .ref a2), (3, .ref a3), (4, .int a4)] [] := by
  unfold l_law_j2233_23 at E
  refine r_aload_n X 1 dL_law_2233 rfl rfl ?_
  refine r_aload_n X 0 dL_law_2234 rfl rfl ?_
  refine r_iload X dL_law_2235 rfl ?_
  refine r_iconst X (v := 1) dL_law_2237 (by decide) ?_
  refine r_iadd X dL_law_2238 ?_
  obtain ⟨x1, e2, E⟩ := gb_some E
  refine r_sld X hX dL_law_2239 e2 ?_
  refine r_aload_n X 3 dL_law_2240 rfl rfl ?_
  obtain ⟨r3, g4, e5, E⟩ := cb_some E
  refine r_callW X hl0 dL_law_2241 y_L_getUp m_L_322 (t_l_getUp (l := l) hst (G := G) e5) rfl rfl (Nat.le_of_ble_eq_true rfl) ⟨by decide, by show _ + 3 ≤ 601024; omega, by show _ + 18 ≤ 7293034; omega⟩ ?_
  refine r_istore X (L1 := [(5, .int r3), (0, .ref b9), (1, .ref a1), (2, .ref a2), (3, .ref a3), (4, .int a4)]) dL_law_2244 (by decide) rfl ?_
  refine r_aload_n X 2 dL_law_2246 rfl rfl ?_
  refine r_aload_n X 0 dL_law_2247 rfl rfl ?_
  refine r_iload X dL_law_2248 rfl ?_
  refine r_iconst X (v := 1) dL_law_2250 (by decide) ?_
  refine r_iadd X dL_law_2251 ?_
  obtain ⟨x6, e7, E⟩ := gb_some E
  refine r_sld X hX dL_law_2252 e7 ?_
  obtain ⟨u11, e12, E⟩ := gb_some E
  obtain ⟨r8, g9, e10, E⟩ := cb_some E
  refine r_callV0 X hl0 (ci := 9) dL_law_2253 y_X9_getUp m_L_324 rfl rfl e12 (t_x9_getUp (l := l) (G := G) e10) rfl rfl (Nat.le_of_ble_eq_true rfl) (by decide) ?_
  refine r_istore X (L1 := [(6, .int r8), (5, .int r3), (0, .ref b9), (1, .ref a1), (2, .ref a2), (3, .ref a3), (4, .int a4)]) dL_law_2256 (by decide) rfl ?_
  refine r_aload_n X 2 dL_law_2258 rfl rfl ?_
  obtain ⟨u16, e17, E⟩ := gb_some E
  obtain ⟨r13, g14, e15, E⟩ := cb_some E
  refine r_callV0 X hl0 (ci := 9) dL_law_2259 y_X9_thrown m_L_133 rfl rfl e17 (t_x9_thrown (l := l) (G := G) e15) rfl rfl (Nat.le_of_ble_eq_true rfl) (by decide) ?_
  refine r_iload X dL_law_2262 rfl ?_
  refine r_icmp_eq X 2269 dL_law_2264 (by decide) (fun c18 => ?_) (fun c18 => ?_)
  · rw [if_pos c18] at E
    refine r_iload X dL_law_2269 rfl ?_
    refine r_if_ne X 2286 dL_law_2271 (by decide) (fun c19 => ?_) (fun c19 => ?_)
    · rw [if_neg c19] at E
      refine r_goto X 2692 dL_law_2286 (by decide) ?_
      refine r_iinc X (v := (a4 + 3)) (L1 := [(4, .int (a4 + 3)), (6, .int r8), (5, .int r3), (0, .ref b9), (1, .ref a1), (2, .ref a2), (3, .ref a3)]) dL_law_2692 rfl rfl (by decide) rfl ?_
      refine r_goto X 23 dL_law_2695 (by decide) ?_
      cases E
      exact r_widen X ⟨by first | exact Nat.le_add_right _ _ | exact Nat.add_le_add_left (by decide) _, Nat.le_trans hkc.1 hkc.2⟩ ⟨by first | exact Nat.le_add_right _ _ | exact Nat.add_le_add_left (by decide) _, Nat.le_trans hks.1 hks.2⟩ <| r_pick (by rfl : lpick [(4, .int (a4 + 3)), (6, .int r8), (5, .int r3), (0, .ref b9), (1, .ref a1), (2, .ref a2), (3, .ref a3)] [3, 4, 5, 6, 0] = _) (hc _ rfl)
    · rw [if_pos c19] at E
      refine r_aload_n X 3 dL_law_2274 rfl rfl ?_
      refine r_iconst X (v := 0) dL_law_2275 (by decide) ?_
      obtain ⟨x20, e21, E⟩ := gb_some E
      refine r_lald X dL_law_2276 e21 ?_
      refine r_iload X dL_law_2277 rfl ?_
      refine r_i2l X dL_law_2279 ?_
      refine r_lcmp X dL_law_2280 ?_
      refine r_if_eq X 2286 dL_law_2281 (by decide) (fun c22 => ?_) (fun c22 => ?_)
      · rw [if_pos c22] at E
        refine r_goto X 2692 dL_law_2286 (by decide) ?_
        refine r_iinc X (v := (a4 + 3)) (L1 := [(4, .int (a4 + 3)), (6, .int r8), (5, .int r3), (0, .ref b9), (1, .ref a1), (2, .ref a2), (3, .ref a3)]) dL_law_2692 rfl rfl (by decide) rfl ?_
        refine r_goto X 23 dL_law_2695 (by decide) ?_
        cases E
        exact r_widen X ⟨by first | exact Nat.le_add_right _ _ | exact Nat.add_le_add_left (by decide) _, Nat.le_trans hkc.1 hkc.2⟩ ⟨by first | exact Nat.le_add_right _ _ | exact Nat.add_le_add_left (by decide) _, Nat.le_trans hks.1 hks.2⟩ <| r_pick (by rfl : lpick [(4, .int (a4 + 3)), (6, .int r8), (5, .int r3), (0, .ref b9), (1, .ref a1), (2, .ref a2), (3, .ref a3)] [3, 4, 5, 6, 0] = _) (hc _ rfl)
      · rw [if_neg c22] at E
        refine r_iconst X (v := 0) dL_law_2284 (by decide) ?_
        cases E
        exact absurd (show (0 : Int32) = 1 from hx _ rfl) (by decide)
  · rw [if_neg c18] at E
    refine r_iconst X (v := 0) dL_law_2267 (by decide) ?_
    cases E
    exact absurd (show (0 : Int32) = 1 from hx _ rfl) (by decide)
set_option maxHeartbeats 4000000 in
set_option maxRecDepth 100000 in
theorem t_l_law_j2289_23 {l : Launch} (hst : l.stackTraces = false) {G : GG} {M : MC} {b9 Ln : Nat} {xs : Nat → Int32} (hX : HX M G b9 Ln xs) (X : CX M G cL_law 9 RL room_1) (hl0 : M.2.1 = l) {Q : State → Prop} {kc ks : Nat} {s9 : ((Int32) ⊕ ((Unit) ⊕ Int32))} {g1 : AH}  {a1 : Nat} {a2 : Nat} {a3 : Nat} {a4 : Int32} {Kc Ks : Nat} (hkc : kc + 3 ≤ Kc ∧ Kc ≤ 601024) (hks : ks + 18 ≤ Ks ∧ Ks ≤ 7293034) (hc : ∀ s1, s9 = .inl s1 → WW M G 9 Q (kc + 3) (ks + 18) g1 23 [(0, .ref b9), (1, .ref a1), (2, .ref a2), (3, .ref a3), (4, .int s1)] []) (hx : ∀ t, s9 = .inr t → Sum.elim (fun t1 => WW M G 9 Q Kc Ks g1 2698 [] []) (fun t2 : Int32 => t2 = 1) t) {g : AH} (E : l_law_j2289_23 Ln xs a1 a2 a3 a4 g = some (s9, g1)) : WW M G 9 Q kc ks g 2289 [(0, .ref b9), (1, .ref a1), (2, .ref a2), (3, .ref a3), (4, .int a4)] [] := by
  unfold l_law_j2289_23 at E
  refine r_aload_n X 1 dL_law_2289 rfl rfl ?_
  refine r_aload_n X 0 dL_law_2290 rfl rfl ?_
  refine r_iload X dL_law_2291 rfl ?_
  refine r_iconst X (v := 1) dL_law_2293 (by decide) ?_
  refine r_iadd X dL_law_2294 ?_
  obtain ⟨x1, e2, E⟩ := gb_some E
  refine r_sld X hX dL_law_2295 e2 ?_
  refine r_aload_n X 3 dL_law_2296 rfl rfl ?_
  obtain ⟨r3, g4, e5, E⟩ := cb_some E
  refine r_callW X hl0 dL_law_2297 y_L_setRate m_L_325 (t_l_setRate (l := l) hst (G := G) e5) rfl rfl (Nat.le_of_ble_eq_true rfl) ⟨by decide, by show _ + 3 ≤ 601024; omega, by show _ + 18 ≤ 7293034; omega⟩ ?_
  refine r_istore X (L1 := [(5, .int r3), (0, .ref b9), (1, .ref a1), (2, .ref a2), (3, .ref a3), (4, .int a4)]) dL_law_2300 (by decide) rfl ?_
  refine r_aload_n X 2 dL_law_2302 rfl rfl ?_
  refine r_aload_n X 0 dL_law_2303 rfl rfl ?_
  refine r_iload X dL_law_2304 rfl ?_
  refine r_iconst X (v := 1) dL_law_2306 (by decide) ?_
  refine r_iadd X dL_law_2307 ?_
  obtain ⟨x6, e7, E⟩ := gb_some E
  refine r_sld X hX dL_law_2308 e7 ?_
  obtain ⟨u11, e12, E⟩ := gb_some E
  obtain ⟨r8, g9, e10, E⟩ := cb_some E
  refine r_callV0 X hl0 (ci := 9) dL_law_2309 y_X9_setRate m_L_327 rfl rfl e12 (t_x9_setRate (l := l) (G := G) e10) rfl rfl (Nat.le_of_ble_eq_true rfl) (by decide) ?_
  refine r_istore X (L1 := [(6, .int r8), (5, .int r3), (0, .ref b9), (1, .ref a1), (2, .ref a2), (3, .ref a3), (4, .int a4)]) dL_law_2312 (by decide) rfl ?_
  refine r_aload_n X 2 dL_law_2314 rfl rfl ?_
  obtain ⟨u16, e17, E⟩ := gb_some E
  obtain ⟨r13, g14, e15, E⟩ := cb_some E
  refine r_callV0 X hl0 (ci := 9) dL_law_2315 y_X9_thrown m_L_133 rfl rfl e17 (t_x9_thrown (l := l) (G := G) e15) rfl rfl (Nat.le_of_ble_eq_true rfl) (by decide) ?_
  refine r_iload X dL_law_2318 rfl ?_
  refine r_icmp_eq X 2325 dL_law_2320 (by decide) (fun c18 => ?_) (fun c18 => ?_)
  · rw [if_pos c18] at E
    refine r_iload X dL_law_2325 rfl ?_
    refine r_if_ne X 2342 dL_law_2327 (by decide) (fun c19 => ?_) (fun c19 => ?_)
    · rw [if_neg c19] at E
      refine r_goto X 2692 dL_law_2342 (by decide) ?_
      refine r_iinc X (v := (a4 + 3)) (L1 := [(4, .int (a4 + 3)), (6, .int r8), (5, .int r3), (0, .ref b9), (1, .ref a1), (2, .ref a2), (3, .ref a3)]) dL_law_2692 rfl rfl (by decide) rfl ?_
      refine r_goto X 23 dL_law_2695 (by decide) ?_
      cases E
      exact r_widen X ⟨by first | exact Nat.le_add_right _ _ | exact Nat.add_le_add_left (by decide) _, Nat.le_trans hkc.1 hkc.2⟩ ⟨by first | exact Nat.le_add_right _ _ | exact Nat.add_le_add_left (by decide) _, Nat.le_trans hks.1 hks.2⟩ <| r_pick (by rfl : lpick [(4, .int (a4 + 3)), (6, .int r8), (5, .int r3), (0, .ref b9), (1, .ref a1), (2, .ref a2), (3, .ref a3)] [3, 4, 5, 6, 0] = _) (hc _ rfl)
    · rw [if_pos c19] at E
      refine r_aload_n X 3 dL_law_2330 rfl rfl ?_
      refine r_iconst X (v := 0) dL_law_2331 (by decide) ?_
      obtain ⟨x20, e21, E⟩ := gb_some E
      refine r_lald X dL_law_2332 e21 ?_
      refine r_iload X dL_law_2333 rfl ?_
      refine r_i2l X dL_law_2335 ?_
      refine r_lcmp X dL_law_2336 ?_
      refine r_if_eq X 2342 dL_law_2337 (by decide) (fun c22 => ?_) (fun c22 => ?_)
      · rw [if_pos c22] at E
        refine r_goto X 2692 dL_law_2342 (by decide) ?_
        refine r_iinc X (v := (a4 + 3)) (L1 := [(4, .int (a4 + 3)), (6, .int r8), (5, .int r3), (0, .ref b9), (1, .ref a1), (2, .ref a2), (3, .ref a3)]) dL_law_2692 rfl rfl (by decide) rfl ?_
        refine r_goto X 23 dL_law_2695 (by decide) ?_
        cases E
        exact r_widen X ⟨by first | exact Nat.le_add_right _ _ | exact Nat.add_le_add_left (by decide) _, Nat.le_trans hkc.1 hkc.2⟩ ⟨by first | exact Nat.le_add_right _ _ | exact Nat.add_le_add_left (by decide) _, Nat.le_trans hks.1 hks.2⟩ <| r_pick (by rfl : lpick [(4, .int (a4 + 3)), (6, .int r8), (5, .int r3), (0, .ref b9), (1, .ref a1), (2, .ref a2), (3, .ref a3)] [3, 4, 5, 6, 0] = _) (hc _ rfl)
      · rw [if_neg c22] at E
        refine r_iconst X (v := 0) dL_law_2340 (by decide) ?_
        cases E
        exact absurd (show (0 : Int32) = 1 from hx _ rfl) (by decide)
  · rw [if_neg c18] at E
    refine r_iconst X (v := 0) dL_law_2323 (by decide) ?_
    cases E
    exact absurd (show (0 : Int32) = 1 from hx _ rfl) (by decide)
set_option maxHeartbeats 4000000 in
set_option maxRecDepth 100000 in
theorem t_l_law_j2345_23 {l : Launch} (hst : l.stackTraces = false) {G : GG} {M : MC} {b9 Ln : Nat} {xs : Nat → Int32} (hX : HX M G b9 Ln xs) (X : CX M G cL_law 9 RL room_1) (hl0 : M.2.1 = l) {Q : State → Prop} {kc ks : Nat} {s9 : ((Int32) ⊕ ((Unit) ⊕ Int32))} {g1 : AH}  {a1 : Nat} {a2 : Nat} {a3 : Nat} {a4 : Int32} {Kc Ks : Nat} (hkc : kc + 3 ≤ Kc ∧ Kc ≤ 601024) (hks : ks + 18 ≤ Ks ∧ Ks ≤ 7293034) (hc : ∀ s1, s9 = .inl s1 → WW M G 9 Q (kc + 3) (ks + 18) g1 23 [(0, .ref b9), (1, .ref a1), (2, .ref a2), (3, .ref a3), (4, .int s1)] []) (hx : ∀ t, s9 = .inr t → Sum.elim (fun t1 => WW M G 9 Q Kc Ks g1 2698 [] []) (fun t2 : Int32 => t2 = 1) t) {g : AH} (E : l_law_j2345_23 Ln xs a1 a2 a3 a4 g = some (s9, g1)) : WW M G 9 Q kc ks g 2345 [(0, .ref b9), (1, .ref a1), (2, .ref a2), (3, .ref a3), (4, .int a4)] [] := by
  unfold l_law_j2345_23 at E
  refine r_aload_n X 1 dL_law_2345 rfl rfl ?_
  refine r_aload_n X 0 dL_law_2346 rfl rfl ?_
  refine r_iload X dL_law_2347 rfl ?_
  refine r_iconst X (v := 1) dL_law_2349 (by decide) ?_
  refine r_iadd X dL_law_2350 ?_
  obtain ⟨x1, e2, E⟩ := gb_some E
  refine r_sld X hX dL_law_2351 e2 ?_
  refine r_aload_n X 3 dL_law_2352 rfl rfl ?_
  obtain ⟨r3, g4, e5, E⟩ := cb_some E
  refine r_callW X hl0 dL_law_2353 y_L_fetchLogs m_L_328 (t_l_fetchLogs (l := l) hst (G := G) e5) rfl rfl (Nat.le_of_ble_eq_true rfl) ⟨by decide, by show _ + 3 ≤ 601024; omega, by show _ + 18 ≤ 7293034; omega⟩ ?_
  refine r_istore X (L1 := [(5, .int r3), (0, .ref b9), (1, .ref a1), (2, .ref a2), (3, .ref a3), (4, .int a4)]) dL_law_2356 (by decide) rfl ?_
  refine r_aload_n X 2 dL_law_2358 rfl rfl ?_
  refine r_aload_n X 0 dL_law_2359 rfl rfl ?_
  refine r_iload X dL_law_2360 rfl ?_
  refine r_iconst X (v := 1) dL_law_2362 (by decide) ?_
  refine r_iadd X dL_law_2363 ?_
  obtain ⟨x6, e7, E⟩ := gb_some E
  refine r_sld X hX dL_law_2364 e7 ?_
  obtain ⟨u11, e12, E⟩ := gb_some E
  obtain ⟨r8, g9, e10, E⟩ := cb_some E
  refine r_callV0 X hl0 (ci := 9) dL_law_2365 y_X9_fetchLogs m_L_330 rfl rfl e12 (t_x9_fetchLogs (l := l) (G := G) e10) rfl rfl (Nat.le_of_ble_eq_true rfl) (by decide) ?_
  refine r_istore X (L1 := [(6, .int r8), (5, .int r3), (0, .ref b9), (1, .ref a1), (2, .ref a2), (3, .ref a3), (4, .int a4)]) dL_law_2368 (by decide) rfl ?_
  refine r_aload_n X 2 dL_law_2370 rfl rfl ?_
  obtain ⟨u16, e17, E⟩ := gb_some E
  obtain ⟨r13, g14, e15, E⟩ := cb_some E
  refine r_callV0 X hl0 (ci := 9) dL_law_2371 y_X9_thrown m_L_133 rfl rfl e17 (t_x9_thrown (l := l) (G := G) e15) rfl rfl (Nat.le_of_ble_eq_true rfl) (by decide) ?_
  refine r_iload X dL_law_2374 rfl ?_
  refine r_icmp_eq X 2381 dL_law_2376 (by decide) (fun c18 => ?_) (fun c18 => ?_)
  · rw [if_pos c18] at E
    refine r_iload X dL_law_2381 rfl ?_
    refine r_if_ne X 2398 dL_law_2383 (by decide) (fun c19 => ?_) (fun c19 => ?_)
    · rw [if_neg c19] at E
      refine r_goto X 2692 dL_law_2398 (by decide) ?_
      refine r_iinc X (v := (a4 + 3)) (L1 := [(4, .int (a4 + 3)), (6, .int r8), (5, .int r3), (0, .ref b9), (1, .ref a1), (2, .ref a2), (3, .ref a3)]) dL_law_2692 rfl rfl (by decide) rfl ?_
      refine r_goto X 23 dL_law_2695 (by decide) ?_
      cases E
      exact r_widen X ⟨by first | exact Nat.le_add_right _ _ | exact Nat.add_le_add_left (by decide) _, Nat.le_trans hkc.1 hkc.2⟩ ⟨by first | exact Nat.le_add_right _ _ | exact Nat.add_le_add_left (by decide) _, Nat.le_trans hks.1 hks.2⟩ <| r_pick (by rfl : lpick [(4, .int (a4 + 3)), (6, .int r8), (5, .int r3), (0, .ref b9), (1, .ref a1), (2, .ref a2), (3, .ref a3)] [3, 4, 5, 6, 0] = _) (hc _ rfl)
    · rw [if_pos c19] at E
      refine r_aload_n X 3 dL_law_2386 rfl rfl ?_
      refine r_iconst X (v := 0) dL_law_2387 (by decide) ?_
      obtain ⟨x20, e21, E⟩ := gb_some E
      refine r_lald X dL_law_2388 e21 ?_
      refine r_iload X dL_law_2389 rfl ?_
      refine r_i2l X dL_law_2391 ?_
      refine r_lcmp X dL_law_2392 ?_
      refine r_if_eq X 2398 dL_law_2393 (by decide) (fun c22 => ?_) (fun c22 => ?_)
      · rw [if_pos c22] at E
        refine r_goto X 2692 dL_law_2398 (by decide) ?_
        refine r_iinc X (v := (a4 + 3)) (L1 := [(4, .int (a4 + 3)), (6, .int r8), (5, .int r3), (0, .ref b9), (1, .ref a1), (2, .ref a2), (3, .ref a3)]) dL_law_2692 rfl rfl (by decide) rfl ?_
        refine r_goto X 23 dL_law_2695 (by decide) ?_
        cases E
        exact r_widen X ⟨by first | exact Nat.le_add_right _ _ | exact Nat.add_le_add_left (by decide) _, Nat.le_trans hkc.1 hkc.2⟩ ⟨by first | exact Nat.le_add_right _ _ | exact Nat.add_le_add_left (by decide) _, Nat.le_trans hks.1 hks.2⟩ <| r_pick (by rfl : lpick [(4, .int (a4 + 3)), (6, .int r8), (5, .int r3), (0, .ref b9), (1, .ref a1), (2, .ref a2), (3, .ref a3)] [3, 4, 5, 6, 0] = _) (hc _ rfl)
      · rw [if_neg c22] at E
        refine r_iconst X (v := 0) dL_law_2396 (by decide) ?_
        cases E
        exact absurd (show (0 : Int32) = 1 from hx _ rfl) (by decide)
  · rw [if_neg c18] at E
    refine r_iconst X (v := 0) dL_law_2379 (by decide) ?_
    cases E
    exact absurd (show (0 : Int32) = 1 from hx _ rfl) (by decide)
set_option maxHeartbeats 4000000 in
set_option maxRecDepth 100000 in
theorem t_l_law_j2401_23 {l : Launch} (hst : l.stackTraces = false) {G : GG} {M : MC} {b9 Ln : Nat} {xs : Nat → Int32} (hX : HX M G b9 Ln xs) (X : CX M G cL_law 9 RL room_1) (hl0 : M.2.1 = l) {Q : State → Prop} {kc ks : Nat} {s9 : ((Int32) ⊕ ((Unit) ⊕ Int32))} {g1 : AH}  {a1 : Nat} {a2 : Nat} {a3 : Nat} {a4 : Int32} {Kc Ks : Nat} (hkc : kc + 3 ≤ Kc ∧ Kc ≤ 601024) (hks : ks + 18 ≤ Ks ∧ Ks ≤ 7293034) (hc : ∀ s1, s9 = .inl s1 → WW M G 9 Q (kc + 3) (ks + 18) g1 23 [(0, .ref b9), (1, .ref a1), (2, .ref a2), (3, .ref a3), (4, .int s1)] []) (hx : ∀ t, s9 = .inr t → Sum.elim (fun t1 => WW M G 9 Q Kc Ks g1 2698 [] []) (fun t2 : Int32 => t2 = 1) t) {g : AH} (E : l_law_j2401_23 Ln xs a1 a2 a3 a4 g = some (s9, g1)) : WW M G 9 Q kc ks g 2401 [(0, .ref b9), (1, .ref a1), (2, .ref a2), (3, .ref a3), (4, .int a4)] [] := by
  unfold l_law_j2401_23 at E
  refine r_aload_n X 1 dL_law_2401 rfl rfl ?_
  refine r_aload_n X 0 dL_law_2402 rfl rfl ?_
  refine r_iload X dL_law_2403 rfl ?_
  refine r_iconst X (v := 1) dL_law_2405 (by decide) ?_
  refine r_iadd X dL_law_2406 ?_
  obtain ⟨x1, e2, E⟩ := gb_some E
  refine r_sld X hX dL_law_2407 e2 ?_
  refine r_aload_n X 0 dL_law_2408 rfl rfl ?_
  refine r_iload X dL_law_2409 rfl ?_
  refine r_iconst X (v := 2) dL_law_2411 (by decide) ?_
  refine r_iadd X dL_law_2412 ?_
  obtain ⟨x3, e4, E⟩ := gb_some E
  refine r_sld X hX dL_law_2413 e4 ?_
  refine r_aload_n X 3 dL_law_2414 rfl rfl ?_
  obtain ⟨r5, g6, e7, E⟩ := cb_some E
  refine r_callW X hl0 dL_law_2415 y_L_payDebt m_L_331 (t_l_payDebt (l := l) hst (G := G) e7) rfl rfl (Nat.le_of_ble_eq_true rfl) ⟨by decide, by show _ + 3 ≤ 601024; omega, by show _ + 18 ≤ 7293034; omega⟩ ?_
  refine r_istore X (L1 := [(5, .int r5), (0, .ref b9), (1, .ref a1), (2, .ref a2), (3, .ref a3), (4, .int a4)]) dL_law_2418 (by decide) rfl ?_
  refine r_aload_n X 2 dL_law_2420 rfl rfl ?_
  refine r_aload_n X 0 dL_law_2421 rfl rfl ?_
  refine r_iload X dL_law_2422 rfl ?_
  refine r_iconst X (v := 1) dL_law_2424 (by decide) ?_
  refine r_iadd X dL_law_2425 ?_
  obtain ⟨x8, e9, E⟩ := gb_some E
  refine r_sld X hX dL_law_2426 e9 ?_
  refine r_aload_n X 0 dL_law_2427 rfl rfl ?_
  refine r_iload X dL_law_2428 rfl ?_
  refine r_iconst X (v := 2) dL_law_2430 (by decide) ?_
  refine r_iadd X dL_law_2431 ?_
  obtain ⟨x10, e11, E⟩ := gb_some E
  refine r_sld X hX dL_law_2432 e11 ?_
  obtain ⟨u15, e16, E⟩ := gb_some E
  obtain ⟨r12, g13, e14, E⟩ := cb_some E
  refine r_callV0 X hl0 (ci := 9) dL_law_2433 y_X9_payDebt m_L_333 rfl rfl e16 (t_x9_payDebt (l := l) (G := G) e14) rfl rfl (Nat.le_of_ble_eq_true rfl) (by decide) ?_
  refine r_istore X (L1 := [(6, .int r12), (5, .int r5), (0, .ref b9), (1, .ref a1), (2, .ref a2), (3, .ref a3), (4, .int a4)]) dL_law_2436 (by decide) rfl ?_
  refine r_aload_n X 2 dL_law_2438 rfl rfl ?_
  obtain ⟨u20, e21, E⟩ := gb_some E
  obtain ⟨r17, g18, e19, E⟩ := cb_some E
  refine r_callV0 X hl0 (ci := 9) dL_law_2439 y_X9_thrown m_L_133 rfl rfl e21 (t_x9_thrown (l := l) (G := G) e19) rfl rfl (Nat.le_of_ble_eq_true rfl) (by decide) ?_
  refine r_iload X dL_law_2442 rfl ?_
  refine r_icmp_eq X 2449 dL_law_2444 (by decide) (fun c22 => ?_) (fun c22 => ?_)
  · rw [if_pos c22] at E
    refine r_iload X dL_law_2449 rfl ?_
    refine r_if_ne X 2466 dL_law_2451 (by decide) (fun c23 => ?_) (fun c23 => ?_)
    · rw [if_neg c23] at E
      refine r_goto X 2692 dL_law_2466 (by decide) ?_
      refine r_iinc X (v := (a4 + 3)) (L1 := [(4, .int (a4 + 3)), (6, .int r12), (5, .int r5), (0, .ref b9), (1, .ref a1), (2, .ref a2), (3, .ref a3)]) dL_law_2692 rfl rfl (by decide) rfl ?_
      refine r_goto X 23 dL_law_2695 (by decide) ?_
      cases E
      exact r_widen X ⟨by first | exact Nat.le_add_right _ _ | exact Nat.add_le_add_left (by decide) _, Nat.le_trans hkc.1 hkc.2⟩ ⟨by first | exact Nat.le_add_right _ _ | exact Nat.add_le_add_left (by decide) _, Nat.le_trans hks.1 hks.2⟩ <| r_pick (by rfl : lpick [(4, .int (a4 + 3)), (6, .int r12), (5, .int r5), (0, .ref b9), (1, .ref a1), (2, .ref a2), (3, .ref a3)] [3, 4, 5, 6, 0] = _) (hc _ rfl)
    · rw [if_pos c23] at E
      refine r_aload_n X 3 dL_law_2454 rfl rfl ?_
      refine r_iconst X (v := 0) dL_law_2455 (by decide) ?_
      obtain ⟨x24, e25, E⟩ := gb_some E
      refine r_lald X dL_law_2456 e25 ?_
      refine r_iload X dL_law_2457 rfl ?_
      refine r_i2l X dL_law_2459 ?_
      refine r_lcmp X dL_law_2460 ?_
      refine r_if_eq X 2466 dL_law_2461 (by decide) (fun c26 => ?_) (fun c26 => ?_)
      · rw [if_pos c26] at E
        refine r_goto X 2692 dL_law_2466 (by decide) ?_
        refine r_iinc X (v := (a4 + 3)) (L1 := [(4, .int (a4 + 3)), (6, .int r12), (5, .int r5), (0, .ref b9), (1, .ref a1), (2, .ref a2), (3, .ref a3)]) dL_law_2692 rfl rfl (by decide) rfl ?_
        refine r_goto X 23 dL_law_2695 (by decide) ?_
        cases E
        exact r_widen X ⟨by first | exact Nat.le_add_right _ _ | exact Nat.add_le_add_left (by decide) _, Nat.le_trans hkc.1 hkc.2⟩ ⟨by first | exact Nat.le_add_right _ _ | exact Nat.add_le_add_left (by decide) _, Nat.le_trans hks.1 hks.2⟩ <| r_pick (by rfl : lpick [(4, .int (a4 + 3)), (6, .int r12), (5, .int r5), (0, .ref b9), (1, .ref a1), (2, .ref a2), (3, .ref a3)] [3, 4, 5, 6, 0] = _) (hc _ rfl)
      · rw [if_neg c26] at E
        refine r_iconst X (v := 0) dL_law_2464 (by decide) ?_
        cases E
        exact absurd (show (0 : Int32) = 1 from hx _ rfl) (by decide)
  · rw [if_neg c22] at E
    refine r_iconst X (v := 0) dL_law_2447 (by decide) ?_
    cases E
    exact absurd (show (0 : Int32) = 1 from hx _ rfl) (by decide)
set_option maxHeartbeats 4000000 in
set_option maxRecDepth 100000 in
theorem t_l_law_j2469_23 {l : Launch} (hst : l.stackTraces = false) {G : GG} {M : MC} {b9 Ln : Nat} {xs : Nat → Int32} (hX : HX M G b9 Ln xs) (X : CX M G cL_law 9 RL room_1) (hl0 : M.2.1 = l) {Q : State → Prop} {kc ks : Nat} {s9 : ((Int32) ⊕ ((Unit) ⊕ Int32))} {g1 : AH}  {a1 : Nat} {a2 : Nat} {a3 : Nat} {a4 : Int32} {Kc Ks : Nat} (hkc : kc + 3 ≤ Kc ∧ Kc ≤ 601024) (hks : ks + 18 ≤ Ks ∧ Ks ≤ 7293034) (hc : ∀ s1, s9 = .inl s1 → WW M G 9 Q (kc + 3) (ks + 18) g1 23 [(0, .ref b9), (1, .ref a1), (2, .ref a2), (3, .ref a3), (4, .int s1)] []) (hx : ∀ t, s9 = .inr t → Sum.elim (fun t1 => WW M G 9 Q Kc Ks g1 2698 [] []) (fun t2 : Int32 => t2 = 1) t) {g : AH} (E : l_law_j2469_23 Ln xs a1 a2 a3 a4 g = some (s9, g1)) : WW M G 9 Q kc ks g 2469 [(0, .ref b9), (1, .ref a1), (2, .ref a2), (3, .ref a3), (4, .int a4)] [] := by
  unfold l_law_j2469_23 at E
  refine r_aload_n X 1 dL_law_2469 rfl rfl ?_
  refine r_aload_n X 0 dL_law_2470 rfl rfl ?_
  refine r_iload X dL_law_2471 rfl ?_
  refine r_iconst X (v := 1) dL_law_2473 (by decide) ?_
  refine r_iadd X dL_law_2474 ?_
  obtain ⟨x1, e2, E⟩ := gb_some E
  refine r_sld X hX dL_law_2475 e2 ?_
  refine r_aload_n X 3 dL_law_2476 rfl rfl ?_
  obtain ⟨r3, g4, e5, E⟩ := cb_some E
  refine r_callW X hl0 dL_law_2477 y_L_passHours m_L_334 (t_l_passHours (l := l) hst (G := G) e5) rfl rfl (Nat.le_of_ble_eq_true rfl) ⟨by decide, by show _ + 3 ≤ 601024; omega, by show _ + 18 ≤ 7293034; omega⟩ ?_
  refine r_istore X (L1 := [(5, .int r3), (0, .ref b9), (1, .ref a1), (2, .ref a2), (3, .ref a3), (4, .int a4)]) dL_law_2480 (by decide) rfl ?_
  refine r_aload_n X 2 dL_law_2482 rfl rfl ?_
  refine r_aload_n X 0 dL_law_2483 rfl rfl ?_
  refine r_iload X dL_law_2484 rfl ?_
  refine r_iconst X (v := 1) dL_law_2486 (by decide) ?_
  refine r_iadd X dL_law_2487 ?_
  obtain ⟨x6, e7, E⟩ := gb_some E
  refine r_sld X hX dL_law_2488 e7 ?_
  obtain ⟨u11, e12, E⟩ := gb_some E
  obtain ⟨r8, g9, e10, E⟩ := cb_some E
  refine r_callV0 X hl0 (ci := 9) dL_law_2489 y_X9_passHours m_L_336 rfl rfl e12 (t_x9_passHours (l := l) (G := G) e10) rfl rfl (Nat.le_of_ble_eq_true rfl) (by decide) ?_
  refine r_istore X (L1 := [(6, .int r8), (5, .int r3), (0, .ref b9), (1, .ref a1), (2, .ref a2), (3, .ref a3), (4, .int a4)]) dL_law_2492 (by decide) rfl ?_
  refine r_aload_n X 2 dL_law_2494 rfl rfl ?_
  obtain ⟨u16, e17, E⟩ := gb_some E
  obtain ⟨r13, g14, e15, E⟩ := cb_some E
  refine r_callV0 X hl0 (ci := 9) dL_law_2495 y_X9_thrown m_L_133 rfl rfl e17 (t_x9_thrown (l := l) (G := G) e15) rfl rfl (Nat.le_of_ble_eq_true rfl) (by decide) ?_
  refine r_iload X dL_law_2498 rfl ?_
  refine r_icmp_eq X 2505 dL_law_2500 (by decide) (fun c18 => ?_) (fun c18 => ?_)
  · rw [if_pos c18] at E
    refine r_iload X dL_law_2505 rfl ?_
    refine r_if_ne X 2522 dL_law_2507 (by decide) (fun c19 => ?_) (fun c19 => ?_)
    · rw [if_neg c19] at E
      refine r_goto X 2692 dL_law_2522 (by decide) ?_
      refine r_iinc X (v := (a4 + 3)) (L1 := [(4, .int (a4 + 3)), (6, .int r8), (5, .int r3), (0, .ref b9), (1, .ref a1), (2, .ref a2), (3, .ref a3)]) dL_law_2692 rfl rfl (by decide) rfl ?_
      refine r_goto X 23 dL_law_2695 (by decide) ?_
      cases E
      exact r_widen X ⟨by first | exact Nat.le_add_right _ _ | exact Nat.add_le_add_left (by decide) _, Nat.le_trans hkc.1 hkc.2⟩ ⟨by first | exact Nat.le_add_right _ _ | exact Nat.add_le_add_left (by decide) _, Nat.le_trans hks.1 hks.2⟩ <| r_pick (by rfl : lpick [(4, .int (a4 + 3)), (6, .int r8), (5, .int r3), (0, .ref b9), (1, .ref a1), (2, .ref a2), (3, .ref a3)] [3, 4, 5, 6, 0] = _) (hc _ rfl)
    · rw [if_pos c19] at E
      refine r_aload_n X 3 dL_law_2510 rfl rfl ?_
      refine r_iconst X (v := 0) dL_law_2511 (by decide) ?_
      obtain ⟨x20, e21, E⟩ := gb_some E
      refine r_lald X dL_law_2512 e21 ?_
      refine r_iload X dL_law_2513 rfl ?_
      refine r_i2l X dL_law_2515 ?_
      refine r_lcmp X dL_law_2516 ?_
      refine r_if_eq X 2522 dL_law_2517 (by decide) (fun c22 => ?_) (fun c22 => ?_)
      · rw [if_pos c22] at E
        refine r_goto X 2692 dL_law_2522 (by decide) ?_
        refine r_iinc X (v := (a4 + 3)) (L1 := [(4, .int (a4 + 3)), (6, .int r8), (5, .int r3), (0, .ref b9), (1, .ref a1), (2, .ref a2), (3, .ref a3)]) dL_law_2692 rfl rfl (by decide) rfl ?_
        refine r_goto X 23 dL_law_2695 (by decide) ?_
        cases E
        exact r_widen X ⟨by first | exact Nat.le_add_right _ _ | exact Nat.add_le_add_left (by decide) _, Nat.le_trans hkc.1 hkc.2⟩ ⟨by first | exact Nat.le_add_right _ _ | exact Nat.add_le_add_left (by decide) _, Nat.le_trans hks.1 hks.2⟩ <| r_pick (by rfl : lpick [(4, .int (a4 + 3)), (6, .int r8), (5, .int r3), (0, .ref b9), (1, .ref a1), (2, .ref a2), (3, .ref a3)] [3, 4, 5, 6, 0] = _) (hc _ rfl)
      · rw [if_neg c22] at E
        refine r_iconst X (v := 0) dL_law_2520 (by decide) ?_
        cases E
        exact absurd (show (0 : Int32) = 1 from hx _ rfl) (by decide)
  · rw [if_neg c18] at E
    refine r_iconst X (v := 0) dL_law_2503 (by decide) ?_
    cases E
    exact absurd (show (0 : Int32) = 1 from hx _ rfl) (by decide)
set_option maxHeartbeats 4000000 in
set_option maxRecDepth 100000 in
theorem t_l_law_j2525_23 {l : Launch} (hst : l.stackTraces = false) {G : GG} {M : MC} {b9 Ln : Nat} {xs : Nat → Int32} (hX : HX M G b9 Ln xs) (X : CX M G cL_law 9 RL room_1) (hl0 : M.2.1 = l) {Q : State → Prop} {kc ks : Nat} {s9 : ((Int32) ⊕ ((Unit) ⊕ Int32))} {g1 : AH}  {a1 : Nat} {a2 : Nat} {a3 : Nat} {a4 : Int32} {Kc Ks : Nat} (hkc : kc + 3 ≤ Kc ∧ Kc ≤ 601024) (hks : ks + 18 ≤ Ks ∧ Ks ≤ 7293034) (hc : ∀ s1, s9 = .inl s1 → WW M G 9 Q (kc + 3) (ks + 18) g1 23 [(0, .ref b9), (1, .ref a1), (2, .ref a2), (3, .ref a3), (4, .int s1)] []) (hx : ∀ t, s9 = .inr t → Sum.elim (fun t1 => WW M G 9 Q Kc Ks g1 2698 [] []) (fun t2 : Int32 => t2 = 1) t) {g : AH} (E : l_law_j2525_23 Ln xs a1 a2 a3 a4 g = some (s9, g1)) : WW M G 9 Q kc ks g 2525 [(0, .ref b9), (1, .ref a1), (2, .ref a2), (3, .ref a3), (4, .int a4)] [] := by
  unfold l_law_j2525_23 at E
  refine r_aload_n X 1 dL_law_2525 rfl rfl ?_
  obtain ⟨u4, e5, E⟩ := gb_some E
  obtain ⟨r1, g2, e3, E⟩ := cb_some E
  refine r_callV0 X hl0 (ci := 8) dL_law_2526 y_X8_writeBunks m_L_337 rfl rfl e5 (t_x8_writeBunks (l := l) (G := G) e3) rfl rfl (Nat.le_of_ble_eq_true rfl) (by decide) ?_
  refine r_aload_n X 2 dL_law_2529 rfl rfl ?_
  obtain ⟨u9, e10, E⟩ := gb_some E
  obtain ⟨r6, g7, e8, E⟩ := cb_some E
  refine r_callV0 X hl0 (ci := 9) dL_law_2530 y_X9_writeBunks m_L_340 rfl rfl e10 (t_x9_writeBunks (l := l) (G := G) e8) rfl rfl (Nat.le_of_ble_eq_true rfl) (by decide) ?_
  refine r_icmp_eq X 2692 dL_law_2533 (by decide) (fun c11 => ?_) (fun c11 => ?_)
  · rw [if_pos c11] at E
    refine r_iinc X (v := (a4 + 3)) (L1 := [(4, .int (a4 + 3)), (0, .ref b9), (1, .ref a1), (2, .ref a2), (3, .ref a3)]) dL_law_2692 rfl rfl (by decide) rfl ?_
    refine r_goto X 23 dL_law_2695 (by decide) ?_
    cases E
    exact r_widen X ⟨by first | exact Nat.le_add_right _ _ | exact Nat.add_le_add_left (by decide) _, Nat.le_trans hkc.1 hkc.2⟩ ⟨by first | exact Nat.le_add_right _ _ | exact Nat.add_le_add_left (by decide) _, Nat.le_trans hks.1 hks.2⟩ <| r_pick (by rfl : lpick [(4, .int (a4 + 3)), (0, .ref b9), (1, .ref a1), (2, .ref a2), (3, .ref a3)] [1, 2, 3, 4, 0] = _) (hc _ rfl)
  · rw [if_neg c11] at E
    refine r_iconst X (v := 0) dL_law_2536 (by decide) ?_
    cases E
    exact absurd (show (0 : Int32) = 1 from hx _ rfl) (by decide)
set_option maxHeartbeats 4000000 in
set_option maxRecDepth 100000 in
theorem t_l_law_j2538_23 {l : Launch} (hst : l.stackTraces = false) {G : GG} {M : MC} {b9 Ln : Nat} {xs : Nat → Int32} (hX : HX M G b9 Ln xs) (X : CX M G cL_law 9 RL room_1) (hl0 : M.2.1 = l) {Q : State → Prop} {kc ks : Nat} {s9 : ((Int32) ⊕ ((Unit) ⊕ Int32))} {g1 : AH}  {a1 : Nat} {a2 : Nat} {a3 : Nat} {a4 : Int32} {Kc Ks : Nat} (hkc : kc + 3 ≤ Kc ∧ Kc ≤ 601024) (hks : ks + 18 ≤ Ks ∧ Ks ≤ 7293034) (hc : ∀ s1, s9 = .inl s1 → WW M G 9 Q (kc + 3) (ks + 18) g1 23 [(0, .ref b9), (1, .ref a1), (2, .ref a2), (3, .ref a3), (4, .int s1)] []) (hx : ∀ t, s9 = .inr t → Sum.elim (fun t1 => WW M G 9 Q Kc Ks g1 2698 [] []) (fun t2 : Int32 => t2 = 1) t) {g : AH} (E : l_law_j2538_23 Ln xs a1 a2 a3 a4 g = some (s9, g1)) : WW M G 9 Q kc ks g 2538 [(0, .ref b9), (1, .ref a1), (2, .ref a2), (3, .ref a3), (4, .int a4)] [] := by
  unfold l_law_j2538_23 at E
  refine r_aload_n X 1 dL_law_2538 rfl rfl ?_
  obtain ⟨u4, e5, E⟩ := gb_some E
  obtain ⟨r1, g2, e3, E⟩ := cb_some E
  refine r_callV0 X hl0 (ci := 8) dL_law_2539 y_X8_writeLedger m_L_341 rfl rfl e5 (t_x8_writeLedger (l := l) (G := G) e3) rfl rfl (Nat.le_of_ble_eq_true rfl) (by decide) ?_
  refine r_aload_n X 2 dL_law_2542 rfl rfl ?_
  obtain ⟨u9, e10, E⟩ := gb_some E
  obtain ⟨r6, g7, e8, E⟩ := cb_some E
  refine r_callV0 X hl0 (ci := 9) dL_law_2543 y_X9_writeLedger m_L_344 rfl rfl e10 (t_x9_writeLedger (l := l) (G := G) e8) rfl rfl (Nat.le_of_ble_eq_true rfl) (by decide) ?_
  refine r_icmp_eq X 2692 dL_law_2546 (by decide) (fun c11 => ?_) (fun c11 => ?_)
  · rw [if_pos c11] at E
    refine r_iinc X (v := (a4 + 3)) (L1 := [(4, .int (a4 + 3)), (0, .ref b9), (1, .ref a1), (2, .ref a2), (3, .ref a3)]) dL_law_2692 rfl rfl (by decide) rfl ?_
    refine r_goto X 23 dL_law_2695 (by decide) ?_
    cases E
    exact r_widen X ⟨by first | exact Nat.le_add_right _ _ | exact Nat.add_le_add_left (by decide) _, Nat.le_trans hkc.1 hkc.2⟩ ⟨by first | exact Nat.le_add_right _ _ | exact Nat.add_le_add_left (by decide) _, Nat.le_trans hks.1 hks.2⟩ <| r_pick (by rfl : lpick [(4, .int (a4 + 3)), (0, .ref b9), (1, .ref a1), (2, .ref a2), (3, .ref a3)] [1, 2, 3, 4, 0] = _) (hc _ rfl)
  · rw [if_neg c11] at E
    refine r_iconst X (v := 0) dL_law_2549 (by decide) ?_
    cases E
    exact absurd (show (0 : Int32) = 1 from hx _ rfl) (by decide)
set_option maxHeartbeats 4000000 in
set_option maxRecDepth 100000 in
theorem t_l_law_j2551_23 {l : Launch} (hst : l.stackTraces = false) {G : GG} {M : MC} {b9 Ln : Nat} {xs : Nat → Int32} (hX : HX M G b9 Ln xs) (X : CX M G cL_law 9 RL room_1) (hl0 : M.2.1 = l) {Q : State → Prop} {kc ks : Nat} {s9 : ((Int32) ⊕ ((Unit) ⊕ Int32))} {g1 : AH}  {a1 : Nat} {a2 : Nat} {a3 : Nat} {a4 : Int32} {Kc Ks : Nat} (hkc : kc + 3 ≤ Kc ∧ Kc ≤ 601024) (hks : ks + 18 ≤ Ks ∧ Ks ≤ 7293034) (hc : ∀ s1, s9 = .inl s1 → WW M G 9 Q (kc + 3) (ks + 18) g1 23 [(0, .ref b9), (1, .ref a1), (2, .ref a2), (3, .ref a3), (4, .int s1)] []) (hx : ∀ t, s9 = .inr t → Sum.elim (fun t1 => WW M G 9 Q Kc Ks g1 2698 [] []) (fun t2 : Int32 => t2 = 1) t) {g : AH} (E : l_law_j2551_23 Ln xs a1 a2 a3 a4 g = some (s9, g1)) : WW M G 9 Q kc ks g 2551 [(0, .ref b9), (1, .ref a1), (2, .ref a2), (3, .ref a3), (4, .int a4)] [] := by
  unfold l_law_j2551_23 at E
  refine r_aload_n X 1 dL_law_2551 rfl rfl ?_
  refine r_aload_n X 0 dL_law_2552 rfl rfl ?_
  refine r_iload X dL_law_2553 rfl ?_
  refine r_iconst X (v := 1) dL_law_2555 (by decide) ?_
  refine r_iadd X dL_law_2556 ?_
  obtain ⟨x1, e2, E⟩ := gb_some E
  refine r_sld X hX dL_law_2557 e2 ?_
  obtain ⟨u6, e7, E⟩ := gb_some E
  obtain ⟨r3, g4, e5, E⟩ := cb_some E
  refine r_callV0 X hl0 (ci := 8) dL_law_2558 y_X8_outputByte m_L_345 rfl rfl e7 (t_x8_outputByte (l := l) (G := G) e5) rfl rfl (Nat.le_of_ble_eq_true rfl) (by decide) ?_
  refine r_aload_n X 2 dL_law_2561 rfl rfl ?_
  refine r_aload_n X 0 dL_law_2562 rfl rfl ?_
  refine r_iload X dL_law_2563 rfl ?_
  refine r_iconst X (v := 1) dL_law_2565 (by decide) ?_
  refine r_iadd X dL_law_2566 ?_
  obtain ⟨x8, e9, E⟩ := gb_some E
  refine r_sld X hX dL_law_2567 e9 ?_
  obtain ⟨u13, e14, E⟩ := gb_some E
  obtain ⟨r10, g11, e12, E⟩ := cb_some E
  refine r_callV0 X hl0 (ci := 9) dL_law_2568 y_X9_outputByte m_L_348 rfl rfl e14 (t_x9_outputByte (l := l) (G := G) e12) rfl rfl (Nat.le_of_ble_eq_true rfl) (by decide) ?_
  refine r_icmp_eq X 2692 dL_law_2571 (by decide) (fun c15 => ?_) (fun c15 => ?_)
  · rw [if_pos c15] at E
    refine r_iinc X (v := (a4 + 3)) (L1 := [(4, .int (a4 + 3)), (0, .ref b9), (1, .ref a1), (2, .ref a2), (3, .ref a3)]) dL_law_2692 rfl rfl (by decide) rfl ?_
    refine r_goto X 23 dL_law_2695 (by decide) ?_
    cases E
    exact r_widen X ⟨by first | exact Nat.le_add_right _ _ | exact Nat.add_le_add_left (by decide) _, Nat.le_trans hkc.1 hkc.2⟩ ⟨by first | exact Nat.le_add_right _ _ | exact Nat.add_le_add_left (by decide) _, Nat.le_trans hks.1 hks.2⟩ <| r_pick (by rfl : lpick [(4, .int (a4 + 3)), (0, .ref b9), (1, .ref a1), (2, .ref a2), (3, .ref a3)] [1, 2, 3, 4, 0] = _) (hc _ rfl)
  · rw [if_neg c15] at E
    refine r_iconst X (v := 0) dL_law_2574 (by decide) ?_
    cases E
    exact absurd (show (0 : Int32) = 1 from hx _ rfl) (by decide)
set_option maxHeartbeats 4000000 in
set_option maxRecDepth 100000 in
theorem t_l_law_j2576_23 {l : Launch} (hst : l.stackTraces = false) {G : GG} {M : MC} {b9 Ln : Nat} {xs : Nat → Int32} (hX : HX M G b9 Ln xs) (X : CX M G cL_law 9 RL room_1) (hl0 : M.2.1 = l) {Q : State → Prop} {kc ks : Nat} {s9 : ((Int32) ⊕ ((Unit) ⊕ Int32))} {g1 : AH}  {a1 : Nat} {a2 : Nat} {a3 : Nat} {a4 : Int32} {Kc Ks : Nat} (hkc : kc + 3 ≤ Kc ∧ Kc ≤ 601024) (hks : ks + 18 ≤ Ks ∧ Ks ≤ 7293034) (hc : ∀ s1, s9 = .inl s1 → WW M G 9 Q (kc + 3) (ks + 18) g1 23 [(0, .ref b9), (1, .ref a1), (2, .ref a2), (3, .ref a3), (4, .int s1)] []) (hx : ∀ t, s9 = .inr t → Sum.elim (fun t1 => WW M G 9 Q Kc Ks g1 2698 [] []) (fun t2 : Int32 => t2 = 1) t) {g : AH} (E : l_law_j2576_23 Ln xs a1 a2 a3 a4 g = some (s9, g1)) : WW M G 9 Q kc ks g 2576 [(0, .ref b9), (1, .ref a1), (2, .ref a2), (3, .ref a3), (4, .int a4)] [] := by
  unfold l_law_j2576_23 at E
  refine r_aload_n X 1 dL_law_2576 rfl rfl ?_
  refine r_aload_n X 3 dL_law_2577 rfl rfl ?_
  obtain ⟨r1, g2, e3, E⟩ := cb_some E
  refine r_callW X hl0 dL_law_2578 y_L_undo m_L_349 (t_l_undo (l := l) hst (G := G) e3) rfl rfl (Nat.le_of_ble_eq_true rfl) ⟨by decide, by show _ + 1 ≤ 601024; omega, by show _ + 6 ≤ 7293034; omega⟩ ?_
  refine r_istore X (L1 := [(5, .int r1), (0, .ref b9), (1, .ref a1), (2, .ref a2), (3, .ref a3), (4, .int a4)]) dL_law_2581 (by decide) rfl ?_
  refine r_aload_n X 2 dL_law_2583 rfl rfl ?_
  obtain ⟨u7, e8, E⟩ := gb_some E
  obtain ⟨r4, g5, e6, E⟩ := cb_some E
  refine r_callV0 X hl0 (ci := 9) dL_law_2584 y_X9_undo m_L_352 rfl rfl e8 (t_x9_undo (l := l) (G := G) e6) rfl rfl (Nat.le_of_ble_eq_true rfl) (by decide) ?_
  refine r_istore X (L1 := [(6, .int r4), (5, .int r1), (0, .ref b9), (1, .ref a1), (2, .ref a2), (3, .ref a3), (4, .int a4)]) dL_law_2587 (by decide) rfl ?_
  refine r_aload_n X 2 dL_law_2589 rfl rfl ?_
  obtain ⟨u12, e13, E⟩ := gb_some E
  obtain ⟨r9, g10, e11, E⟩ := cb_some E
  refine r_callV0 X hl0 (ci := 9) dL_law_2590 y_X9_thrown m_L_133 rfl rfl e13 (t_x9_thrown (l := l) (G := G) e11) rfl rfl (Nat.le_of_ble_eq_true rfl) (by decide) ?_
  refine r_iload X dL_law_2593 rfl ?_
  refine r_icmp_eq X 2600 dL_law_2595 (by decide) (fun c14 => ?_) (fun c14 => ?_)
  · rw [if_pos c14] at E
    refine r_iload X dL_law_2600 rfl ?_
    refine r_if_ne X 2617 dL_law_2602 (by decide) (fun c15 => ?_) (fun c15 => ?_)
    · rw [if_neg c15] at E
      refine r_goto X 2692 dL_law_2617 (by decide) ?_
      refine r_iinc X (v := (a4 + 3)) (L1 := [(4, .int (a4 + 3)), (6, .int r4), (5, .int r1), (0, .ref b9), (1, .ref a1), (2, .ref a2), (3, .ref a3)]) dL_law_2692 rfl rfl (by decide) rfl ?_
      refine r_goto X 23 dL_law_2695 (by decide) ?_
      cases E
      exact r_widen X ⟨by first | exact Nat.le_add_right _ _ | exact Nat.add_le_add_left (by decide) _, Nat.le_trans hkc.1 hkc.2⟩ ⟨by first | exact Nat.le_add_right _ _ | exact Nat.add_le_add_left (by decide) _, Nat.le_trans hks.1 hks.2⟩ <| r_pick (by rfl : lpick [(4, .int (a4 + 3)), (6, .int r4), (5, .int r1), (0, .ref b9), (1, .ref a1), (2, .ref a2), (3, .ref a3)] [3, 4, 5, 6, 0] = _) (hc _ rfl)
    · rw [if_pos c15] at E
      refine r_aload_n X 3 dL_law_2605 rfl rfl ?_
      refine r_iconst X (v := 0) dL_law_2606 (by decide) ?_
      obtain ⟨x16, e17, E⟩ := gb_some E
      refine r_lald X dL_law_2607 e17 ?_
      refine r_iload X dL_law_2608 rfl ?_
      refine r_i2l X dL_law_2610 ?_
      refine r_lcmp X dL_law_2611 ?_
      refine r_if_eq X 2617 dL_law_2612 (by decide) (fun c18 => ?_) (fun c18 => ?_)
      · rw [if_pos c18] at E
        refine r_goto X 2692 dL_law_2617 (by decide) ?_
        refine r_iinc X (v := (a4 + 3)) (L1 := [(4, .int (a4 + 3)), (6, .int r4), (5, .int r1), (0, .ref b9), (1, .ref a1), (2, .ref a2), (3, .ref a3)]) dL_law_2692 rfl rfl (by decide) rfl ?_
        refine r_goto X 23 dL_law_2695 (by decide) ?_
        cases E
        exact r_widen X ⟨by first | exact Nat.le_add_right _ _ | exact Nat.add_le_add_left (by decide) _, Nat.le_trans hkc.1 hkc.2⟩ ⟨by first | exact Nat.le_add_right _ _ | exact Nat.add_le_add_left (by decide) _, Nat.le_trans hks.1 hks.2⟩ <| r_pick (by rfl : lpick [(4, .int (a4 + 3)), (6, .int r4), (5, .int r1), (0, .ref b9), (1, .ref a1), (2, .ref a2), (3, .ref a3)] [3, 4, 5, 6, 0] = _) (hc _ rfl)
      · rw [if_neg c18] at E
        refine r_iconst X (v := 0) dL_law_2615 (by decide) ?_
        cases E
        exact absurd (show (0 : Int32) = 1 from hx _ rfl) (by decide)
  · rw [if_neg c14] at E
    refine r_iconst X (v := 0) dL_law_2598 (by decide) ?_
    cases E
    exact absurd (show (0 : Int32) = 1 from hx _ rfl) (by decide)
set_option maxHeartbeats 4000000 in
set_option maxRecDepth 100000 in
theorem t_l_law_j2620_23 {l : Launch} (hst : l.stackTraces = false) {G : GG} {M : MC} {b9 Ln : Nat} {xs : Nat → Int32} (hX : HX M G b9 Ln xs) (X : CX M G cL_law 9 RL room_1) (hl0 : M.2.1 = l) {Q : State → Prop} {kc ks : Nat} {s9 : ((Int32) ⊕ ((Unit) ⊕ Int32))} {g1 : AH}  {a1 : Nat} {a2 : Nat} {a3 : Nat} {a4 : Int32} {Kc Ks : Nat} (hkc : kc + 3 ≤ Kc ∧ Kc ≤ 601024) (hks : ks + 18 ≤ Ks ∧ Ks ≤ 7293034) (hc : ∀ s1, s9 = .inl s1 → WW M G 9 Q (kc + 3) (ks + 18) g1 23 [(0, .ref b9), (1, .ref a1), (2, .ref a2), (3, .ref a3), (4, .int s1)] []) (hx : ∀ t, s9 = .inr t → Sum.elim (fun t1 => WW M G 9 Q Kc Ks g1 2698 [] []) (fun t2 : Int32 => t2 = 1) t) {g : AH} (E : l_law_j2620_23 Ln xs a1 a2 a3 a4 g = some (s9, g1)) : WW M G 9 Q kc ks g 2620 [(0, .ref b9), (1, .ref a1), (2, .ref a2), (3, .ref a3), (4, .int a4)] [] := by
  unfold l_law_j2620_23 at E
  refine r_aload_n X 1 dL_law_2620 rfl rfl ?_
  refine r_aload_n X 0 dL_law_2621 rfl rfl ?_
  refine r_iload X dL_law_2622 rfl ?_
  refine r_iconst X (v := 1) dL_law_2624 (by decide) ?_
  refine r_iadd X dL_law_2625 ?_
  obtain ⟨x1, e2, E⟩ := gb_some E
  refine r_sld X hX dL_law_2626 e2 ?_
  obtain ⟨r3, g4, e5, E⟩ := cb_some E
  refine r_callW X hl0 dL_law_2627 y_L_saveSnapshot m_L_353 (t_l_saveSnapshot (l := l) hst (G := G) e5) rfl rfl (Nat.le_of_ble_eq_true rfl) ⟨by decide, by show _ + 1 ≤ 601024; omega, by show _ + 6 ≤ 7293034; omega⟩ ?_
  refine r_istore X (L1 := [(5, .int r3), (0, .ref b9), (1, .ref a1), (2, .ref a2), (3, .ref a3), (4, .int a4)]) dL_law_2630 (by decide) rfl ?_
  refine r_aload_n X 2 dL_law_2632 rfl rfl ?_
  refine r_aload_n X 0 dL_law_2633 rfl rfl ?_
  refine r_iload X dL_law_2634 rfl ?_
  refine r_iconst X (v := 1) dL_law_2636 (by decide) ?_
  refine r_iadd X dL_law_2637 ?_
  obtain ⟨x6, e7, E⟩ := gb_some E
  refine r_sld X hX dL_law_2638 e7 ?_
  obtain ⟨u11, e12, E⟩ := gb_some E
  obtain ⟨r8, g9, e10, E⟩ := cb_some E
  refine r_callV0 X hl0 (ci := 9) dL_law_2639 y_X9_saveSnapshot m_L_356 rfl rfl e12 (t_x9_saveSnapshot (l := l) (G := G) e10) rfl rfl (Nat.le_of_ble_eq_true rfl) (by decide) ?_
  refine r_aload_n X 2 dL_law_2642 rfl rfl ?_
  obtain ⟨u16, e17, E⟩ := gb_some E
  obtain ⟨r13, g14, e15, E⟩ := cb_some E
  refine r_callV0 X hl0 (ci := 9) dL_law_2643 y_X9_thrown m_L_133 rfl rfl e17 (t_x9_thrown (l := l) (G := G) e15) rfl rfl (Nat.le_of_ble_eq_true rfl) (by decide) ?_
  refine r_iload X dL_law_2646 rfl ?_
  refine r_icmp_eq X 2653 dL_law_2648 (by decide) (fun c18 => ?_) (fun c18 => ?_)
  · rw [if_pos c18] at E
    refine r_goto X 2692 dL_law_2653 (by decide) ?_
    refine r_iinc X (v := (a4 + 3)) (L1 := [(4, .int (a4 + 3)), (5, .int r3), (0, .ref b9), (1, .ref a1), (2, .ref a2), (3, .ref a3)]) dL_law_2692 rfl rfl (by decide) rfl ?_
    refine r_goto X 23 dL_law_2695 (by decide) ?_
    cases E
    exact r_widen X ⟨by first | exact Nat.le_add_right _ _ | exact Nat.add_le_add_left (by decide) _, Nat.le_trans hkc.1 hkc.2⟩ ⟨by first | exact Nat.le_add_right _ _ | exact Nat.add_le_add_left (by decide) _, Nat.le_trans hks.1 hks.2⟩ <| r_pick (by rfl : lpick [(4, .int (a4 + 3)), (5, .int r3), (0, .ref b9), (1, .ref a1), (2, .ref a2), (3, .ref a3)] [2, 3, 4, 5, 0] = _) (hc _ rfl)
  · rw [if_neg c18] at E
    refine r_iconst X (v := 0) dL_law_2651 (by decide) ?_
    cases E
    exact absurd (show (0 : Int32) = 1 from hx _ rfl) (by decide)
set_option maxHeartbeats 4000000 in
set_option maxRecDepth 100000 in
theorem t_l_law_j2656_23 {l : Launch} (hst : l.stackTraces = false) {G : GG} {M : MC} {b9 Ln : Nat} {xs : Nat → Int32} (hX : HX M G b9 Ln xs) (X : CX M G cL_law 9 RL room_1) (hl0 : M.2.1 = l) {Q : State → Prop} {kc ks : Nat} {s9 : ((Int32) ⊕ ((Unit) ⊕ Int32))} {g1 : AH}  {a1 : Nat} {a2 : Nat} {a3 : Nat} {a4 : Int32} {Kc Ks : Nat} (hkc : kc + 3 ≤ Kc ∧ Kc ≤ 601024) (hks : ks + 18 ≤ Ks ∧ Ks ≤ 7293034) (hc : ∀ s1, s9 = .inl s1 → WW M G 9 Q (kc + 3) (ks + 18) g1 23 [(0, .ref b9), (1, .ref a1), (2, .ref a2), (3, .ref a3), (4, .int s1)] []) (hx : ∀ t, s9 = .inr t → Sum.elim (fun t1 => WW M G 9 Q Kc Ks g1 2698 [] []) (fun t2 : Int32 => t2 = 1) t) {g : AH} (E : l_law_j2656_23 Ln xs a1 a2 a3 a4 g = some (s9, g1)) : WW M G 9 Q kc ks g 2656 [(0, .ref b9), (1, .ref a1), (2, .ref a2), (3, .ref a3), (4, .int a4)] [] := by
  unfold l_law_j2656_23 at E
  refine r_aload_n X 1 dL_law_2656 rfl rfl ?_
  refine r_aload_n X 0 dL_law_2657 rfl rfl ?_
  refine r_iload X dL_law_2658 rfl ?_
  refine r_iconst X (v := 1) dL_law_2660 (by decide) ?_
  refine r_iadd X dL_law_2661 ?_
  obtain ⟨x1, e2, E⟩ := gb_some E
  refine r_sld X hX dL_law_2662 e2 ?_
  obtain ⟨r3, g4, e5, E⟩ := cb_some E
  refine r_callW X hl0 dL_law_2663 y_L_restoreSnapshot m_L_357 (t_l_restoreSnapshot (l := l) hst (G := G) e5) rfl rfl (Nat.le_of_ble_eq_true rfl) ⟨by decide, by show _ + 2 ≤ 601024; omega, by show _ + 12 ≤ 7293034; omega⟩ ?_
  refine r_istore X (L1 := [(5, .int r3), (0, .ref b9), (1, .ref a1), (2, .ref a2), (3, .ref a3), (4, .int a4)]) dL_law_2666 (by decide) rfl ?_
  refine r_aload_n X 2 dL_law_2668 rfl rfl ?_
  refine r_aload_n X 0 dL_law_2669 rfl rfl ?_
  refine r_iload X dL_law_2670 rfl ?_
  refine r_iconst X (v := 1) dL_law_2672 (by decide) ?_
  refine r_iadd X dL_law_2673 ?_
  obtain ⟨x6, e7, E⟩ := gb_some E
  refine r_sld X hX dL_law_2674 e7 ?_
  obtain ⟨u11, e12, E⟩ := gb_some E
  obtain ⟨r8, g9, e10, E⟩ := cb_some E
  refine r_callV0 X hl0 (ci := 9) dL_law_2675 y_X9_restoreSnapshot m_L_359 rfl rfl e12 (t_x9_restoreSnapshot (l := l) (G := G) e10) rfl rfl (Nat.le_of_ble_eq_true rfl) (by decide) ?_
  refine r_aload_n X 2 dL_law_2678 rfl rfl ?_
  obtain ⟨u16, e17, E⟩ := gb_some E
  obtain ⟨r13, g14, e15, E⟩ := cb_some E
  refine r_callV0 X hl0 (ci := 9) dL_law_2679 y_X9_thrown m_L_133 rfl rfl e17 (t_x9_thrown (l := l) (G := G) e15) rfl rfl (Nat.le_of_ble_eq_true rfl) (by decide) ?_
  refine r_iload X dL_law_2682 rfl ?_
  refine r_icmp_eq X 2689 dL_law_2684 (by decide) (fun c18 => ?_) (fun c18 => ?_)
  · rw [if_pos c18] at E
    refine r_goto X 2692 dL_law_2689 (by decide) ?_
    refine r_iinc X (v := (a4 + 3)) (L1 := [(4, .int (a4 + 3)), (5, .int r3), (0, .ref b9), (1, .ref a1), (2, .ref a2), (3, .ref a3)]) dL_law_2692 rfl rfl (by decide) rfl ?_
    refine r_goto X 23 dL_law_2695 (by decide) ?_
    cases E
    exact r_widen X ⟨by first | exact Nat.le_add_right _ _ | exact Nat.add_le_add_left (by decide) _, Nat.le_trans hkc.1 hkc.2⟩ ⟨by first | exact Nat.le_add_right _ _ | exact Nat.add_le_add_left (by decide) _, Nat.le_trans hks.1 hks.2⟩ <| r_pick (by rfl : lpick [(4, .int (a4 + 3)), (5, .int r3), (0, .ref b9), (1, .ref a1), (2, .ref a2), (3, .ref a3)] [2, 3, 4, 5, 0] = _) (hc _ rfl)
  · rw [if_neg c18] at E
    refine r_iconst X (v := 0) dL_law_2687 (by decide) ?_
    cases E
    exact absurd (show (0 : Int32) = 1 from hx _ rfl) (by decide)
set_option maxHeartbeats 4000000 in
set_option maxRecDepth 100000 in
theorem t_l_law_l23 {l : Launch} (hst : l.stackTraces = false) {G : GG} {M : MC} {b9 Ln : Nat} {xs : Nat → Int32} (hX : HX M G b9 Ln xs) (X : CX M G cL_law 9 RL room_1) (hl0 : M.2.1 = l) {Q : State → Prop} {kc ks : Nat} {s9 : ((Int32) ⊕ ((Unit) ⊕ Int32))} {g1 : AH}  {a1 : Nat} {a2 : Nat} {a3 : Nat} {s0 : Int32} {Kc Ks : Nat} (hkc : kc + 3 ≤ Kc ∧ Kc ≤ 601024) (hks : ks + 18 ≤ Ks ∧ Ks ≤ 7293034) (hc : ∀ s1, s9 = .inl s1 → WW M G 9 Q (kc + 3) (ks + 18) g1 23 [(0, .ref b9), (1, .ref a1), (2, .ref a2), (3, .ref a3), (4, .int s1)] []) (hx : ∀ t, s9 = .inr t → Sum.elim (fun t1 => WW M G 9 Q Kc Ks g1 2698 [] []) (fun t2 : Int32 => t2 = 1) t) {g : AH} (E : l_law_l23 Ln xs a1 a2 a3 s0 g = some (s9, g1)) : WW M G 9 Q kc ks g 23 [(0, .ref b9), (1, .ref a1), (2, .ref a2), (3, .ref a3), (4, .int s0)] [] := by
  unfold l_law_l23 at E
  refine r_iload X dL_law_23 rfl ?_
  refine r_aload_n X 0 dL_law_25 rfl rfl ?_
  refine r_slen X hX dL_law_26 ?_
  refine r_iconst X (v := 3) dL_law_27 (by decide) ?_
  refine r_isub X dL_law_28 ?_
  refine r_icmp_gt X 2698 dL_law_29 (by decide) (fun c1 => ?_) (fun c1 => ?_)
  · rw [if_pos c1] at E
    cases E
    exact r_widen X ⟨by omega, hkc.2⟩ ⟨by omega, hks.2⟩ <| r_pick (by rfl : lpick [(0, .ref b9), (1, .ref a1), (2, .ref a2), (3, .ref a3), (4, .int s0)] [] = _) (hx _ rfl)
  · rw [if_neg c1] at E
    refine r_aload_n X 0 dL_law_32 rfl rfl ?_
    refine r_iload X dL_law_33 rfl ?_
    obtain ⟨x2, e3, E⟩ := gb_some E
    refine r_sld X hX dL_law_35 e3 ?_
    refine r_bipush X (v := 63) dL_law_36 (by decide) ?_
    refine r_iand X dL_law_38 ?_
    by_cases c4 : (x2 &&& 63) = 0
    · rw [if_pos c4] at E
      refine r_tswI X 0 308 dL_law_39 c4 (by decide) (by decide) rfl (by decide) ?_
      exact r_pick (by rfl : lpick [(0, .ref b9), (1, .ref a1), (2, .ref a2), (3, .ref a3), (4, .int s0)] [0, 1, 2, 3, 4] = _) (t_l_law_j308_23 hst hX X hl0 hkc hks hc hx E)
    rw [if_neg c4] at E
    by_cases c5 : (x2 &&& 63) = 1
    · rw [if_pos c5] at E
      refine r_tswI X 1 364 dL_law_39 c5 (by decide) (by decide) rfl (by decide) ?_
      exact r_pick (by rfl : lpick [(0, .ref b9), (1, .ref a1), (2, .ref a2), (3, .ref a3), (4, .int s0)] [0, 1, 2, 3, 4] = _) (t_l_law_j364_23 hst hX X hl0 hkc hks hc hx E)
    rw [if_neg c5] at E
    by_cases c6 : (x2 &&& 63) = 2
    · rw [if_pos c6] at E
      refine r_tswI X 2 420 dL_law_39 c6 (by decide) (by decide) rfl (by decide) ?_
      exact r_pick (by rfl : lpick [(0, .ref b9), (1, .ref a1), (2, .ref a2), (3, .ref a3), (4, .int s0)] [0, 1, 2, 3, 4] = _) (t_l_law_j420_23 hst hX X hl0 hkc hks hc hx E)
    rw [if_neg c6] at E
    by_cases c7 : (x2 &&& 63) = 3
    · rw [if_pos c7] at E
      refine r_tswI X 3 433 dL_law_39 c7 (by decide) (by decide) rfl (by decide) ?_
      exact r_pick (by rfl : lpick [(0, .ref b9), (1, .ref a1), (2, .ref a2), (3, .ref a3), (4, .int s0)] [0, 1, 2, 3, 4] = _) (t_l_law_j433_23 hst hX X hl0 hkc hks hc hx E)
    rw [if_neg c7] at E
    by_cases c8 : (x2 &&& 63) = 4
    · rw [if_pos c8] at E
      refine r_tswI X 4 446 dL_law_39 c8 (by decide) (by decide) rfl (by decide) ?_
      exact r_pick (by rfl : lpick [(0, .ref b9), (1, .ref a1), (2, .ref a2), (3, .ref a3), (4, .int s0)] [0, 1, 2, 3, 4] = _) (t_l_law_j446_23 hst hX X hl0 hkc hks hc hx E)
    rw [if_neg c8] at E
    by_cases c9 : (x2 &&& 63) = 5
    · rw [if_pos c9] at E
      refine r_tswI X 5 459 dL_law_39 c9 (by decide) (by decide) rfl (by decide) ?_
      exact r_pick (by rfl : lpick [(0, .ref b9), (1, .ref a1), (2, .ref a2), (3, .ref a3), (4, .int s0)] [0, 1, 2, 3, 4] = _) (t_l_law_j459_23 hst hX X hl0 hkc hks hc hx E)
    rw [if_neg c9] at E
    by_cases c10 : (x2 &&& 63) = 6
    · rw [if_pos c10] at E
      refine r_tswI X 6 472 dL_law_39 c10 (by decide) (by decide) rfl (by decide) ?_
      exact r_pick (by rfl : lpick [(0, .ref b9), (1, .ref a1), (2, .ref a2), (3, .ref a3), (4, .int s0)] [0, 1, 2, 3, 4] = _) (t_l_law_j472_23 hst hX X hl0 hkc hks hc hx E)
    rw [if_neg c10] at E
    by_cases c11 : (x2 &&& 63) = 7
    · rw [if_pos c11] at E
      refine r_tswI X 7 485 dL_law_39 c11 (by decide) (by decide) rfl (by decide) ?_
      exact r_pick (by rfl : lpick [(0, .ref b9), (1, .ref a1), (2, .ref a2), (3, .ref a3), (4, .int s0)] [0, 1, 2, 3, 4] = _) (t_l_law_j485_23 hst hX X hl0 hkc hks hc hx E)
    rw [if_neg c11] at E
    by_cases c12 : (x2 &&& 63) = 8
    · rw [if_pos c12] at E
      refine r_tswI X 8 498 dL_law_39 c12 (by decide) (by decide) rfl (by decide) ?_
      exact r_pick (by rfl : lpick [(0, .ref b9), (1, .ref a1), (2, .ref a2), (3, .ref a3), (4, .int s0)] [0, 1, 2, 3, 4] = _) (t_l_law_j498_23 hst hX X hl0 hkc hks hc hx E)
    rw [if_neg c12] at E
    by_cases c13 : (x2 &&& 63) = 9
    · rw [if_pos c13] at E
      refine r_tswI X 9 511 dL_law_39 c13 (by decide) (by decide) rfl (by decide) ?_
      exact r_pick (by rfl : lpick [(0, .ref b9), (1, .ref a1), (2, .ref a2), (3, .ref a3), (4, .int s0)] [0, 1, 2, 3, 4] = _) (t_l_law_j511_23 hst hX X hl0 hkc hks hc hx E)
    rw [if_neg c13] at E
    by_cases c14 : (x2 &&& 63) = 10
    · rw [if_pos c14] at E
      refine r_tswI X 10 524 dL_law_39 c14 (by decide) (by decide) rfl (by decide) ?_
      exact r_pick (by rfl : lpick [(0, .ref b9), (1, .ref a1), (2, .ref a2), (3, .ref a3), (4, .int s0)] [0, 1, 2, 3, 4] = _) (t_l_law_j524_23 hst hX X hl0 hkc hks hc hx E)
    rw [if_neg c14] at E
    by_cases c15 : (x2 &&& 63) = 11
    · rw [if_pos c15] at E
      refine r_tswI X 11 580 dL_law_39 c15 (by decide) (by decide) rfl (by decide) ?_
      exact r_pick (by rfl : lpick [(0, .ref b9), (1, .ref a1), (2, .ref a2), (3, .ref a3), (4, .int s0)] [0, 1, 2, 3, 4] = _) (t_l_law_j580_23 hst hX X hl0 hkc hks hc hx E)
    rw [if_neg c15] at E
    by_cases c16 : (x2 &&& 63) = 12
    · rw [if_pos c16] at E
      refine r_tswI X 12 636 dL_law_39 c16 (by decide) (by decide) rfl (by decide) ?_
      exact r_pick (by rfl : lpick [(0, .ref b9), (1, .ref a1), (2, .ref a2), (3, .ref a3), (4, .int s0)] [0, 1, 2, 3, 4] = _) (t_l_law_j636_23 hst hX X hl0 hkc hks hc hx E)
    rw [if_neg c16] at E
    by_cases c17 : (x2 &&& 63) = 13
    · rw [if_pos c17] at E
      refine r_tswI X 13 649 dL_law_39 c17 (by decide) (by decide) rfl (by decide) ?_
      exact r_pick (by rfl : lpick [(0, .ref b9), (1, .ref a1), (2, .ref a2), (3, .ref a3), (4, .int s0)] [0, 1, 2, 3, 4] = _) (t_l_law_j649_23 hst hX X hl0 hkc hks hc hx E)
    rw [if_neg c17] at E
    by_cases c18 : (x2 &&& 63) = 14
    · rw [if_pos c18] at E
      refine r_tswI X 14 662 dL_law_39 c18 (by decide) (by decide) rfl (by decide) ?_
      exact r_pick (by rfl : lpick [(0, .ref b9), (1, .ref a1), (2, .ref a2), (3, .ref a3), (4, .int s0)] [0, 1, 2, 3, 4] = _) (t_l_law_j662_23 hst hX X hl0 hkc hks hc hx E)
    rw [if_neg c18] at E
    by_cases c19 : (x2 &&& 63) = 15
    · rw [if_pos c19] at E
      refine r_tswI X 15 718 dL_law_39 c19 (by decide) (by decide) rfl (by decide) ?_
      exact r_pick (by rfl : lpick [(0, .ref b9), (1, .ref a1), (2, .ref a2), (3, .ref a3), (4, .int s0)] [0, 1, 2, 3, 4] = _) (t_l_law_j718_23 hst hX X hl0 hkc hks hc hx E)
    rw [if_neg c19] at E
    by_cases c20 : (x2 &&& 63) = 16
    · rw [if_pos c20] at E
      refine r_tswI X 16 774 dL_law_39 c20 (by decide) (by decide) rfl (by decide) ?_
      exact r_pick (by rfl : lpick [(0, .ref b9), (1, .ref a1), (2, .ref a2), (3, .ref a3), (4, .int s0)] [0, 1, 2, 3, 4] = _) (t_l_law_j774_23 hst hX X hl0 hkc hks hc hx E)
    rw [if_neg c20] at E
    by_cases c21 : (x2 &&& 63) = 17
    · rw [if_pos c21] at E
      refine r_tswI X 17 830 dL_law_39 c21 (by decide) (by decide) rfl (by decide) ?_
      exact r_pick (by rfl : lpick [(0, .ref b9), (1, .ref a1), (2, .ref a2), (3, .ref a3), (4, .int s0)] [0, 1, 2, 3, 4] = _) (t_l_law_j830_23 hst hX X hl0 hkc hks hc hx E)
    rw [if_neg c21] at E
    by_cases c22 : (x2 &&& 63) = 18
    · rw [if_pos c22] at E
      refine r_tswI X 18 843 dL_law_39 c22 (by decide) (by decide) rfl (by decide) ?_
      exact r_pick (by rfl : lpick [(0, .ref b9), (1, .ref a1), (2, .ref a2), (3, .ref a3), (4, .int s0)] [0, 1, 2, 3, 4] = _) (t_l_law_j843_23 hst hX X hl0 hkc hks hc hx E)
    rw [if_neg c22] at E
    by_cases c23 : (x2 &&& 63) = 19
    · rw [if_pos c23] at E
      refine r_tswI X 19 899 dL_law_39 c23 (by decide) (by decide) rfl (by decide) ?_
      exact r_pick (by rfl : lpick [(0, .ref b9), (1, .ref a1), (2, .ref a2), (3, .ref a3), (4, .int s0)] [0, 1, 2, 3, 4] = _) (t_l_law_j899_23 hst hX X hl0 hkc hks hc hx E)
    rw [if_neg c23] at E
    by_cases c24 : (x2 &&& 63) = 20
    · rw [if_pos c24] at E
      refine r_tswI X 20 912 dL_law_39 c24 (by decide) (by decide) rfl (by decide) ?_
      exact r_pick (by rfl : lpick [(0, .ref b9), (1, .ref a1), (2, .ref a2), (3, .ref a3), (4, .int s0)] [0, 1, 2, 3, 4] = _) (t_l_law_j912_23 hst hX X hl0 hkc hks hc hx E)
    rw [if_neg c24] at E
    by_cases c25 : (x2 &&& 63) = 21
    · rw [if_pos c25] at E
      refine r_tswI X 21 968 dL_law_39 c25 (by decide) (by decide) rfl (by decide) ?_
      exact r_pick (by rfl : lpick [(0, .ref b9), (1, .ref a1), (2, .ref a2), (3, .ref a3), (4, .int s0)] [0, 1, 2, 3, 4] = _) (t_l_law_j968_23 hst hX X hl0 hkc hks hc hx E)
    rw [if_neg c25] at E
    by_cases c26 : (x2 &&& 63) = 22
    · rw [if_pos c26] at E
      refine r_tswI X 22 1024 dL_law_39 c26 (by decide) (by decide) rfl (by decide) ?_
      exact r_pick (by rfl : lpick [(0, .ref b9), (1, .ref a1), (2, .ref a2), (3, .ref a3), (4, .int s0)] [0, 1, 2, 3, 4] = _) (t_l_law_j1024_23 hst hX X hl0 hkc hks hc hx E)
    rw [if_neg c26] at E
    by_cases c27 : (x2 &&& 63) = 23
    · rw [if_pos c27] at E
      refine r_tswI X 23 1080 dL_law_39 c27 (by decide) (by decide) rfl (by decide) ?_
      exact r_pick (by rfl : lpick [(0, .ref b9), (1, .ref a1), (2, .ref a2), (3, .ref a3), (4, .int s0)] [0, 1, 2, 3, 4] = _) (t_l_law_j1080_23 hst hX X hl0 hkc hks hc hx E)
    rw [if_neg c27] at E
    by_cases c28 : (x2 &&& 63) = 24
    · rw [if_pos c28] at E
      refine r_tswI X 24 1136 dL_law_39 c28 (by decide) (by decide) rfl (by decide) ?_
      exact r_pick (by rfl : lpick [(0, .ref b9), (1, .ref a1), (2, .ref a2), (3, .ref a3), (4, .int s0)] [0, 1, 2, 3, 4] = _) (t_l_law_j1136_23 hst hX X hl0 hkc hks hc hx E)
    rw [if_neg c28] at E
    by_cases c29 : (x2 &&& 63) = 25
    · rw [if_pos c29] at E
      refine r_tswI X 25 1204 dL_law_39 c29 (by decide) (by decide) rfl (by decide) ?_
      exact r_pick (by rfl : lpick [(0, .ref b9), (1, .ref a1), (2, .ref a2), (3, .ref a3), (4, .int s0)] [0, 1, 2, 3, 4] = _) (t_l_law_j1204_23 hst hX X hl0 hkc hks hc hx E)
    rw [if_neg c29] at E
    by_cases c30 : (x2 &&& 63) = 26
    · rw [if_pos c30] at E
      refine r_tswI X 26 1260 dL_law_39 c30 (by decide) (by decide) rfl (by decide) ?_
      exact r_pick (by rfl : lpick [(0, .ref b9), (1, .ref a1), (2, .ref a2), (3, .ref a3), (4, .int s0)] [0, 1, 2, 3, 4] = _) (t_l_law_j1260_23 hst hX X hl0 hkc hks hc hx E)
    rw [if_neg c30] at E
    by_cases c31 : (x2 &&& 63) = 27
    · rw [if_pos c31] at E
      refine r_tswI X 27 1316 dL_law_39 c31 (by decide) (by decide) rfl (by decide) ?_
      exact r_pick (by rfl : lpick [(0, .ref b9), (1, .ref a1), (2, .ref a2), (3, .ref a3), (4, .int s0)] [0, 1, 2, 3, 4] = _) (t_l_law_j1316_23 hst hX X hl0 hkc hks hc hx E)
    rw [if_neg c31] at E
    by_cases c32 : (x2 &&& 63) = 28
    · rw [if_pos c32] at E
      refine r_tswI X 28 1372 dL_law_39 c32 (by decide) (by decide) rfl (by decide) ?_
      exact r_pick (by rfl : lpick [(0, .ref b9), (1, .ref a1), (2, .ref a2), (3, .ref a3), (4, .int s0)] [0, 1, 2, 3, 4] = _) (t_l_law_j1372_23 hst hX X hl0 hkc hks hc hx E)
    rw [if_neg c32] at E
    by_cases c33 : (x2 &&& 63) = 29
    · rw [if_pos c33] at E
      refine r_tswI X 29 1385 dL_law_39 c33 (by decide) (by decide) rfl (by decide) ?_
      exact r_pick (by rfl : lpick [(0, .ref b9), (1, .ref a1), (2, .ref a2), (3, .ref a3), (4, .int s0)] [0, 1, 2, 3, 4] = _) (t_l_law_j1385_23 hst hX X hl0 hkc hks hc hx E)
    rw [if_neg c33] at E
    by_cases c34 : (x2 &&& 63) = 30
    · rw [if_pos c34] at E
      refine r_tswI X 30 1398 dL_law_39 c34 (by decide) (by decide) rfl (by decide) ?_
      exact r_pick (by rfl : lpick [(0, .ref b9), (1, .ref a1), (2, .ref a2), (3, .ref a3), (4, .int s0)] [0, 1, 2, 3, 4] = _) (t_l_law_j1398_23 hst hX X hl0 hkc hks hc hx E)
    rw [if_neg c34] at E
    by_cases c35 : (x2 &&& 63) = 31
    · rw [if_pos c35] at E
      refine r_tswI X 31 1411 dL_law_39 c35 (by decide) (by decide) rfl (by decide) ?_
      exact r_pick (by rfl : lpick [(0, .ref b9), (1, .ref a1), (2, .ref a2), (3, .ref a3), (4, .int s0)] [0, 1, 2, 3, 4] = _) (t_l_law_j1411_23 hst hX X hl0 hkc hks hc hx E)
    rw [if_neg c35] at E
    by_cases c36 : (x2 &&& 63) = 32
    · rw [if_pos c36] at E
      refine r_tswI X 32 1424 dL_law_39 c36 (by decide) (by decide) rfl (by decide) ?_
      exact r_pick (by rfl : lpick [(0, .ref b9), (1, .ref a1), (2, .ref a2), (3, .ref a3), (4, .int s0)] [0, 1, 2, 3, 4] = _) (t_l_law_j1424_23 hst hX X hl0 hkc hks hc hx E)
    rw [if_neg c36] at E
    by_cases c37 : (x2 &&& 63) = 33
    · rw [if_pos c37] at E
      refine r_tswI X 33 1437 dL_law_39 c37 (by decide) (by decide) rfl (by decide) ?_
      exact r_pick (by rfl : lpick [(0, .ref b9), (1, .ref a1), (2, .ref a2), (3, .ref a3), (4, .int s0)] [0, 1, 2, 3, 4] = _) (t_l_law_j1437_23 hst hX X hl0 hkc hks hc hx E)
    rw [if_neg c37] at E
    by_cases c38 : (x2 &&& 63) = 34
    · rw [if_pos c38] at E
      refine r_tswI X 34 1450 dL_law_39 c38 (by decide) (by decide) rfl (by decide) ?_
      exact r_pick (by rfl : lpick [(0, .ref b9), (1, .ref a1), (2, .ref a2), (3, .ref a3), (4, .int s0)] [0, 1, 2, 3, 4] = _) (t_l_law_j1450_23 hst hX X hl0 hkc hks hc hx E)
    rw [if_neg c38] at E
    by_cases c39 : (x2 &&& 63) = 35
    · rw [if_pos c39] at E
      refine r_tswI X 35 1506 dL_law_39 c39 (by decide) (by decide) rfl (by decide) ?_
      exact r_pick (by rfl : lpick [(0, .ref b9), (1, .ref a1), (2, .ref a2), (3, .ref a3), (4, .int s0)] [0, 1, 2, 3, 4] = _) (t_l_law_j1506_23 hst hX X hl0 hkc hks hc hx E)
    rw [if_neg c39] at E
    by_cases c40 : (x2 &&& 63) = 36
    · rw [if_pos c40] at E
      refine r_tswI X 36 1519 dL_law_39 c40 (by decide) (by decide) rfl (by decide) ?_
      exact r_pick (by rfl : lpick [(0, .ref b9), (1, .ref a1), (2, .ref a2), (3, .ref a3), (4, .int s0)] [0, 1, 2, 3, 4] = _) (t_l_law_j1519_23 hst hX X hl0 hkc hks hc hx E)
    rw [if_neg c40] at E
    by_cases c41 : (x2 &&& 63) = 37
    · rw [if_pos c41] at E
      refine r_tswI X 37 1532 dL_law_39 c41 (by decide) (by decide) rfl (by decide) ?_
      exact r_pick (by rfl : lpick [(0, .ref b9), (1, .ref a1), (2, .ref a2), (3, .ref a3), (4, .int s0)] [0, 1, 2, 3, 4] = _) (t_l_law_j1532_23 hst hX X hl0 hkc hks hc hx E)
    rw [if_neg c41] at E
    by_cases c42 : (x2 &&& 63) = 38
    · rw [if_pos c42] at E
      refine r_tswI X 38 1545 dL_law_39 c42 (by decide) (by decide) rfl (by decide) ?_
      exact r_pick (by rfl : lpick [(0, .ref b9), (1, .ref a1), (2, .ref a2), (3, .ref a3), (4, .int s0)] [0, 1, 2, 3, 4] = _) (t_l_law_j1545_23 hst hX X hl0 hkc hks hc hx E)
    rw [if_neg c42] at E
    by_cases c43 : (x2 &&& 63) = 39
    · rw [if_pos c43] at E
      refine r_tswI X 39 1558 dL_law_39 c43 (by decide) (by decide) rfl (by decide) ?_
      exact r_pick (by rfl : lpick [(0, .ref b9), (1, .ref a1), (2, .ref a2), (3, .ref a3), (4, .int s0)] [0, 1, 2, 3, 4] = _) (t_l_law_j1558_23 hst hX X hl0 hkc hks hc hx E)
    rw [if_neg c43] at E
    by_cases c44 : (x2 &&& 63) = 40
    · rw [if_pos c44] at E
      refine r_tswI X 40 1599 dL_law_39 c44 (by decide) (by decide) rfl (by decide) ?_
      exact r_pick (by rfl : lpick [(0, .ref b9), (1, .ref a1), (2, .ref a2), (3, .ref a3), (4, .int s0)] [0, 1, 2, 3, 4] = _) (t_l_law_j1599_23 hst hX X hl0 hkc hks hc hx E)
    rw [if_neg c44] at E
    by_cases c45 : (x2 &&& 63) = 41
    · rw [if_pos c45] at E
      refine r_tswI X 41 1642 dL_law_39 c45 (by decide) (by decide) rfl (by decide) ?_
      exact r_pick (by rfl : lpick [(0, .ref b9), (1, .ref a1), (2, .ref a2), (3, .ref a3), (4, .int s0)] [0, 1, 2, 3, 4] = _) (t_l_law_j1642_23 hst hX X hl0 hkc hks hc hx E)
    rw [if_neg c45] at E
    by_cases c46 : (x2 &&& 63) = 42
    · rw [if_pos c46] at E
      refine r_tswI X 42 1698 dL_law_39 c46 (by decide) (by decide) rfl (by decide) ?_
      exact r_pick (by rfl : lpick [(0, .ref b9), (1, .ref a1), (2, .ref a2), (3, .ref a3), (4, .int s0)] [0, 1, 2, 3, 4] = _) (t_l_law_j1698_23 hst hX X hl0 hkc hks hc hx E)
    rw [if_neg c46] at E
    by_cases c47 : (x2 &&& 63) = 43
    · rw [if_pos c47] at E
      refine r_tswI X 43 1754 dL_law_39 c47 (by decide) (by decide) rfl (by decide) ?_
      exact r_pick (by rfl : lpick [(0, .ref b9), (1, .ref a1), (2, .ref a2), (3, .ref a3), (4, .int s0)] [0, 1, 2, 3, 4] = _) (t_l_law_j1754_23 hst hX X hl0 hkc hks hc hx E)
    rw [if_neg c47] at E
    by_cases c48 : (x2 &&& 63) = 44
    · rw [if_pos c48] at E
      refine r_tswI X 44 1810 dL_law_39 c48 (by decide) (by decide) rfl (by decide) ?_
      exact r_pick (by rfl : lpick [(0, .ref b9), (1, .ref a1), (2, .ref a2), (3, .ref a3), (4, .int s0)] [0, 1, 2, 3, 4] = _) (t_l_law_j1810_23 hst hX X hl0 hkc hks hc hx E)
    rw [if_neg c48] at E
    by_cases c49 : (x2 &&& 63) = 45
    · rw [if_pos c49] at E
      refine r_tswI X 45 1878 dL_law_39 c49 (by decide) (by decide) rfl (by decide) ?_
      exact r_pick (by rfl : lpick [(0, .ref b9), (1, .ref a1), (2, .ref a2), (3, .ref a3), (4, .int s0)] [0, 1, 2, 3, 4] = _) (t_l_law_j1878_23 hst hX X hl0 hkc hks hc hx E)
    rw [if_neg c49] at E
    by_cases c50 : (x2 &&& 63) = 46
    · rw [if_pos c50] at E
      refine r_tswI X 46 1934 dL_law_39 c50 (by decide) (by decide) rfl (by decide) ?_
      exact r_pick (by rfl : lpick [(0, .ref b9), (1, .ref a1), (2, .ref a2), (3, .ref a3), (4, .int s0)] [0, 1, 2, 3, 4] = _) (t_l_law_j1934_23 hst hX X hl0 hkc hks hc hx E)
    rw [if_neg c50] at E
    by_cases c51 : (x2 &&& 63) = 47
    · rw [if_pos c51] at E
      refine r_tswI X 47 1947 dL_law_39 c51 (by decide) (by decide) rfl (by decide) ?_
      exact r_pick (by rfl : lpick [(0, .ref b9), (1, .ref a1), (2, .ref a2), (3, .ref a3), (4, .int s0)] [0, 1, 2, 3, 4] = _) (t_l_law_j1947_23 hst hX X hl0 hkc hks hc hx E)
    rw [if_neg c51] at E
    by_cases c52 : (x2 &&& 63) = 48
    · rw [if_pos c52] at E
      refine r_tswI X 48 1960 dL_law_39 c52 (by decide) (by decide) rfl (by decide) ?_
      exact r_pick (by rfl : lpick [(0, .ref b9), (1, .ref a1), (2, .ref a2), (3, .ref a3), (4, .int s0)] [0, 1, 2, 3, 4] = _) (t_l_law_j1960_23 hst hX X hl0 hkc hks hc hx E)
    rw [if_neg c52] at E
    by_cases c53 : (x2 &&& 63) = 49
    · rw [if_pos c53] at E
      refine r_tswI X 49 1973 dL_law_39 c53 (by decide) (by decide) rfl (by decide) ?_
      exact r_pick (by rfl : lpick [(0, .ref b9), (1, .ref a1), (2, .ref a2), (3, .ref a3), (4, .int s0)] [0, 1, 2, 3, 4] = _) (t_l_law_j1973_23 hst hX X hl0 hkc hks hc hx E)
    rw [if_neg c53] at E
    by_cases c54 : (x2 &&& 63) = 50
    · rw [if_pos c54] at E
      refine r_tswI X 50 2041 dL_law_39 c54 (by decide) (by decide) rfl (by decide) ?_
      exact r_pick (by rfl : lpick [(0, .ref b9), (1, .ref a1), (2, .ref a2), (3, .ref a3), (4, .int s0)] [0, 1, 2, 3, 4] = _) (t_l_law_j2041_23 hst hX X hl0 hkc hks hc hx E)
    rw [if_neg c54] at E
    by_cases c55 : (x2 &&& 63) = 51
    · rw [if_pos c55] at E
      refine r_tswI X 51 2097 dL_law_39 c55 (by decide) (by decide) rfl (by decide) ?_
      exact r_pick (by rfl : lpick [(0, .ref b9), (1, .ref a1), (2, .ref a2), (3, .ref a3), (4, .int s0)] [0, 1, 2, 3, 4] = _) (t_l_law_j2097_23 hst hX X hl0 hkc hks hc hx E)
    rw [if_neg c55] at E
    by_cases c56 : (x2 &&& 63) = 52
    · rw [if_pos c56] at E
      refine r_tswI X 52 2165 dL_law_39 c56 (by decide) (by decide) rfl (by decide) ?_
      exact r_pick (by rfl : lpick [(0, .ref b9), (1, .ref a1), (2, .ref a2), (3, .ref a3), (4, .int s0)] [0, 1, 2, 3, 4] = _) (t_l_law_j2165_23 hst hX X hl0 hkc hks hc hx E)
    rw [if_neg c56] at E
    by_cases c57 : (x2 &&& 63) = 53
    · rw [if_pos c57] at E
      refine r_tswI X 53 2233 dL_law_39 c57 (by decide) (by decide) rfl (by decide) ?_
      exact r_pick (by rfl : lpick [(0, .ref b9), (1, .ref a1), (2, .ref a2), (3, .ref a3), (4, .int s0)] [0, 1, 2, 3, 4] = _) (t_l_law_j2233_23 hst hX X hl0 hkc hks hc hx E)
    rw [if_neg c57] at E
    by_cases c58 : (x2 &&& 63) = 54
    · rw [if_pos c58] at E
      refine r_tswI X 54 2289 dL_law_39 c58 (by decide) (by decide) rfl (by decide) ?_
      exact r_pick (by rfl : lpick [(0, .ref b9), (1, .ref a1), (2, .ref a2), (3, .ref a3), (4, .int s0)] [0, 1, 2, 3, 4] = _) (t_l_law_j2289_23 hst hX X hl0 hkc hks hc hx E)
    rw [if_neg c58] at E
    by_cases c59 : (x2 &&& 63) = 55
    · rw [if_pos c59] at E
      refine r_tswI X 55 2345 dL_law_39 c59 (by decide) (by decide) rfl (by decide) ?_
      exact r_pick (by rfl : lpick [(0, .ref b9), (1, .ref a1), (2, .ref a2), (3, .ref a3), (4, .int s0)] [0, 1, 2, 3, 4] = _) (t_l_law_j2345_23 hst hX X hl0 hkc hks hc hx E)
    rw [if_neg c59] at E
    by_cases c60 : (x2 &&& 63) = 56
    · rw [if_pos c60] at E
      refine r_tswI X 56 2401 dL_law_39 c60 (by decide) (by decide) rfl (by decide) ?_
      exact r_pick (by rfl : lpick [(0, .ref b9), (1, .ref a1), (2, .ref a2), (3, .ref a3), (4, .int s0)] [0, 1, 2, 3, 4] = _) (t_l_law_j2401_23 hst hX X hl0 hkc hks hc hx E)
    rw [if_neg c60] at E
    by_cases c61 : (x2 &&& 63) = 57
    · rw [if_pos c61] at E
      refine r_tswI X 57 2469 dL_law_39 c61 (by decide) (by decide) rfl (by decide) ?_
      exact r_pick (by rfl : lpick [(0, .ref b9), (1, .ref a1), (2, .ref a2), (3, .ref a3), (4, .int s0)] [0, 1, 2, 3, 4] = _) (t_l_law_j2469_23 hst hX X hl0 hkc hks hc hx E)
    rw [if_neg c61] at E
    by_cases c62 : (x2 &&& 63) = 58
    · rw [if_pos c62] at E
      refine r_tswI X 58 2525 dL_law_39 c62 (by decide) (by decide) rfl (by decide) ?_
      exact r_pick (by rfl : lpick [(0, .ref b9), (1, .ref a1), (2, .ref a2), (3, .ref a3), (4, .int s0)] [0, 1, 2, 3, 4] = _) (t_l_law_j2525_23 hst hX X hl0 hkc hks hc hx E)
    rw [if_neg c62] at E
    by_cases c63 : (x2 &&& 63) = 59
    · rw [if_pos c63] at E
      refine r_tswI X 59 2538 dL_law_39 c63 (by decide) (by decide) rfl (by decide) ?_
      exact r_pick (by rfl : lpick [(0, .ref b9), (1, .ref a1), (2, .ref a2), (3, .ref a3), (4, .int s0)] [0, 1, 2, 3, 4] = _) (t_l_law_j2538_23 hst hX X hl0 hkc hks hc hx E)
    rw [if_neg c63] at E
    by_cases c64 : (x2 &&& 63) = 60
    · rw [if_pos c64] at E
      refine r_tswI X 60 2551 dL_law_39 c64 (by decide) (by decide) rfl (by decide) ?_
      exact r_pick (by rfl : lpick [(0, .ref b9), (1, .ref a1), (2, .ref a2), (3, .ref a3), (4, .int s0)] [0, 1, 2, 3, 4] = _) (t_l_law_j2551_23 hst hX X hl0 hkc hks hc hx E)
    rw [if_neg c64] at E
    by_cases c65 : (x2 &&& 63) = 61
    · rw [if_pos c65] at E
      refine r_tswI X 61 2576 dL_law_39 c65 (by decide) (by decide) rfl (by decide) ?_
      exact r_pick (by rfl : lpick [(0, .ref b9), (1, .ref a1), (2, .ref a2), (3, .ref a3), (4, .int s0)] [0, 1, 2, 3, 4] = _) (t_l_law_j2576_23 hst hX X hl0 hkc hks hc hx E)
    rw [if_neg c65] at E
    by_cases c66 : (x2 &&& 63) = 62
    · rw [if_pos c66] at E
      refine r_tswI X 62 2620 dL_law_39 c66 (by decide) (by decide) rfl (by decide) ?_
      exact r_pick (by rfl : lpick [(0, .ref b9), (1, .ref a1), (2, .ref a2), (3, .ref a3), (4, .int s0)] [0, 1, 2, 3, 4] = _) (t_l_law_j2620_23 hst hX X hl0 hkc hks hc hx E)
    rw [if_neg c66] at E
    by_cases c67 : (x2 &&& 63) = 63
    · rw [if_pos c67] at E
      refine r_tswI X 63 2656 dL_law_39 c67 (by decide) (by decide) rfl (by decide) ?_
      exact r_pick (by rfl : lpick [(0, .ref b9), (1, .ref a1), (2, .ref a2), (3, .ref a3), (4, .int s0)] [0, 1, 2, 3, 4] = _) (t_l_law_j2656_23 hst hX X hl0 hkc hks hc hx E)
    rw [if_neg c67] at E
    refine r_tswD X 2692 dL_law_39 (tsw_out (fun k h1 h2 => by
      rcases (by omega : k = 0 ∨ k = 1 ∨ k = 2 ∨ k = 3 ∨ k = 4 ∨ k = 5 ∨ k = 6 ∨ k = 7 ∨ k = 8 ∨ k = 9 ∨ k = 10 ∨ k = 11 ∨ k = 12 ∨ k = 13 ∨ k = 14 ∨ k = 15 ∨ k = 16 ∨ k = 17 ∨ k = 18 ∨ k = 19 ∨ k = 20 ∨ k = 21 ∨ k = 22 ∨ k = 23 ∨ k = 24 ∨ k = 25 ∨ k = 26 ∨ k = 27 ∨ k = 28 ∨ k = 29 ∨ k = 30 ∨ k = 31 ∨ k = 32 ∨ k = 33 ∨ k = 34 ∨ k = 35 ∨ k = 36 ∨ k = 37 ∨ k = 38 ∨ k = 39 ∨ k = 40 ∨ k = 41 ∨ k = 42 ∨ k = 43 ∨ k = 44 ∨ k = 45 ∨ k = 46 ∨ k = 47 ∨ k = 48 ∨ k = 49 ∨ k = 50 ∨ k = 51 ∨ k = 52 ∨ k = 53 ∨ k = 54 ∨ k = 55 ∨ k = 56 ∨ k = 57 ∨ k = 58 ∨ k = 59 ∨ k = 60 ∨ k = 61 ∨ k = 62 ∨ k = 63) with rfl | rfl | rfl | rfl | rfl | rfl | rfl | rfl | rfl | rfl | rfl | rfl | rfl | rfl | rfl | rfl | rfl | rfl | rfl | rfl | rfl | rfl | rfl | rfl | rfl | rfl | rfl | rfl | rfl | rfl | rfl | rfl | rfl | rfl | rfl | rfl | rfl | rfl | rfl | rfl | rfl | rfl | rfl | rfl | rfl | rfl | rfl | rfl | rfl | rfl | rfl | rfl | rfl | rfl | rfl | rfl | rfl | rfl | rfl | rfl | rfl | rfl | rfl | rfl
      · exact c4
      · exact c5
      · exact c6
      · exact c7
      · exact c8
      · exact c9
      · exact c10
      · exact c11
      · exact c12
      · exact c13
      · exact c14
      · exact c15
      · exact c16
      · exact c17
      · exact c18
      · exact c19
      · exact c20
      · exact c21
      · exact c22
      · exact c23
      · exact c24
      · exact c25
      · exact c26
      · exact c27
      · exact c28
      · exact c29
      · exact c30
      · exact c31
      · exact c32
      · exact c33
      · exact c34
      · exact c35
      · exact c36
      · exact c37
      · exact c38
      · exact c39
      · exact c40
      · exact c41
      · exact c42
      · exact c43
      · exact c44
      · exact c45
      · exact c46
      · exact c47
      · exact c48
      · exact c49
      · exact c50
      · exact c51
      · exact c52
      · exact c53
      · exact c54
      · exact c55
      · exact c56
      · exact c57
      · exact c58
      · exact c59
      · exact c60
      · exact c61
      · exact c62
      · exact c63
      · exact c64
      · exact c65
      · exact c66
      · exact c67
      )) (by decide) ?_
    refine r_iinc X (v := (s0 + 3)) (L1 := [(4, .int (s0 + 3)), (0, .ref b9), (1, .ref a1), (2, .ref a2), (3, .ref a3)]) dL_law_2692 rfl rfl (by decide) rfl ?_
    refine r_goto X 23 dL_law_2695 (by decide) ?_
    cases E
    exact r_widen X ⟨by first | exact Nat.le_add_right _ _ | exact Nat.add_le_add_left (by decide) _, Nat.le_trans hkc.1 hkc.2⟩ ⟨by first | exact Nat.le_add_right _ _ | exact Nat.add_le_add_left (by decide) _, Nat.le_trans hks.1 hks.2⟩ <| r_pick (by rfl : lpick [(4, .int (s0 + 3)), (0, .ref b9), (1, .ref a1), (2, .ref a2), (3, .ref a3)] [1, 2, 3, 4, 0] = _) (hc _ rfl)
set_option maxHeartbeats 4000000 in
theorem t_l_law_l23_r {l : Launch} (hst : l.stackTraces = false) {G : GG} {M : MC} {b9 Ln : Nat} {xs : Nat → Int32} (hX : HX M G b9 Ln xs) (X : CX M G cL_law 9 RL room_1) (hl0 : M.2.1 = l) {Q : State → Prop} {Kc Ks : Nat} (hKc : Kc ≤ 601024) (hKs : Ks ≤ 7293034)  {a1 : Nat} {a2 : Nat} {a3 : Nat} : ∀ (n : Nat) (s0 : Int32) (g : AH) (t : ((Unit) ⊕ Int32)) (g1 : AH), loopX (l_law_l23 Ln xs a1 a2 a3) n s0 g = some (t, g1) → Sum.elim (fun t1 => WW M G 9 Q Kc Ks g1 2698 [] []) (fun t2 : Int32 => t2 = 1) t → ∀ kc ks : Nat, kc + n * 3 ≤ Kc → ks + n * 18 ≤ Ks → WW M G 9 Q kc ks g 23 [(0, .ref b9), (1, .ref a1), (2, .ref a2), (3, .ref a3), (4, .int s0)] [] :=
  loop_cps (K := fun t g1 => Sum.elim (fun t1 => WW M G 9 Q Kc Ks g1 2698 [] []) (fun t2 : Int32 => t2 = 1) t) (fun n s0 g => ∀ kc ks : Nat, kc + n * 3 ≤ Kc → ks + n * 18 ≤ Ks → WW M G 9 Q kc ks g 23 [(0, .ref b9), (1, .ref a1), (2, .ref a2), (3, .ref a3), (4, .int s0)] []) (fun n s0 g st g1 E hc hx kc ks h1 h2 => by
    have e1 : (n + 1) * 3 = n * 3 + 3 := by omega
    have e2 : (n + 1) * 18 = n * 18 + 18 := by omega
    exact t_l_law_l23 hst hX X hl0 ⟨by omega, hKc⟩ ⟨by omega, hKs⟩ (fun s1 e => hc s1 e _ _ (by omega) (by omega)) hx E)
set_option maxHeartbeats 4000000 in
set_option maxRecDepth 100000 in
theorem t_l_law {l : Launch} (hst : l.stackTraces = false) {G : GG} {M : MC} {b9 Ln : Nat} {xs : Nat → Int32} (hX : HX M G b9 Ln xs) (X : CX M G cL_law 9 RL room_1) (hl0 : M.2.1 = l) {Q : State → Prop} (hQ : ∀ (g1 : AH) (c d pc : Nat) (L : List (Nat × Value)), c ≤ 601024 → d ≤ 7293034 → decode cL_law pc = .ok (.ireturn, 1) → WW M G 9 Q c d g1 pc L [.int 1])  {g g1 : AH} (E : l_law Ln xs g = some (1, g1)) : WW M G 9 Q 0 0 g 0 [(0, .ref b9)] [] := by
  unfold l_law at E
  obtain ⟨x1, g2, e3, E⟩ := cb_some E
  refine r_new X (ci := 8) dL_law_0 rfl tyX8_ok flc8 k_L_8 n_X8 (by decide) e3 ?_
  refine r_dup X dL_law_3 rfl ?_
  obtain ⟨r4, g5, e6, E⟩ := cb_some E
  refine r_callI X hl0 dL_law_4 y_X8_init m_L_123 (t_x8_init (l := l) (G := G) e6) rfl rfl (Nat.le_of_ble_eq_true rfl) (by decide) ?_
  refine r_astore_n X 1 (L1 := [(1, .ref x1), (0, .ref b9)]) dL_law_7 rfl (by decide) rfl ?_
  obtain ⟨x7, g8, e9, E⟩ := cb_some E
  refine r_new X (ci := 9) dL_law_8 rfl tyX9_ok flc9 k_L_124 n_X9 (by decide) e9 ?_
  refine r_dup X dL_law_11 rfl ?_
  obtain ⟨r10, g11, e12, E⟩ := cb_some E
  refine r_callI X hl0 dL_law_12 y_X9_init m_L_126 (t_x9_init (l := l) (G := G) e12) rfl rfl (Nat.le_of_ble_eq_true rfl) (by decide) ?_
  refine r_astore_n X 2 (L1 := [(2, .ref x7), (1, .ref x1), (0, .ref b9)]) dL_law_15 rfl (by decide) rfl ?_
  refine r_iconst X (v := 1) dL_law_16 (by decide) ?_
  obtain ⟨x13, g14, e15, E⟩ := cb_some E
  refine r_newarr X 3 1 dL_law_17 (by decide) rfl a_long (fun _ _ => rfl) (by decide) (by decide) (by decide) e15 ?_
  refine r_astore_n X 3 (L1 := [(3, .ref x13), (2, .ref x7), (1, .ref x1), (0, .ref b9)]) dL_law_19 rfl (by decide) rfl ?_
  refine r_iconst X (v := 0) dL_law_20 (by decide) ?_
  refine r_istore X (L1 := [(4, .int 0), (3, .ref x13), (2, .ref x7), (1, .ref x1), (0, .ref b9)]) dL_law_21 (by decide) rfl ?_
  obtain ⟨t16, g17, e18, E⟩ := cb_some E
  rcases t16 with t19 | t20
  · rw [Sum.elim_inl] at E
    refine r_pick (by rfl : lpick [(4, .int 0), (3, .ref x13), (2, .ref x7), (1, .ref x1), (0, .ref b9)] [4, 3, 2, 1, 0] = _) (t_l_law_l23_r (Kc := 2320) (Ks := 18341) hst hX X hl0 (by decide) (by decide) _ _ _ _ _ e18 ?_ _ _ (by decide) (by decide))
    refine r_iconst X (v := 1) dL_law_2698 (by decide) ?_
    exact hQ _ _ _ _ _ (by decide) (by decide) dL_law_2699
  · rw [Sum.elim_inr] at E
    cases E
    exact r_pick (by rfl : lpick [(4, .int 0), (3, .ref x13), (2, .ref x7), (1, .ref x1), (0, .ref b9)] [4, 3, 2, 1, 0] = _) (t_l_law_l23_r (Kc := 2320) (Ks := 18341) hst hX X hl0 (by decide) (by decide) _ _ _ _ _ e18 rfl _ _ (by decide) (by decide))
