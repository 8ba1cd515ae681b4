/-! the pure programs, a method each, printed by wip/whole/gen/gen.py -/
def fJ7_fill_53178_5_b (k5 : Int32 → Int32 → Int32 → St → Rs) (v1 v2 v3 : Int32) (S : St) : Rs :=
  if v3 ≤ v2 then (
  some (0, S))
  else (
  gA (inb v2 8) (
  LtS (sA S 13 (ix v2) v1) fun S1 =>
  k5 v1 (v2 + 1) v3 S1))
def fJ7_fill_53178_5 : Nat → Int32 → Int32 → Int32 → St → Rs
  | 0 => fun _ _ _ _ => none
  | n + 1 => fJ7_fill_53178_5_b (fJ7_fill_53178_5 n)
def fJ7_fill_53178 (v1 : Int32) (S : St) : Rs :=
  fJ7_fill_53178_5 FU v1 (0 : Int32) (8 : Int32) S
def fX6_isPoint_15 (t0 : Int32) (S : St) : Rs :=
  gA (b01 t0) (some (t0, S))
def fX6_isPoint_14 (S : St) : Rs :=
  fX6_isPoint_15 (0 : Int32) S
def fX6_isPoint (v0 : Int32) (S : St) : Rs :=
  if v0 < 0 then (
  fX6_isPoint_14 S)
  else (
  if (40 : Int32) ≤ v0 then (
  fX6_isPoint_14 S)
  else (
  fX6_isPoint_15 (1 : Int32) S))
def fX4_addLine (v1 v2 : Int32) (S : St) : Rs :=
  Lt (S.1 3) fun x1 =>
  gA (inb x1 300) (
  LtS (sA S 1 (ix x1) v1) fun S2 =>
  gA (inb x1 300) (
  LtS (sA S2 2 (ix x1) v2) fun S3 =>
  gA (inb x1 300) (
  LtS (sA S3 3 (ix x1) (-1 : Int32)) fun S4 =>
  LtS (sF S4 3 ((S4.1 3) + (1 : Int32))) fun S5 =>
  some (x1, S5))))
def fX1_roomFor (v1 : Int32) (S : St) : Rs :=
  Lt ((100 : Int32) * (S.1 2)) fun x1 =>
  if 0 < x1 then (
  gA (nz x1) (
  some ((((v1 * ((100 : Int32) + (S.1 7))) + x1) - (1 : Int32)) / x1, S)))
  else (
  some ((0 : Int32), S))
def fX4_greatestLoad_4_b (k4 : Int32 → Int32 → St → Rs) (v1 v2 : Int32) (S : St) : Rs :=
  if (S.1 2) ≤ v2 then (
  some (v1, S))
  else (
  gA (inb v2 8) (
  Lt (if v1 < (S.2 4 (ix v2)) then (S.2 4 (ix v2)) else v1) fun x1 =>
  k4 x1 (v2 + 1) S))
def fX4_greatestLoad_4 : Nat → Int32 → Int32 → St → Rs
  | 0 => fun _ _ _ => none
  | n + 1 => fX4_greatestLoad_4_b (fX4_greatestLoad_4 n)
def fX4_greatestLoad (S : St) : Rs :=
  fX4_greatestLoad_4 FU (0 : Int32) (0 : Int32) S
def fX4_hasCopy_19 (t0 : Int32) (S : St) : Rs :=
  gA (b01 t0) (some (t0, S))
def fX4_hasCopy (v1 v2 : Int32) (S : St) : Rs :=
  gA (inb v1 40) (
  if (((S.2 6 (ix v1)) >>> (v2 &&& 31)) &&& (1 : Int32)) = (1 : Int32) then (
  fX4_hasCopy_19 (1 : Int32) S)
  else (
  fX4_hasCopy_19 (0 : Int32) S))
def fX1_scoreOfCopies_82 (v7 : Int32) (S : St) : Rs :=
  some (v7, S)
def fX1_scoreOfCopies_60 (v1 v3 v5 v6 v7 : Int32) (S : St) : Rs :=
  Bd (fX4_hasCopy v3 v1 S) fun r1 S2 =>
  if r1 = 0 then (
  fX1_scoreOfCopies_82 v7 S2)
  else (
  Lt (v7 + (v6 - v5)) fun x3 =>
  fX1_scoreOfCopies_82 x3 S2)
def fX1_scoreOfCopies (v1 v2 v3 : Int32) (S : St) : Rs :=
  gA (inb v2 40) (
  Lt ((S.2 5 (ix v2)) + (1 : Int32)) fun x1 =>
  gA (inb v3 40) (
  Lt ((S.2 5 (ix v3)) + (1 : Int32)) fun x2 =>
  Lt ((2 : Int32) * (x1 + x2)) fun x3 =>
  Bd (fX4_hasCopy v2 v1 S) fun r4 S5 =>
  if r4 = 0 then (
  fX1_scoreOfCopies_60 v1 v3 x2 x3 (0 : Int32) S5)
  else (
  Lt ((0 : Int32) + (x3 - x1)) fun x6 =>
  fX1_scoreOfCopies_60 v1 v3 x2 x3 x6 S5)))
def fX1_scoreOf_65 (t0 : Int32) (S : St) : Rs :=
  some (t0, S)
def fX1_scoreOf_64 (S : St) : Rs :=
  fX1_scoreOf_65 (0 : Int32) S
def fX1_scoreOf (v1 v2 v3 v4 : Int32) (S : St) : Rs :=
  if (S.1 6) = 0 then (
  some (v4, S))
  else (if (S.1 6) = 1 then (
  if (S.1 2) ≤ 0 then (
  fX1_scoreOf_64 S)
  else (
  gA (nz (S.1 2)) (
  if ((v2 + v3) - (v2 + v3) / (S.1 2) * (S.1 2)) = v1 then (
  fX1_scoreOf_65 (1 : Int32) S)
  else (
  fX1_scoreOf_64 S))))
  else (
  Bd (fX1_scoreOfCopies v1 v2 v3 S) fun r1 S2 =>
  some (((10 : Int32) * r1) + ((S2.1 8) * v4), S2)))
def fX1_chooseHost_105 (k32 : Int32 → Int32 → Int32 → Int32 → Int32 → Int32 → Int32 → St → Rs) (v1 v2 v3 v4 v5 v6 v7 : Int32) (S : St) : Rs :=
  k32 v1 v2 v3 v4 v5 v6 (v7 + 1) S
def fX1_chooseHost_97 (k32 : Int32 → Int32 → Int32 → Int32 → Int32 → Int32 → Int32 → St → Rs) (v1 v2 v3 v4 v7 v8 : Int32) (S : St) : Rs :=
  fX1_chooseHost_105 k32 v1 v2 v3 v4 v7 v8 v7 S
def fX1_chooseHost_32_b (k32 : Int32 → Int32 → Int32 → Int32 → Int32 → Int32 → Int32 → St → Rs) (v1 v2 v3 v4 v5 v6 v7 : Int32) (S : St) : Rs :=
  if (S.1 2) ≤ v7 then (
  some (v5, S))
  else (
  gA (inb v7 8) (
  if (S.2 4 (ix v7)) < v3 then (
  gA (inb v7 8) (
  Bd (fX1_scoreOf v7 v1 v2 (v4 - (S.2 4 (ix v7))) S) fun r1 S2 =>
  if v5 = (-1 : Int32) then (
  fX1_chooseHost_97 k32 v1 v2 v3 v4 v7 r1 S2)
  else (
  if r1 ≤ v6 then (
  fX1_chooseHost_105 k32 v1 v2 v3 v4 v5 v6 v7 S2)
  else (
  fX1_chooseHost_97 k32 v1 v2 v3 v4 v7 r1 S2))))
  else (
  fX1_chooseHost_105 k32 v1 v2 v3 v4 v5 v6 v7 S)))
def fX1_chooseHost_32 : Nat → Int32 → Int32 → Int32 → Int32 → Int32 → Int32 → Int32 → St → Rs
  | 0 => fun _ _ _ _ _ _ _ _ => none
  | n + 1 => fX1_chooseHost_32_b (fX1_chooseHost_32 n)
def fX1_chooseHost (v1 v2 : Int32) (S : St) : Rs :=
  Bd (fX1_roomFor ((S.1 4) + (1 : Int32)) S) fun r1 S2 =>
  Bd (fX4_greatestLoad S2) fun r3 S4 =>
  fX1_chooseHost_32 FU v1 v2 r1 r3 (-1 : Int32) (0 : Int32) (0 : Int32) S4
def fX4_hasHost_17 (t0 : Int32) (S : St) : Rs :=
  gA (b01 t0) (some (t0, S))
def fX4_hasHost_16 (S : St) : Rs :=
  fX4_hasHost_17 (0 : Int32) S
def fX4_hasHost (v1 : Int32) (S : St) : Rs :=
  if v1 < 0 then (
  fX4_hasHost_16 S)
  else (
  if (S.1 2) ≤ v1 then (
  fX4_hasHost_16 S)
  else (
  fX4_hasHost_17 (1 : Int32) S))
def fX4_putEnd_62 (S : St) : Rs :=
  some (0, S)
def fX4_putEnd (v1 v2 : Int32) (S : St) : Rs :=
  gA (inb v1 40) (
  gA (inb v1 40) (
  LtS (sA S 5 (ix v1) ((S.2 5 (ix v1)) + (1 : Int32))) fun S1 =>
  gA (inb ((v2 * (40 : Int32)) + v1) 320) (
  gA (inb ((v2 * (40 : Int32)) + v1) 320) (
  LtS (sA S1 7 (ix ((v2 * (40 : Int32)) + v1)) ((S1.2 7 (ix ((v2 * (40 : Int32)) + v1))) + (1 : Int32))) fun S2 =>
  gA (inb ((v2 * (40 : Int32)) + v1) 320) (
  if (S2.2 7 (ix ((v2 * (40 : Int32)) + v1))) = (1 : Int32) then (
  gA (inb v1 40) (
  gA (inb v1 40) (
  LtS (sA S2 6 (ix v1) ((S2.2 6 (ix v1)) ||| ((1 : Int32) <<< (v2 &&& 31)))) fun S3 =>
  LtS (sF S3 5 ((S3.1 5) + (1 : Int32))) fun S4 =>
  fX4_putEnd_62 S4)))
  else (
  fX4_putEnd_62 S2))))))
def fX4_putOn (v1 v2 : Int32) (S : St) : Rs :=
  Bd (fX4_hasHost v2 S) fun r1 S2 =>
  if r1 = 0 then (
  some (0, S2))
  else (
  gA (inb v1 300) (
  LtS (sA S2 3 (ix v1) v2) fun S3 =>
  gA (inb v2 8) (
  gA (inb v2 8) (
  LtS (sA S3 4 (ix v2) ((S3.2 4 (ix v2)) + (1 : Int32))) fun S4 =>
  LtS (sF S4 4 ((S4.1 4) + (1 : Int32))) fun S5 =>
  gA (inb v1 300) (
  Bd (fX4_putEnd (S5.2 1 (ix v1)) v2 S5) fun r6 S7 =>
  gA (inb v1 300) (
  Bd (fX4_putEnd (S7.2 2 (ix v1)) v2 S7) fun r8 S9 =>
  some (0, S9)))))))
def fX1_dealLine (v1 : Int32) (S : St) : Rs :=
  gA (inb v1 300) (
  gA (inb v1 300) (
  Bd (fX1_chooseHost (S.2 1 (ix v1)) (S.2 2 (ix v1)) S) fun r1 S2 =>
  Bd (fX4_putOn v1 r1 S2) fun r3 S4 =>
  some (r1, S4)))
def fX4_isLive_27 (t0 : Int32) (S : St) : Rs :=
  gA (b01 t0) (some (t0, S))
def fX4_isLive_26 (S : St) : Rs :=
  fX4_isLive_27 (0 : Int32) S
def fX4_isLive (v1 : Int32) (S : St) : Rs :=
  if v1 < 0 then (
  fX4_isLive_26 S)
  else (
  if (S.1 3) ≤ v1 then (
  fX4_isLive_26 S)
  else (
  gA (inb v1 300) (
  if (S.2 3 (ix v1)) = (-1 : Int32) then (
  fX4_isLive_26 S)
  else (
  fX4_isLive_27 (1 : Int32) S))))
def fX4_takeEnd_63 (S : St) : Rs :=
  some (0, S)
def fX4_takeEnd (v1 v2 : Int32) (S : St) : Rs :=
  gA (inb v1 40) (
  gA (inb v1 40) (
  LtS (sA S 5 (ix v1) ((S.2 5 (ix v1)) - (1 : Int32))) fun S1 =>
  gA (inb ((v2 * (40 : Int32)) + v1) 320) (
  gA (inb ((v2 * (40 : Int32)) + v1) 320) (
  LtS (sA S1 7 (ix ((v2 * (40 : Int32)) + v1)) ((S1.2 7 (ix ((v2 * (40 : Int32)) + v1))) - (1 : Int32))) fun S2 =>
  gA (inb ((v2 * (40 : Int32)) + v1) 320) (
  if (S2.2 7 (ix ((v2 * (40 : Int32)) + v1))) = 0 then (
  gA (inb v1 40) (
  gA (inb v1 40) (
  LtS (sA S2 6 (ix v1) ((S2.2 6 (ix v1)) &&& (((1 : Int32) <<< (v2 &&& 31)) ^^^ (-1 : Int32)))) fun S3 =>
  LtS (sF S3 5 ((S3.1 5) - (1 : Int32))) fun S4 =>
  fX4_takeEnd_63 S4)))
  else (
  fX4_takeEnd_63 S2))))))
def fX4_takeOff (v1 : Int32) (S : St) : Rs :=
  Bd (fX4_isLive v1 S) fun r1 S2 =>
  if r1 = 0 then (
  gA (b01 (0 : Int32)) (some ((0 : Int32), S2)))
  else (
  gA (inb v1 300) (
  Lt (S2.2 3 (ix v1)) fun x3 =>
  gA (inb v1 300) (
  LtS (sA S2 3 (ix v1) (-1 : Int32)) fun S4 =>
  gA (inb x3 8) (
  gA (inb x3 8) (
  LtS (sA S4 4 (ix x3) ((S4.2 4 (ix x3)) - (1 : Int32))) fun S5 =>
  LtS (sF S5 4 ((S5.1 4) - (1 : Int32))) fun S6 =>
  gA (inb v1 300) (
  Bd (fX4_takeEnd (S6.2 1 (ix v1)) x3 S6) fun r7 S8 =>
  gA (inb v1 300) (
  Bd (fX4_takeEnd (S8.2 2 (ix v1)) x3 S8) fun r9 S10 =>
  gA (b01 (1 : Int32)) (some ((1 : Int32), S10)))))))))
def fX6_keepWindow_50 (S : St) : Rs :=
  some (0, S)
def fX6_keepWindow_10_b (k10 : Int32 → St → Rs) (v1 : Int32) (S : St) : Rs :=
  if (S.1 3) ≤ v1 then (
  fX6_keepWindow_50 S)
  else (
  if (S.1 4) ≤ (S.1 0) then (
  fX6_keepWindow_50 S)
  else (
  Bd (fX4_takeOff v1 S) fun r1 S2 =>
  k10 (v1 + 1) S2))
def fX6_keepWindow_10 : Nat → Int32 → St → Rs
  | 0 => fun _ _ => none
  | n + 1 => fX6_keepWindow_10_b (fX6_keepWindow_10 n)
def fX6_keepWindow (S : St) : Rs :=
  if (S.1 0) = 0 then (
  some (0, S))
  else (
  fX6_keepWindow_10 FU (0 : Int32) S)
def fX6_line_32 (S : St) : Rs :=
  some ((-1 : Int32), S)
def fX6_line (v1 v2 : Int32) (S : St) : Rs :=
  Bd (fX6_isPoint v1 S) fun r1 S2 =>
  if r1 = 0 then (
  fX6_line_32 S2)
  else (
  Bd (fX6_isPoint v2 S2) fun r3 S4 =>
  if r3 = 0 then (
  fX6_line_32 S4)
  else (
  if v1 = v2 then (
  fX6_line_32 S4)
  else (
  if (S4.1 3) < (300 : Int32) then (
  Bd (fX4_addLine v1 v2 S4) fun r5 S6 =>
  Bd (fX1_dealLine r5 S6) fun r7 S8 =>
  Bd (fX6_keepWindow S8) fun r9 S10 =>
  some (r7, S10))
  else (
  fX6_line_32 S4))))
def fX6_rule_9 (S : St) : Rs :=
  gA (b01 (0 : Int32)) (some ((0 : Int32), S))
def fX6_rule (v1 : Int32) (S : St) : Rs :=
  if v1 < 0 then (
  fX6_rule_9 S)
  else (
  if v1 ≤ (2 : Int32) then (
  LtS (sF S 6 v1) fun S1 =>
  gA (b01 (1 : Int32)) (some ((1 : Int32), S1)))
  else (
  fX6_rule_9 S))
def fX6_isWeight_15 (t0 : Int32) (S : St) : Rs :=
  gA (b01 t0) (some (t0, S))
def fX6_isWeight_14 (S : St) : Rs :=
  fX6_isWeight_15 (0 : Int32) S
def fX6_isWeight (v0 : Int32) (S : St) : Rs :=
  if v0 < 0 then (
  fX6_isWeight_14 S)
  else (
  if (100 : Int32) < v0 then (
  fX6_isWeight_14 S)
  else (
  fX6_isWeight_15 (1 : Int32) S))
def fX6_weights_14 (S : St) : Rs :=
  gA (b01 (0 : Int32)) (some ((0 : Int32), S))
def fX6_weights (v1 v2 : Int32) (S : St) : Rs :=
  Bd (fX6_isWeight v1 S) fun r1 S2 =>
  if r1 = 0 then (
  fX6_weights_14 S2)
  else (
  Bd (fX6_isWeight v2 S2) fun r3 S4 =>
  if r3 = 0 then (
  fX6_weights_14 S4)
  else (
  LtS (sF S4 7 v1) fun S5 =>
  LtS (sF S5 8 v2) fun S6 =>
  gA (b01 (1 : Int32)) (some ((1 : Int32), S6))))
def fX6_window_11 (S : St) : Rs :=
  gA (b01 (0 : Int32)) (some ((0 : Int32), S))
def fX6_window (v1 : Int32) (S : St) : Rs :=
  if v1 < 0 then (
  fX6_window_11 S)
  else (
  if v1 ≤ (300 : Int32) then (
  LtS (sF S 0 v1) fun S1 =>
  Bd (fX6_keepWindow S1) fun r2 S3 =>
  gA (b01 (1 : Int32)) (some ((1 : Int32), S3)))
  else (
  fX6_window_11 S))
def fX6_leave (v1 : Int32) (S : St) : Rs :=
  Bd (fX4_takeOff v1 S) fun r1 S2 =>
  gA (b01 r1) (some (r1, S2))
def fX4_hasOneLineAt_20 (t0 : Int32) (S : St) : Rs :=
  gA (b01 t0) (some (t0, S))
def fX4_hasOneLineAt (v1 v2 : Int32) (S : St) : Rs :=
  gA (inb ((v2 * (40 : Int32)) + v1) 320) (
  if (S.2 7 (ix ((v2 * (40 : Int32)) + v1))) = (1 : Int32) then (
  fX4_hasOneLineAt_20 (1 : Int32) S)
  else (
  fX4_hasOneLineAt_20 (0 : Int32) S))
def fX3_keepIfBetter_46 (S : St) : Rs :=
  some (0, S)
def fX3_keepIfBetter_25 (v1 v2 v3 v4 : Int32) (S : St) : Rs :=
  LtS (sF S 9 v1) fun S1 =>
  LtS (sF S1 10 v2) fun S2 =>
  LtS (sF S2 11 v3) fun S3 =>
  LtS (sF S3 12 v4) fun S4 =>
  fX3_keepIfBetter_46 S4
def fX3_keepIfBetter (v1 v2 v3 v4 : Int32) (S : St) : Rs :=
  if v3 < (S.1 11) then (
  fX3_keepIfBetter_25 v1 v2 v3 v4 S)
  else (
  if v3 = (S.1 11) then (
  if (S.1 12) ≤ v4 then (
  fX3_keepIfBetter_46 S)
  else (
  fX3_keepIfBetter_25 v1 v2 v3 v4 S))
  else (
  fX3_keepIfBetter_46 S))
def fX3_weighMovesOf_201 (k85 : Int32 → Int32 → Int32 → Int32 → Int32 → Int32 → Int32 → St → Rs) (v1 v2 v3 v4 v5 v6 v7 : Int32) (S : St) : Rs :=
  k85 v1 v2 v3 v4 v5 v6 (v7 + 1) S
def fX3_weighMovesOf_158 (k85 : Int32 → Int32 → Int32 → Int32 → Int32 → Int32 → Int32 → St → Rs) (v1 v2 v3 v4 v5 v6 v7 t0 t1 : Int32) (S : St) : Rs :=
  Lt (t1 + t0) fun x1 =>
  gA (inb v7 8) (
  gA (inb v3 8) (
  Lt ((2 : Int32) * (((S.2 4 (ix v7)) - (S.2 4 (ix v3))) + (1 : Int32))) fun x2 =>
  Bd (fX3_keepIfBetter v1 v7 (x1 - v6) x2 S) fun r3 S4 =>
  fX3_weighMovesOf_201 k85 v1 v2 v3 v4 v5 v6 v7 S4))
def fX3_weighMovesOf_139 (k85 : Int32 → Int32 → Int32 → Int32 → Int32 → Int32 → Int32 → St → Rs) (v1 v2 v3 v4 v5 v6 v7 t0 : Int32) (S : St) : Rs :=
  Bd (fX4_hasCopy v5 v7 S) fun r1 S2 =>
  if r1 = 0 then (
  fX3_weighMovesOf_158 k85 v1 v2 v3 v4 v5 v6 v7 (1 : Int32) t0 S2)
  else (
  fX3_weighMovesOf_158 k85 v1 v2 v3 v4 v5 v6 v7 (0 : Int32) t0 S2)
def fX3_weighMovesOf_85_b (k85 : Int32 → Int32 → Int32 → Int32 → Int32 → Int32 → Int32 → St → Rs) (v1 v2 v3 v4 v5 v6 v7 : Int32) (S : St) : Rs :=
  if (S.1 2) ≤ v7 then (
  some (0, S))
  else (
  if v7 = v3 then (
  fX3_weighMovesOf_201 k85 v1 v2 v3 v4 v5 v6 v7 S)
  else (
  gA (inb v7 8) (
  if (S.2 4 (ix v7)) < v2 then (
  Bd (fX4_hasCopy v4 v7 S) fun r1 S2 =>
  if r1 = 0 then (
  fX3_weighMovesOf_139 k85 v1 v2 v3 v4 v5 v6 v7 (1 : Int32) S2)
  else (
  fX3_weighMovesOf_139 k85 v1 v2 v3 v4 v5 v6 v7 (0 : Int32) S2))
  else (
  fX3_weighMovesOf_201 k85 v1 v2 v3 v4 v5 v6 v7 S))))
def fX3_weighMovesOf_85 : Nat → Int32 → Int32 → Int32 → Int32 → Int32 → Int32 → Int32 → St → Rs
  | 0 => fun _ _ _ _ _ _ _ _ => none
  | n + 1 => fX3_weighMovesOf_85_b (fX3_weighMovesOf_85 n)
def fX3_weighMovesOf_68 (v1 v2 v3 v4 v5 t0 t1 : Int32) (S : St) : Rs :=
  Lt (t1 + t0) fun x1 =>
  if (-x1) ≤ (S.1 11) then (
  fX3_weighMovesOf_85 FU v1 v2 v3 v4 v5 x1 (0 : Int32) S)
  else (
  some (0, S))
def fX3_weighMovesOf_50 (v1 v2 v3 v4 v5 t0 : Int32) (S : St) : Rs :=
  Bd (fX4_hasOneLineAt v5 v3 S) fun r1 S2 =>
  if r1 = 0 then (
  fX3_weighMovesOf_68 v1 v2 v3 v4 v5 (0 : Int32) t0 S2)
  else (
  fX3_weighMovesOf_68 v1 v2 v3 v4 v5 (1 : Int32) t0 S2)
def fX3_weighMovesOf (v1 v2 : Int32) (S : St) : Rs :=
  gA (inb v1 300) (
  Lt (S.2 3 (ix v1)) fun x1 =>
  gA (inb v1 300) (
  Lt (S.2 1 (ix v1)) fun x2 =>
  gA (inb v1 300) (
  Lt (S.2 2 (ix v1)) fun x3 =>
  Bd (fX4_hasOneLineAt x2 x1 S) fun r4 S5 =>
  if r4 = 0 then (
  fX3_weighMovesOf_50 v1 v2 x1 x2 x3 (0 : Int32) S5)
  else (
  fX3_weighMovesOf_50 v1 v2 x1 x2 x3 (1 : Int32) S5))))
def fX3_findMove_69 (t0 : Int32) (S : St) : Rs :=
  gA (b01 t0) (some (t0, S))
def fX3_findMove_50 (k22 : Int32 → Int32 → St → Rs) (v1 v2 : Int32) (S : St) : Rs :=
  k22 v1 (v2 + 1) S
def fX3_findMove_22_b (k22 : Int32 → Int32 → St → Rs) (v1 v2 : Int32) (S : St) : Rs :=
  if (S.1 3) ≤ v2 then (
  if (S.1 9) = (-1 : Int32) then (
  fX3_findMove_69 (0 : Int32) S)
  else (
  fX3_findMove_69 (1 : Int32) S))
  else (
  Bd (fX4_isLive v2 S) fun r1 S2 =>
  if r1 = 0 then (
  fX3_findMove_50 k22 v1 v2 S2)
  else (
  Bd (fX3_weighMovesOf v2 v1 S2) fun r3 S4 =>
  fX3_findMove_50 k22 v1 v2 S4))
def fX3_findMove_22 : Nat → Int32 → Int32 → St → Rs
  | 0 => fun _ _ _ => none
  | n + 1 => fX3_findMove_22_b (fX3_findMove_22 n)
def fX3_findMove (v1 : Int32) (S : St) : Rs :=
  LtS (sF S 9 (-1 : Int32)) fun S1 =>
  LtS (sF S1 10 (-1 : Int32)) fun S2 =>
  LtS (sF S2 11 (0 : Int32)) fun S3 =>
  LtS (sF S3 12 (0 : Int32)) fun S4 =>
  fX3_findMove_22 FU v1 (0 : Int32) S4
def fX6_makeBetterMove (S : St) : Rs :=
  Bd (fX1_roomFor (S.1 4) S) fun r1 S2 =>
  Bd (fX3_findMove r1 S2) fun r3 S4 =>
  if r3 = 0 then (
  gA (b01 (0 : Int32)) (some ((0 : Int32), S4)))
  else (
  Bd (fX4_takeOff (S4.1 9) S4) fun r5 S6 =>
  Bd (fX4_putOn (S6.1 9) (S6.1 10) S6) fun r7 S8 =>
  gA (b01 (1 : Int32)) (some ((1 : Int32), S8)))
def fX6_better_10 (S : St) : Rs :=
  some ((-1 : Int32), S)
def fX6_better_32 (v2 : Int32) (S : St) : Rs :=
  LtS (sF S 1 ((S.1 1) + v2)) fun S1 =>
  some (v2, S1)
def fX6_better_14_b (k14 : Int32 → Int32 → St → Rs) (v1 v2 : Int32) (S : St) : Rs :=
  if v1 ≤ v2 then (
  fX6_better_32 v2 S)
  else (
  Bd (fX6_makeBetterMove S) fun r1 S2 =>
  if r1 = 0 then (
  fX6_better_32 v2 S2)
  else (
  k14 v1 (v2 + 1) S2))
def fX6_better_14 : Nat → Int32 → Int32 → St → Rs
  | 0 => fun _ _ _ => none
  | n + 1 => fX6_better_14_b (fX6_better_14 n)
def fX6_better (v1 : Int32) (S : St) : Rs :=
  if v1 < 0 then (
  fX6_better_10 S)
  else (
  if v1 ≤ (50 : Int32) then (
  fX6_better_14 FU v1 (0 : Int32) S)
  else (
  fX6_better_10 S))
def fX6_more (S : St) : Rs :=
  if (S.1 2) < (8 : Int32) then (
  LtS (sF S 2 ((S.1 2) + (1 : Int32))) fun S1 =>
  some ((S1.1 2), S1))
  else (
  some ((-1 : Int32), S))
def fX4_dropHost_76 (k5 : Int32 → Int32 → Int32 → St → Rs) (v1 v3 v4 : Int32) (S : St) : Rs :=
  k5 v1 v3 (v4 + 1) S
def fX4_dropHost_53 (k5 : Int32 → Int32 → Int32 → St → Rs) (v1 v3 v4 v5 : Int32) (S : St) : Rs :=
  if v5 ≤ v1 then (
  fX4_dropHost_76 k5 v1 v3 v4 S)
  else (
  Bd (fX4_takeOff v4 S) fun r1 S2 =>
  Bd (fX4_putOn v4 (v5 - (1 : Int32)) S2) fun r3 S4 =>
  fX4_dropHost_76 k5 v1 v3 v4 S4)
def fX4_dropHost_5_b (k5 : Int32 → Int32 → Int32 → St → Rs) (v1 v3 v4 : Int32) (S : St) : Rs :=
  if (S.1 3) ≤ v4 then (
  LtS (sF S 2 ((S.1 2) - (1 : Int32))) fun S1 =>
  some (v3, S1))
  else (
  gA (inb v4 300) (
  Lt (S.2 3 (ix v4)) fun x2 =>
  if x2 = v1 then (
  if (300 : Int32) ≤ v3 then (
  fX4_dropHost_53 k5 v1 v3 v4 x2 S)
  else (
  Bd (fX4_takeOff v4 S) fun r3 S4 =>
  gA (inb v3 300) (
  LtS (sA S4 0 (ix v3) v4) fun S5 =>
  fX4_dropHost_76 k5 v1 (v3 + 1) v4 S5)))
  else (
  fX4_dropHost_53 k5 v1 v3 v4 x2 S)))
def fX4_dropHost_5 : Nat → Int32 → Int32 → Int32 → St → Rs
  | 0 => fun _ _ _ _ => none
  | n + 1 => fX4_dropHost_5_b (fX4_dropHost_5 n)
def fX4_dropHost (v1 : Int32) (S : St) : Rs :=
  fX4_dropHost_5 FU v1 (0 : Int32) (0 : Int32) S
def fX6_less_22 (S : St) : Rs :=
  some ((-1 : Int32), S)
def fX6_less_73 (v2 : Int32) (S : St) : Rs :=
  some (v2, S)
def fX6_less_39_b (k39 : Int32 → Int32 → St → Rs) (v2 v3 : Int32) (S : St) : Rs :=
  if v2 ≤ v3 then (
  fX6_less_73 v2 S)
  else (
  if (300 : Int32) ≤ v3 then (
  fX6_less_73 v2 S)
  else (
  gA (inb v3 300) (
  Bd (fX1_dealLine (S.2 0 (ix v3)) S) fun r1 S2 =>
  k39 v2 (v3 + 1) S2)))
def fX6_less_39 : Nat → Int32 → Int32 → St → Rs
  | 0 => fun _ _ _ => none
  | n + 1 => fX6_less_39_b (fX6_less_39 n)
def fX6_less (v1 : Int32) (S : St) : Rs :=
  Bd (fX4_hasHost v1 S) fun r1 S2 =>
  if r1 = 0 then (
  fX6_less_22 S2)
  else (
  if (2 : Int32) < (S2.1 2) then (
  Bd (fX4_dropHost v1 S2) fun r3 S4 =>
  fX6_less_39 FU r3 (0 : Int32) S4)
  else (
  fX6_less_22 S2))
def fX6_host_24 (t0 : Int32) (S : St) : Rs :=
  some (t0, S)
def fX6_host (v1 : Int32) (S : St) : Rs :=
  Bd (fX4_isLive v1 S) fun r1 S2 =>
  if r1 = 0 then (
  fX6_host_24 (-1 : Int32) S2)
  else (
  gA (inb v1 300) (
  fX6_host_24 (S2.2 3 (ix v1)) S2))
def fX6_load_24 (t0 : Int32) (S : St) : Rs :=
  some (t0, S)
def fX6_load (v1 : Int32) (S : St) : Rs :=
  Bd (fX4_hasHost v1 S) fun r1 S2 =>
  if r1 = 0 then (
  fX6_load_24 (-1 : Int32) S2)
  else (
  gA (inb v1 8) (
  fX6_load_24 (S2.2 4 (ix v1)) S2))
def fX6_copies_20 (t0 : Int32) (S : St) : Rs :=
  some (t0, S)
def fX6_copies (v1 : Int32) (S : St) : Rs :=
  Bd (fX6_isPoint v1 S) fun r1 S2 =>
  if r1 = 0 then (
  fX6_copies_20 (-1 : Int32) S2)
  else (
  gA (inb v1 40) (
  fX6_copies_20 (S2.2 6 (ix v1)) S2))
def fX6_all (S : St) : Rs :=
  some ((S.1 5), S)
def fX6_degree_20 (t0 : Int32) (S : St) : Rs :=
  some (t0, S)
def fX6_degree (v1 : Int32) (S : St) : Rs :=
  Bd (fX6_isPoint v1 S) fun r1 S2 =>
  if r1 = 0 then (
  fX6_degree_20 (-1 : Int32) S2)
  else (
  gA (inb v1 40) (
  fX6_degree_20 (S2.2 5 (ix v1)) S2))
def fX6_room (S : St) : Rs :=
  Bd (fX1_roomFor (S.1 4) S) fun r1 S2 =>
  some (r1, S2)
def fX0_collectLines_67 (S : St) : Rs :=
  some (0, S)
def fX0_collectLines_61 (k7 : Int32 → St → Rs) (v1 : Int32) (S : St) : Rs :=
  k7 (v1 + 1) S
def fX0_collectLines_7_b (k7 : Int32 → St → Rs) (v1 : Int32) (S : St) : Rs :=
  if (S.1 3) ≤ v1 then (
  fX0_collectLines_67 S)
  else (
  if (8 : Int32) ≤ (S.1 13) then (
  fX0_collectLines_67 S)
  else (
  Bd (fX4_isLive v1 S) fun r1 S2 =>
  if r1 = 0 then (
  fX0_collectLines_61 k7 v1 S2)
  else (
  gA (inb (S2.1 13) 8) (
  LtS (sA S2 8 (ix (S2.1 13)) v1) fun S3 =>
  LtS (sF S3 13 ((S3.1 13) + (1 : Int32))) fun S4 =>
  fX0_collectLines_61 k7 v1 S4))))
def fX0_collectLines_7 : Nat → Int32 → St → Rs
  | 0 => fun _ _ => none
  | n + 1 => fX0_collectLines_7_b (fX0_collectLines_7 n)
def fX0_collectLines (S : St) : Rs :=
  LtS (sF S 13 (0 : Int32)) fun S1 =>
  fX0_collectLines_7 FU (0 : Int32) S1
def fX0_tryHost_110 (kr : Int32 → Int32 → Int32 → St → Rs) (v1 v2 v3 v4 v5 v6 v7 v8 t0 t1 : Int32) (S : St) : Rs :=
  Lt (t1 + t0) fun x1 =>
  gA (inb v3 3) (
  gA (inb v3 3) (
  LtS (sA S 9 (ix v3) ((S.2 9 (ix v3)) + (1 : Int32))) fun S2 =>
  Bd (kr (v1 + (1 : Int32)) (v2 + x1) v4 S2) fun r3 S4 =>
  gA (inb v3 3) (
  gA (inb v3 3) (
  LtS (sA S4 9 (ix v3) ((S4.2 9 (ix v3)) - (1 : Int32))) fun S5 =>
  gA (inb v5 40) (
  LtS (sA S5 10 (ix v5) v7) fun S6 =>
  gA (inb v6 40) (
  LtS (sA S6 10 (ix v6) v8) fun S7 =>
  some (0, S7)))))))
def fX0_tryHost_93 (kr : Int32 → Int32 → Int32 → St → Rs) (v1 v2 v3 v4 v5 v6 v7 v8 t0 : Int32) (S : St) : Rs :=
  gA (inb v6 40) (
  if (S.2 10 (ix v6)) = v8 then (
  fX0_tryHost_110 kr v1 v2 v3 v4 v5 v6 v7 v8 (0 : Int32) t0 S)
  else (
  fX0_tryHost_110 kr v1 v2 v3 v4 v5 v6 v7 v8 (1 : Int32) t0 S))
def fX0_tryHost_s (kr : Int32 → Int32 → Int32 → St → Rs) (v1 v2 v3 v4 : Int32) (S : St) : Rs :=
  gA (inb v1 8) (
  gA (inb (S.2 8 (ix v1)) 300) (
  Lt (S.2 1 (ix (S.2 8 (ix v1)))) fun x1 =>
  gA (inb v1 8) (
  gA (inb (S.2 8 (ix v1)) 300) (
  Lt (S.2 2 (ix (S.2 8 (ix v1)))) fun x2 =>
  gA (inb x1 40) (
  Lt (S.2 10 (ix x1)) fun x3 =>
  gA (inb x2 40) (
  Lt (S.2 10 (ix x2)) fun x4 =>
  gA (inb x1 40) (
  LtS (sA S 10 (ix x1) (x3 ||| ((1 : Int32) <<< (v3 &&& 31)))) fun S5 =>
  gA (inb x2 40) (
  LtS (sA S5 10 (ix x2) (x4 ||| ((1 : Int32) <<< (v3 &&& 31)))) fun S6 =>
  gA (inb x1 40) (
  if (S6.2 10 (ix x1)) = x3 then (
  fX0_tryHost_93 kr v1 v2 v3 v4 x1 x2 x3 x4 (0 : Int32) S6)
  else (
  fX0_tryHost_93 kr v1 v2 v3 v4 x1 x2 x3 x4 (1 : Int32) S6))))))))))
def fX0_dealFrom_86 (kr : Int32 → Int32 → Int32 → Int32 → St → Rs) (k49 : Int32 → Int32 → Int32 → Int32 → Int32 → St → Rs) (v1 v2 v3 v4 v5 : Int32) (S : St) : Rs :=
  k49 v1 v2 v3 v4 (v5 + 1) S
def fX0_dealFrom_49_b (kr : Int32 → Int32 → Int32 → Int32 → St → Rs) (k49 : Int32 → Int32 → Int32 → Int32 → Int32 → St → Rs) (v1 v2 v3 v4 v5 : Int32) (S : St) : Rs :=
  if v4 ≤ v5 then (
  some (0, S))
  else (
  gA (inb v5 3) (
  if (S.1 14) ≤ (S.2 9 (ix v5)) then (
  fX0_dealFrom_86 kr k49 v1 v2 v3 v4 v5 S)
  else (
  Bd (kr v1 v2 v5 (if v3 < (v5 + (1 : Int32)) then (v5 + (1 : Int32)) else v3) S) fun r1 S2 =>
  fX0_dealFrom_86 kr k49 v1 v2 v3 v4 v5 S2)))
def fX0_dealFrom_49 (kr : Int32 → Int32 → Int32 → Int32 → St → Rs) : Nat → Int32 → Int32 → Int32 → Int32 → Int32 → St → Rs
  | 0 => fun _ _ _ _ _ _ => none
  | n + 1 => fX0_dealFrom_49_b kr (fX0_dealFrom_49 kr n)
def fX0_dealFrom_s (kr : Int32 → Int32 → Int32 → Int32 → St → Rs) (v1 v2 v3 : Int32) (S : St) : Rs :=
  if v2 < (S.1 15) then (
  if v1 < (S.1 13) then (
  Lt (if (if (3 : Int32) < (S.1 2) then (3 : Int32) else (S.1 2)) < (v3 + (1 : Int32)) then (if (3 : Int32) < (S.1 2) then (3 : Int32) else (S.1 2)) else (v3 + (1 : Int32))) fun x1 =>
  fX0_dealFrom_49 kr FU v1 v2 v3 x1 (0 : Int32) S)
  else (
  LtS (sF S 15 v2) fun S2 =>
  some (0, S2)))
  else (
  some (0, S))
def fX0_dealFrom : Nat → Int32 → Int32 → Int32 → St → Rs
  | 0 => fun _ _ _ _ => none
  | n + 1 => fX0_dealFrom_s (fX0_tryHost_s (fX0_dealFrom n))
def fX0_fewestCopies (v1 : Int32) (S : St) : Rs :=
  Bd (fX0_collectLines S) fun r1 S2 =>
  LtS (sF S2 14 v1) fun S3 =>
  LtS (sF S3 15 ((2 : Int32) * (S3.1 13))) fun S4 =>
  Bd (fX0_dealFrom 10 (0 : Int32) (0 : Int32) (0 : Int32) S4) fun r5 S6 =>
  some ((S6.1 15), S6)
def fX6_best_34 (S : St) : Rs :=
  some ((-1 : Int32), S)
def fX6_best (S : St) : Rs :=
  if (S.1 4) < (1 : Int32) then (
  fX6_best_34 S)
  else (
  if (8 : Int32) < (S.1 4) then (
  fX6_best_34 S)
  else (
  if (S.1 2) ≤ (3 : Int32) then (
  Bd (fX1_roomFor (S.1 4) S) fun r1 S2 =>
  Bd (fX0_fewestCopies r1 S2) fun r3 S4 =>
  some (r3, S4))
  else (
  fX6_best_34 S)))
def fX5_spreadAlong_20 (v1 v2 t0 : Int32) (S : St) : Rs :=
  gA (inb v1 40) (
  gA (inb v2 40) (
  Lt (if (S.2 12 (ix v2)) < (S.2 12 (ix v1)) then (S.2 12 (ix v2)) else (S.2 12 (ix v1))) fun x1 =>
  gA (inb t0 40) (
  if x1 < (S.2 11 (ix t0)) then (
  gA (inb t0 40) (
  LtS (sA S 11 (ix t0) x1) fun S2 =>
  gA (b01 (1 : Int32)) (some ((1 : Int32), S2))))
  else (
  gA (b01 (0 : Int32)) (some ((0 : Int32), S))))))
def fX5_spreadAlong (v1 v2 : Int32) (S : St) : Rs :=
  gA (inb v1 40) (
  gA (inb v2 40) (
  if (S.2 12 (ix v2)) ≤ (S.2 12 (ix v1)) then (
  fX5_spreadAlong_20 v1 v2 v1 S)
  else (
  fX5_spreadAlong_20 v1 v2 v2 S)))
def fX5_goOneRound_68 (k19 : Int32 → Int32 → St → Rs) (v1 v2 : Int32) (S : St) : Rs :=
  k19 v1 (v2 + 1) S
def fX5_goOneRound_19_b (k19 : Int32 → Int32 → St → Rs) (v1 v2 : Int32) (S : St) : Rs :=
  if (S.1 3) ≤ v2 then (
  gA (b01 v1) (some (v1, S)))
  else (
  Bd (fX4_isLive v2 S) fun r1 S2 =>
  if r1 = 0 then (
  fX5_goOneRound_68 k19 v1 v2 S2)
  else (
  gA (inb v2 300) (
  gA (inb v2 300) (
  Bd (fX5_spreadAlong (S2.2 1 (ix v2)) (S2.2 2 (ix v2)) S2) fun r3 S4 =>
  if r3 = 0 then (
  fX5_goOneRound_68 k19 v1 v2 S4)
  else (
  fX5_goOneRound_68 k19 (1 : Int32) v2 S4)))))
def fX5_goOneRound_19 : Nat → Int32 → Int32 → St → Rs
  | 0 => fun _ _ _ => none
  | n + 1 => fX5_goOneRound_19_b (fX5_goOneRound_19 n)
def fX5_goOneRound (S : St) : Rs :=
  LtS (sR S 12 (va_cpy (S.2 11) (S.2 12) 0 0 40)) fun S1 =>
  fX5_goOneRound_19 FU (0 : Int32) (0 : Int32) S1
def fX5_spread_59 (S : St) : Rs :=
  some (0, S)
def fX5_spread_28_b (k28 : Int32 → St → Rs) (v1 : Int32) (S : St) : Rs :=
  if v1 = 0 then (
  fX5_spread_59 S)
  else (
  if (40 : Int32) < (S.1 16) then (
  fX5_spread_59 S)
  else (
  Bd (fX5_goOneRound S) fun r1 S2 =>
  LtS (sF S2 16 ((S2.1 16) + (1 : Int32))) fun S3 =>
  k28 r1 S3))
def fX5_spread_28 : Nat → Int32 → St → Rs
  | 0 => fun _ _ => none
  | n + 1 => fX5_spread_28_b (fX5_spread_28 n)
def fX5_spread_2_b (k2 : Int32 → St → Rs) (v1 : Int32) (S : St) : Rs :=
  if (40 : Int32) ≤ v1 then (
  LtS (sF S 16 (0 : Int32)) fun S1 =>
  fX5_spread_28 FU (1 : Int32) S1)
  else (
  gA (inb v1 40) (
  LtS (sA S 11 (ix v1) v1) fun S2 =>
  k2 (v1 + 1) S2))
def fX5_spread_2 : Nat → Int32 → St → Rs
  | 0 => fun _ _ => none
  | n + 1 => fX5_spread_2_b (fX5_spread_2 n)
def fX5_spread (S : St) : Rs :=
  fX5_spread_2 FU (0 : Int32) S
def fX6_part (v1 : Int32) (S : St) : Rs :=
  Bd (fX6_isPoint v1 S) fun r1 S2 =>
  if r1 = 0 then (
  some ((-1 : Int32), S2))
  else (
  Bd (fX5_spread S2) fun r3 S4 =>
  gA (inb v1 40) (
  some ((S4.2 11 (ix v1)), S4)))
def fX4_pointsWithCopies_22 (k4 : Int32 → Int32 → St → Rs) (v1 v2 : Int32) (S : St) : Rs :=
  k4 v1 (v2 + 1) S
def fX4_pointsWithCopies_4_b (k4 : Int32 → Int32 → St → Rs) (v1 v2 : Int32) (S : St) : Rs :=
  if (40 : Int32) ≤ v2 then (
  some (v1, S))
  else (
  gA (inb v2 40) (
  if (S.2 6 (ix v2)) = 0 then (
  fX4_pointsWithCopies_22 k4 v1 v2 S)
  else (
  fX4_pointsWithCopies_22 k4 (v1 + 1) v2 S)))
def fX4_pointsWithCopies_4 : Nat → Int32 → Int32 → St → Rs
  | 0 => fun _ _ _ => none
  | n + 1 => fX4_pointsWithCopies_4_b (fX4_pointsWithCopies_4 n)
def fX4_pointsWithCopies (S : St) : Rs :=
  fX4_pointsWithCopies_4 FU (0 : Int32) (0 : Int32) S
def fX5_letters (S : St) : Rs :=
  Bd (fX4_pointsWithCopies S) fun r1 S2 =>
  Lt ((S.1 5) - r1) fun x3 =>
  some (((S2.1 16) * (2 : Int32)) * x3, S2)
def fX5_partsWithLines_35 (k4 : Int32 → Int32 → St → Rs) (v1 v2 : Int32) (S : St) : Rs :=
  k4 v1 (v2 + 1) S
def fX5_partsWithLines_4_b (k4 : Int32 → Int32 → St → Rs) (v1 v2 : Int32) (S : St) : Rs :=
  if (40 : Int32) ≤ v2 then (
  some (v1, S))
  else (
  gA (inb v2 40) (
  if (S.2 11 (ix v2)) = v2 then (
  gA (inb v2 40) (
  if (S.2 5 (ix v2)) ≤ 0 then (
  fX5_partsWithLines_35 k4 v1 v2 S)
  else (
  fX5_partsWithLines_35 k4 (v1 + 1) v2 S)))
  else (
  fX5_partsWithLines_35 k4 v1 v2 S)))
def fX5_partsWithLines_4 : Nat → Int32 → Int32 → St → Rs
  | 0 => fun _ _ _ => none
  | n + 1 => fX5_partsWithLines_4_b (fX5_partsWithLines_4 n)
def fX5_partsWithLines (S : St) : Rs :=
  fX5_partsWithLines_4 FU (0 : Int32) (0 : Int32) S
def fX6_run_9 (S : St) : Rs :=
  some ((-1 : Int32), S)
def fX6_run (v1 : Int32) (S : St) : Rs :=
  if v1 < 0 then (
  fX6_run_9 S)
  else (
  if v1 ≤ (2 : Int32) then (
  Bd (fX5_spread S) fun r1 S2 =>
  if v1 = 0 then (
  some ((S2.1 16), S2))
  else (if v1 = 1 then (
  Bd (fX5_letters S2) fun r3 S4 =>
  some (r3, S4))
  else (
  Bd (fX5_partsWithLines S2) fun r5 S6 =>
  some (r5, S6))))
  else (
  fX6_run_9 S))
def fX2_leastMasterFor_49 (k4 : Int32 → Int32 → Int32 → St → Rs) (v1 v2 v3 : Int32) (S : St) : Rs :=
  k4 v1 v2 (v3 + 1) S
def fX2_leastMasterFor_47 (k4 : Int32 → Int32 → Int32 → St → Rs) (v1 v3 : Int32) (S : St) : Rs :=
  fX2_leastMasterFor_49 k4 v1 v3 v3 S
def fX2_leastMasterFor_4_b (k4 : Int32 → Int32 → Int32 → St → Rs) (v1 v2 v3 : Int32) (S : St) : Rs :=
  if (S.1 2) ≤ v3 then (
  some (v2, S))
  else (
  Bd (fX4_hasCopy v1 v3 S) fun r1 S2 =>
  if r1 = 0 then (
  fX2_leastMasterFor_49 k4 v1 v2 v3 S2)
  else (
  if v2 = (-1 : Int32) then (
  fX2_leastMasterFor_47 k4 v1 v3 S2)
  else (
  gA (inb v3 8) (
  gA (inb v2 8) (
  if (S2.2 13 (ix v2)) ≤ (S2.2 13 (ix v3)) then (
  fX2_leastMasterFor_49 k4 v1 v2 v3 S2)
  else (
  fX2_leastMasterFor_47 k4 v1 v3 S2))))))
def fX2_leastMasterFor_4 : Nat → Int32 → Int32 → Int32 → St → Rs
  | 0 => fun _ _ _ _ => none
  | n + 1 => fX2_leastMasterFor_4_b (fX2_leastMasterFor_4 n)
def fX2_leastMasterFor (v1 : Int32) (S : St) : Rs :=
  fX2_leastMasterFor_4 FU v1 (-1 : Int32) (0 : Int32) S
def fX2_masterOf_38 (k12 : Int32 → Int32 → Int32 → St → Rs) (v1 v2 v3 : Int32) (S : St) : Rs :=
  k12 v1 v2 (v3 + 1) S
def fX2_masterOf_12_b (k12 : Int32 → Int32 → Int32 → St → Rs) (v1 v2 v3 : Int32) (S : St) : Rs :=
  if v1 < v3 then (
  some (v2, S))
  else (
  Bd (fX2_leastMasterFor v3 S) fun r1 S2 =>
  if r1 = (-1 : Int32) then (
  fX2_masterOf_38 k12 v1 r1 v3 S2)
  else (
  gA (inb r1 8) (
  gA (inb r1 8) (
  LtS (sA S2 13 (ix r1) ((S2.2 13 (ix r1)) + (1 : Int32))) fun S3 =>
  fX2_masterOf_38 k12 v1 r1 v3 S3))))
def fX2_masterOf_12 : Nat → Int32 → Int32 → Int32 → St → Rs
  | 0 => fun _ _ _ _ => none
  | n + 1 => fX2_masterOf_12_b (fX2_masterOf_12 n)
def fX2_masterOf (v1 : Int32) (S : St) : Rs :=
  Bd (fJ7_fill_53178 (0 : Int32) S) fun r1 S2 =>
  fX2_masterOf_12 FU v1 (-1 : Int32) (0 : Int32) S2
def fX6_master_19 (t0 : Int32) (S : St) : Rs :=
  some (t0, S)
def fX6_master (v1 : Int32) (S : St) : Rs :=
  Bd (fX6_isPoint v1 S) fun r1 S2 =>
  if r1 = 0 then (
  fX6_master_19 (-1 : Int32) S2)
  else (
  Bd (fX2_masterOf v1 S2) fun r3 S4 =>
  fX6_master_19 r3 S4)
def fX4_leastLoad_7_b (k7 : Int32 → Int32 → St → Rs) (v1 v2 : Int32) (S : St) : Rs :=
  if (S.1 2) ≤ v2 then (
  some (v1, S))
  else (
  gA (inb v2 8) (
  Lt (if (S.2 4 (ix v2)) < v1 then (S.2 4 (ix v2)) else v1) fun x1 =>
  k7 x1 (v2 + 1) S))
def fX4_leastLoad_7 : Nat → Int32 → Int32 → St → Rs
  | 0 => fun _ _ _ => none
  | n + 1 => fX4_leastLoad_7_b (fX4_leastLoad_7 n)
def fX4_leastLoad (S : St) : Rs :=
  Lt (S.1 4) fun x1 =>
  fX4_leastLoad_7 FU x1 (0 : Int32) S
def fX6_count (v1 : Int32) (S : St) : Rs :=
  if v1 = 0 then (
  some ((S.1 2), S))
  else (if v1 = 1 then (
  some ((S.1 3), S))
  else (if v1 = 2 then (
  some ((S.1 4), S))
  else (if v1 = 3 then (
  some ((S.1 1), S))
  else (if v1 = 4 then (
  Bd (fX4_greatestLoad S) fun r1 S2 =>
  some (r1, S2))
  else (if v1 = 5 then (
  Bd (fX4_leastLoad S) fun r3 S4 =>
  some (r3, S4))
  else (if v1 = 6 then (
  Bd (fX4_pointsWithCopies S) fun r5 S6 =>
  some (r5, S6))
  else (if v1 = 7 then (
  some ((S.1 6), S))
  else (if v1 = 8 then (
  some ((S.1 7), S))
  else (if v1 = 9 then (
  some ((S.1 8), S))
  else (if v1 = 10 then (
  some ((S.1 0), S))
  else (
  some ((-1 : Int32), S))))))))))))
def fX7_in_15 (t0 : Int32) (S : St) : Rs :=
  gA (b01 t0) (some (t0, S))
def fX7_in_14 (S : St) : Rs :=
  fX7_in_15 (0 : Int32) S
def fX7_in (v0 v1 v2 : Int32) (S : St) : Rs :=
  if v0 < v1 then (
  fX7_in_14 S)
  else (
  if v2 < v0 then (
  fX7_in_14 S)
  else (
  fX7_in_15 (1 : Int32) S))
def fX7_isPoint (v0 : Int32) (S : St) : Rs :=
  Bd (fX7_in v0 (0 : Int32) (39 : Int32) S) fun r1 S2 =>
  gA (b01 r1) (some (r1, S2))
def fX7_isLive_29 (t0 : Int32) (S : St) : Rs :=
  gA (b01 t0) (some (t0, S))
def fX7_isLive_28 (S : St) : Rs :=
  fX7_isLive_29 (0 : Int32) S
def fX7_isLive (v1 : Int32) (S : St) : Rs :=
  Bd (fX7_in v1 (0 : Int32) ((S.1 1) - (1 : Int32)) S) fun r1 S2 =>
  if r1 = 0 then (
  fX7_isLive_28 S2)
  else (
  gA (inb v1 300) (
  if (S2.2 2 (ix v1)) = (-1 : Int32) then (
  fX7_isLive_28 S2)
  else (
  fX7_isLive_29 (1 : Int32) S2)))
def fX7_roomFor (v1 : Int32) (S : St) : Rs :=
  gA (nz ((100 : Int32) * (S.1 0))) (
  some ((((v1 * ((100 : Int32) + (S.1 4))) + ((100 : Int32) * (S.1 0))) - (1 : Int32)) / ((100 : Int32) * (S.1 0)), S))
def fX7_puts_14 (v1 v2 v3 t0 t1 : Int32) (S : St) : Rs :=
  gA (inb t1 300) (
  LtS (sA S 2 (ix t1) t0) fun S1 =>
  gA (inb v2 8) (
  gA (inb v2 8) (
  LtS (sA S1 3 (ix v2) ((S1.2 3 (ix v2)) + v3)) fun S2 =>
  gA (inb v1 300) (
  gA (inb (((8 : Int32) * (S2.2 0 (ix v1))) + v2) 320) (
  gA (inb (((8 : Int32) * (S2.2 0 (ix v1))) + v2) 320) (
  LtS (sA S2 4 (ix (((8 : Int32) * (S2.2 0 (ix v1))) + v2)) ((S2.2 4 (ix (((8 : Int32) * (S2.2 0 (ix v1))) + v2))) + v3)) fun S3 =>
  gA (inb v1 300) (
  gA (inb (((8 : Int32) * (S3.2 1 (ix v1))) + v2) 320) (
  gA (inb (((8 : Int32) * (S3.2 1 (ix v1))) + v2) 320) (
  LtS (sA S3 4 (ix (((8 : Int32) * (S3.2 1 (ix v1))) + v2)) ((S3.2 4 (ix (((8 : Int32) * (S3.2 1 (ix v1))) + v2))) + v3)) fun S4 =>
  LtS (sF S4 2 ((S4.1 2) + v3)) fun S5 =>
  some (0, S5))))))))))
def fX7_puts (v1 v2 v3 : Int32) (S : St) : Rs :=
  if v3 ≤ 0 then (
  fX7_puts_14 v1 v2 v3 (-1 : Int32) v1 S)
  else (
  fX7_puts_14 v1 v2 v3 v2 v1 S)
def fX7_greatest_29 (k4 : Int32 → Int32 → St → Rs) (v1 v2 : Int32) (S : St) : Rs :=
  k4 v1 (v2 + 1) S
def fX7_greatest_4_b (k4 : Int32 → Int32 → St → Rs) (v1 v2 : Int32) (S : St) : Rs :=
  if (S.1 0) ≤ v2 then (
  some (v1, S))
  else (
  gA (inb v2 8) (
  if (S.2 3 (ix v2)) ≤ v1 then (
  fX7_greatest_29 k4 v1 v2 S)
  else (
  gA (inb v2 8) (
  Lt (S.2 3 (ix v2)) fun x1 =>
  fX7_greatest_29 k4 x1 v2 S))))
def fX7_greatest_4 : Nat → Int32 → Int32 → St → Rs
  | 0 => fun _ _ _ => none
  | n + 1 => fX7_greatest_4_b (fX7_greatest_4 n)
def fX7_greatest (S : St) : Rs :=
  fX7_greatest_4 FU (0 : Int32) (0 : Int32) S
def fX7_degree_13_b (k13 : Int32 → Int32 → Int32 → St → Rs) (v1 v2 v3 : Int32) (S : St) : Rs :=
  if (S.1 0) ≤ v3 then (
  some (v2, S))
  else (
  gA (inb (((8 : Int32) * v1) + v3) 320) (
  Lt (v2 + (S.2 4 (ix (((8 : Int32) * v1) + v3)))) fun x1 =>
  k13 v1 x1 (v3 + 1) S))
def fX7_degree_13 : Nat → Int32 → Int32 → Int32 → St → Rs
  | 0 => fun _ _ _ _ => none
  | n + 1 => fX7_degree_13_b (fX7_degree_13 n)
def fX7_degree (v1 : Int32) (S : St) : Rs :=
  Bd (fX7_isPoint v1 S) fun r1 S2 =>
  if r1 = 0 then (
  some ((-1 : Int32), S2))
  else (
  fX7_degree_13 FU v1 (0 : Int32) (0 : Int32) S2)
def fX7_scoreOf_48 (t0 : Int32) (S : St) : Rs :=
  some (t0, S)
def fX7_scoreOf_127 (v4 t0 t1 : Int32) (S : St) : Rs :=
  Lt (t1 + t0) fun x1 =>
  some (((10 : Int32) * x1) + ((S.1 5) * v4), S)
def fX7_scoreOf_95 (v2 v3 v4 v5 v6 t0 : Int32) (S : St) : Rs :=
  gA (inb (((8 : Int32) * v2) + v3) 320) (
  if (S.2 4 (ix (((8 : Int32) * v2) + v3))) ≤ 0 then (
  fX7_scoreOf_127 v4 (0 : Int32) t0 S)
  else (
  fX7_scoreOf_127 v4 (((2 : Int32) * (v5 + v6)) - v6) t0 S))
def fX7_scoreOf (v1 v2 v3 : Int32) (S : St) : Rs :=
  Bd (fX7_greatest S) fun r1 S2 =>
  gA (inb v3 8) (
  Lt (r1 - (S2.2 3 (ix v3))) fun x3 =>
  if (S2.1 6) = 0 then (
  some (x3, S2))
  else (
  if (S2.1 6) = (1 : Int32) then (
  gA (nz (S2.1 0)) (
  if ((v1 + v2) - (v1 + v2) / (S2.1 0) * (S2.1 0)) = v3 then (
  fX7_scoreOf_48 (1 : Int32) S2)
  else (
  fX7_scoreOf_48 (0 : Int32) S2)))
  else (
  Bd (fX7_degree v1 S2) fun r4 S5 =>
  Lt (r4 + (1 : Int32)) fun x6 =>
  Bd (fX7_degree v2 S5) fun r7 S8 =>
  Lt (r7 + (1 : Int32)) fun x9 =>
  gA (inb (((8 : Int32) * v1) + v3) 320) (
  if (S8.2 4 (ix (((8 : Int32) * v1) + v3))) ≤ 0 then (
  fX7_scoreOf_95 v2 v3 x3 x6 x9 (0 : Int32) S8)
  else (
  fX7_scoreOf_95 v2 v3 x3 x6 x9 (((2 : Int32) * (x6 + x9)) - x6) S8)))))
def fX7_deals_83 (k19 : Int32 → Int32 → Int32 → Int32 → Int32 → St → Rs) (v1 v2 v3 v4 v5 : Int32) (S : St) : Rs :=
  k19 v1 v2 v3 v4 (v5 + 1) S
def fX7_deals_77 (k19 : Int32 → Int32 → Int32 → Int32 → Int32 → St → Rs) (v1 v4 v5 v6 : Int32) (S : St) : Rs :=
  fX7_deals_83 k19 v1 v5 v6 v4 v5 S
def fX7_deals_19_b (k19 : Int32 → Int32 → Int32 → Int32 → Int32 → St → Rs) (v1 v2 v3 v4 v5 : Int32) (S : St) : Rs :=
  if (S.1 0) ≤ v5 then (
  Bd (fX7_puts v1 v2 (1 : Int32) S) fun r1 S2 =>
  some (v2, S2))
  else (
  gA (inb v5 8) (
  if (S.2 3 (ix v5)) < v4 then (
  gA (inb v1 300) (
  gA (inb v1 300) (
  Bd (fX7_scoreOf (S.2 0 (ix v1)) (S.2 1 (ix v1)) v5 S) fun r3 S4 =>
  if v2 = (-1 : Int32) then (
  fX7_deals_77 k19 v1 v4 v5 r3 S4)
  else (
  if v3 < r3 then (
  fX7_deals_77 k19 v1 v4 v5 r3 S4)
  else (
  fX7_deals_83 k19 v1 v2 v3 v4 v5 S4)))))
  else (
  fX7_deals_83 k19 v1 v2 v3 v4 v5 S)))
def fX7_deals_19 : Nat → Int32 → Int32 → Int32 → Int32 → Int32 → St → Rs
  | 0 => fun _ _ _ _ _ _ => none
  | n + 1 => fX7_deals_19_b (fX7_deals_19 n)
def fX7_deals (v1 : Int32) (S : St) : Rs :=
  Bd (fX7_roomFor ((S.1 2) + (1 : Int32)) S) fun r1 S2 =>
  fX7_deals_19 FU v1 (-1 : Int32) (0 : Int32) r1 (0 : Int32) S2
def fX7_shuts_56 (S : St) : Rs :=
  some (0, S)
def fX7_shuts_50 (k2 : Int32 → St → Rs) (v1 : Int32) (S : St) : Rs :=
  k2 (v1 + 1) S
def fX7_shuts_2_b (k2 : Int32 → St → Rs) (v1 : Int32) (S : St) : Rs :=
  if (S.1 1) ≤ v1 then (
  fX7_shuts_56 S)
  else (
  if (S.1 3) ≤ 0 then (
  fX7_shuts_56 S)
  else (
  if (S.1 2) ≤ (S.1 3) then (
  fX7_shuts_56 S)
  else (
  gA (inb v1 300) (
  if (S.2 2 (ix v1)) = (-1 : Int32) then (
  fX7_shuts_50 k2 v1 S)
  else (
  gA (inb v1 300) (
  Bd (fX7_puts v1 (S.2 2 (ix v1)) (-1 : Int32) S) fun r1 S2 =>
  fX7_shuts_50 k2 v1 S2))))))
def fX7_shuts_2 : Nat → Int32 → St → Rs
  | 0 => fun _ _ => none
  | n + 1 => fX7_shuts_2_b (fX7_shuts_2 n)
def fX7_shuts (S : St) : Rs :=
  fX7_shuts_2 FU (0 : Int32) S
def fX7_line_29 (S : St) : Rs :=
  some ((-1 : Int32), S)
def fX7_line (v1 v2 : Int32) (S : St) : Rs :=
  Bd (fX7_isPoint v1 S) fun r1 S2 =>
  if r1 = 0 then (
  fX7_line_29 S2)
  else (
  Bd (fX7_isPoint v2 S2) fun r3 S4 =>
  if r3 = 0 then (
  fX7_line_29 S4)
  else (
  if v1 = v2 then (
  fX7_line_29 S4)
  else (
  if (S4.1 1) = (300 : Int32) then (
  fX7_line_29 S4)
  else (
  gA (inb (S4.1 1) 300) (
  LtS (sA S4 0 (ix (S4.1 1)) v1) fun S5 =>
  gA (inb (S5.1 1) 300) (
  LtS (sA S5 1 (ix (S5.1 1)) v2) fun S6 =>
  LtS (sF S6 1 ((S6.1 1) + (1 : Int32))) fun S7 =>
  Bd (fX7_deals ((S7.1 1) - (1 : Int32)) S7) fun r8 S9 =>
  Bd (fX7_shuts S9) fun r10 S11 =>
  some (r8, S11)))))))
def fX7_rule (v1 : Int32) (S : St) : Rs :=
  Bd (fX7_in v1 (0 : Int32) (2 : Int32) S) fun r1 S2 =>
  if r1 = 0 then (
  gA (b01 (0 : Int32)) (some ((0 : Int32), S2)))
  else (
  LtS (sF S2 6 v1) fun S3 =>
  gA (b01 (1 : Int32)) (some ((1 : Int32), S3)))
def fX7_weights_20 (S : St) : Rs :=
  gA (b01 (0 : Int32)) (some ((0 : Int32), S))
def fX7_weights (v1 v2 : Int32) (S : St) : Rs :=
  Bd (fX7_in v1 (0 : Int32) (100 : Int32) S) fun r1 S2 =>
  if r1 = 0 then (
  fX7_weights_20 S2)
  else (
  Bd (fX7_in v2 (0 : Int32) (100 : Int32) S2) fun r3 S4 =>
  if r3 = 0 then (
  fX7_weights_20 S4)
  else (
  LtS (sF S4 4 v1) fun S5 =>
  LtS (sF S5 5 v2) fun S6 =>
  gA (b01 (1 : Int32)) (some ((1 : Int32), S6))))
def fX7_window (v1 : Int32) (S : St) : Rs :=
  Bd (fX7_in v1 (0 : Int32) (300 : Int32) S) fun r1 S2 =>
  if r1 = 0 then (
  gA (b01 (0 : Int32)) (some ((0 : Int32), S2)))
  else (
  LtS (sF S2 3 v1) fun S3 =>
  Bd (fX7_shuts S3) fun r4 S5 =>
  gA (b01 (1 : Int32)) (some ((1 : Int32), S5)))
def fX7_leave (v1 : Int32) (S : St) : Rs :=
  Bd (fX7_isLive v1 S) fun r1 S2 =>
  if r1 = 0 then (
  gA (b01 (0 : Int32)) (some ((0 : Int32), S2)))
  else (
  gA (inb v1 300) (
  Bd (fX7_puts v1 (S2.2 2 (ix v1)) (-1 : Int32) S2) fun r3 S4 =>
  gA (b01 (1 : Int32)) (some ((1 : Int32), S4))))
def fX7_change_39 (t0 t1 : Int32) (S : St) : Rs :=
  some (t1 - t0, S)
def fX7_change_19 (v1 v2 t0 : Int32) (S : St) : Rs :=
  gA (inb (((8 : Int32) * v1) + v2) 320) (
  if (S.2 4 (ix (((8 : Int32) * v1) + v2))) = (1 : Int32) then (
  fX7_change_39 (1 : Int32) t0 S)
  else (
  fX7_change_39 (0 : Int32) t0 S))
def fX7_change (v1 v2 v3 : Int32) (S : St) : Rs :=
  gA (inb (((8 : Int32) * v1) + v3) 320) (
  if (S.2 4 (ix (((8 : Int32) * v1) + v3))) = 0 then (
  fX7_change_19 v1 v2 (1 : Int32) S)
  else (
  fX7_change_19 v1 v2 (0 : Int32) S))
def fX7_room (S : St) : Rs :=
  Bd (fX7_roomFor (S.1 2) S) fun r1 S2 =>
  some (r1, S2)
def fX7_moves_210 (k18 : Int32 → Int32 → Int32 → Int32 → Int32 → Int32 → St → Rs) (v1 v2 v3 v4 v5 v6 : Int32) (S : St) : Rs :=
  k18 v1 v2 v3 v4 v5 (v6 + 1) S
def fX7_moves_204 (k18 : Int32 → Int32 → Int32 → Int32 → Int32 → Int32 → St → Rs) (k30 : Int32 → Int32 → Int32 → Int32 → Int32 → Int32 → Int32 → St → Rs) (v1 v2 v3 v4 v5 v6 v7 : Int32) (S : St) : Rs :=
  k30 v1 v2 v3 v4 v5 v6 (v7 + 1) S
def fX7_moves_190 (k18 : Int32 → Int32 → Int32 → Int32 → Int32 → Int32 → St → Rs) (k30 : Int32 → Int32 → Int32 → Int32 → Int32 → Int32 → Int32 → St → Rs) (v1 v6 v7 v9 v10 : Int32) (S : St) : Rs :=
  fX7_moves_204 k18 k30 v1 v6 v7 v9 v10 v6 v7 S
def fX7_moves_154 (k18 : Int32 → Int32 → Int32 → Int32 → Int32 → Int32 → St → Rs) (k30 : Int32 → Int32 → Int32 → Int32 → Int32 → Int32 → Int32 → St → Rs) (v1 v2 v3 v4 v5 v6 v7 v9 v10 t0 : Int32) (S : St) : Rs :=
  if t0 = 0 then (
  fX7_moves_204 k18 k30 v1 v2 v3 v4 v5 v6 v7 S)
  else (
  if v2 = (-1 : Int32) then (
  fX7_moves_190 k18 k30 v1 v6 v7 v9 v10 S)
  else (
  if v4 < v9 then (
  fX7_moves_204 k18 k30 v1 v2 v3 v4 v5 v6 v7 S)
  else (
  if v9 = v4 then (
  if v10 < v5 then (
  fX7_moves_190 k18 k30 v1 v6 v7 v9 v10 S)
  else (
  fX7_moves_204 k18 k30 v1 v2 v3 v4 v5 v6 v7 S))
  else (
  fX7_moves_190 k18 k30 v1 v6 v7 v9 v10 S))))
def fX7_moves_149 (k18 : Int32 → Int32 → Int32 → Int32 → Int32 → Int32 → St → Rs) (k30 : Int32 → Int32 → Int32 → Int32 → Int32 → Int32 → Int32 → St → Rs) (v1 v2 v3 v4 v5 v6 v7 v9 v10 : Int32) (S : St) : Rs :=
  fX7_moves_154 k18 k30 v1 v2 v3 v4 v5 v6 v7 v9 v10 (1 : Int32) S
def fX7_moves_153 (k18 : Int32 → Int32 → Int32 → Int32 → Int32 → Int32 → St → Rs) (k30 : Int32 → Int32 → Int32 → Int32 → Int32 → Int32 → Int32 → St → Rs) (v1 v2 v3 v4 v5 v6 v7 v9 v10 : Int32) (S : St) : Rs :=
  fX7_moves_154 k18 k30 v1 v2 v3 v4 v5 v6 v7 v9 v10 (0 : Int32) S
def fX7_moves_30_b (k18 : Int32 → Int32 → Int32 → Int32 → Int32 → Int32 → St → Rs) (k30 : Int32 → Int32 → Int32 → Int32 → Int32 → Int32 → Int32 → St → Rs) (v1 v2 v3 v4 v5 v6 v7 : Int32) (S : St) : Rs :=
  if (S.1 0) ≤ v7 then (
  fX7_moves_210 k18 v1 v2 v3 v4 v5 v6 S)
  else (
  gA (inb v6 300) (
  if (S.2 2 (ix v6)) = (-1 : Int32) then (
  fX7_moves_210 k18 v1 v2 v3 v4 v5 v6 S)
  else (
  gA (inb v6 300) (
  Lt (S.2 2 (ix v6)) fun x1 =>
  if v7 = x1 then (
  fX7_moves_204 k18 k30 v1 v2 v3 v4 v5 v6 v7 S)
  else (
  gA (inb v7 8) (
  if (S.2 3 (ix v7)) < v1 then (
  gA (inb v6 300) (
  Bd (fX7_change (S.2 0 (ix v6)) x1 v7 S) fun r2 S3 =>
  gA (inb v6 300) (
  Bd (fX7_change (S3.2 1 (ix v6)) x1 v7 S3) fun r4 S5 =>
  Lt (r2 + r4) fun x6 =>
  gA (inb v7 8) (
  gA (inb x1 8) (
  Lt (((2 : Int32) * ((S5.2 3 (ix v7)) - (S5.2 3 (ix x1)))) + (2 : Int32)) fun x7 =>
  if x6 < 0 then (
  fX7_moves_149 k18 k30 v1 v2 v3 v4 v5 v6 v7 x6 x7 S5)
  else (
  if x6 = 0 then (
  if 0 ≤ x7 then (
  fX7_moves_153 k18 k30 v1 v2 v3 v4 v5 v6 v7 x6 x7 S5)
  else (
  fX7_moves_149 k18 k30 v1 v2 v3 v4 v5 v6 v7 x6 x7 S5))
  else (
  fX7_moves_153 k18 k30 v1 v2 v3 v4 v5 v6 v7 x6 x7 S5)))))))
  else (
  fX7_moves_204 k18 k30 v1 v2 v3 v4 v5 v6 v7 S)))))))
def fX7_moves_30 (k18 : Int32 → Int32 → Int32 → Int32 → Int32 → Int32 → St → Rs) : Nat → Int32 → Int32 → Int32 → Int32 → Int32 → Int32 → Int32 → St → Rs
  | 0 => fun _ _ _ _ _ _ _ _ => none
  | n + 1 => fX7_moves_30_b k18 (fX7_moves_30 k18 n)
def fX7_moves_18_b (k18 : Int32 → Int32 → Int32 → Int32 → Int32 → Int32 → St → Rs) (v1 v2 v3 v4 v5 v6 : Int32) (S : St) : Rs :=
  if (S.1 1) ≤ v6 then (
  if v2 = (-1 : Int32) then (
  gA (b01 (0 : Int32)) (some ((0 : Int32), S)))
  else (
  gA (inb v2 300) (
  Bd (fX7_puts v2 (S.2 2 (ix v2)) (-1 : Int32) S) fun r1 S2 =>
  Bd (fX7_puts v2 v3 (1 : Int32) S2) fun r3 S4 =>
  gA (b01 (1 : Int32)) (some ((1 : Int32), S4)))))
  else (
  fX7_moves_30 k18 FU v1 v2 v3 v4 v5 v6 (0 : Int32) S)
def fX7_moves_18 : Nat → Int32 → Int32 → Int32 → Int32 → Int32 → Int32 → St → Rs
  | 0 => fun _ _ _ _ _ _ _ => none
  | n + 1 => fX7_moves_18_b (fX7_moves_18 n)
def fX7_moves (S : St) : Rs :=
  Bd (fX7_room S) fun r1 S2 =>
  fX7_moves_18 FU r1 (-1 : Int32) (0 : Int32) (0 : Int32) (0 : Int32) (0 : Int32) S2
def fX7_better_32 (v2 : Int32) (S : St) : Rs :=
  LtS (sF S 7 ((S.1 7) + v2)) fun S1 =>
  some (v2, S1)
def fX7_better_14_b (k14 : Int32 → Int32 → St → Rs) (v1 v2 : Int32) (S : St) : Rs :=
  if v1 ≤ v2 then (
  fX7_better_32 v2 S)
  else (
  Bd (fX7_moves S) fun r1 S2 =>
  if r1 = 0 then (
  fX7_better_32 v2 S2)
  else (
  k14 v1 (v2 + 1) S2))
def fX7_better_14 : Nat → Int32 → Int32 → St → Rs
  | 0 => fun _ _ _ => none
  | n + 1 => fX7_better_14_b (fX7_better_14 n)
def fX7_better (v1 : Int32) (S : St) : Rs :=
  Bd (fX7_in v1 (0 : Int32) (50 : Int32) S) fun r1 S2 =>
  if r1 = 0 then (
  some ((-1 : Int32), S2))
  else (
  fX7_better_14 FU v1 (0 : Int32) S2)
def fX7_more (S : St) : Rs :=
  if (S.1 0) = (8 : Int32) then (
  some ((-1 : Int32), S))
  else (
  LtS (sF S 0 ((S.1 0) + (1 : Int32))) fun S1 =>
  some ((S1.1 0), S1))
def fX7_less_22 (S : St) : Rs :=
  some ((-1 : Int32), S)
def fX7_less_265 (k242 : Int32 → Int32 → St → Rs) (v2 v3 : Int32) (S : St) : Rs :=
  k242 v2 (v3 + 1) S
def fX7_less_242_b (k242 : Int32 → Int32 → St → Rs) (v2 v3 : Int32) (S : St) : Rs :=
  if (S.1 1) ≤ v3 then (
  some (v2, S))
  else (
  gA (inb v3 300) (
  if (S.2 5 (ix v3)) = 0 then (
  fX7_less_265 k242 v2 v3 S)
  else (
  Bd (fX7_deals v3 S) fun r1 S2 =>
  fX7_less_265 k242 v2 v3 S2)))
def fX7_less_242 : Nat → Int32 → Int32 → St → Rs
  | 0 => fun _ _ _ => none
  | n + 1 => fX7_less_242_b (fX7_less_242 n)
def fX7_less_203_b (k203 : Int32 → Int32 → St → Rs) (v2 v3 : Int32) (S : St) : Rs :=
  if (40 : Int32) ≤ v3 then (
  LtS (sF S 0 ((S.1 0) - (1 : Int32))) fun S1 =>
  fX7_less_242 FU v2 (0 : Int32) S1)
  else (
  gA (inb ((((8 : Int32) * v3) + (8 : Int32)) - (1 : Int32)) 320) (
  LtS (sA S 4 (ix ((((8 : Int32) * v3) + (8 : Int32)) - (1 : Int32))) (0 : Int32)) fun S2 =>
  k203 v2 (v3 + 1) S2))
def fX7_less_203 : Nat → Int32 → Int32 → St → Rs
  | 0 => fun _ _ _ => none
  | n + 1 => fX7_less_203_b (fX7_less_203 n)
def fX7_less_148_b (k123 : Int32 → Int32 → St → Rs) (k148 : Int32 → Int32 → Int32 → St → Rs) (v2 v3 v4 : Int32) (S : St) : Rs :=
  if (40 : Int32) ≤ v4 then (
  k123 v2 (v3 + 1) S)
  else (
  gA (inb ((((8 : Int32) * v4) + v3) + (1 : Int32)) 320) (
  gA (inb (((8 : Int32) * v4) + v3) 320) (
  LtS (sA S 4 (ix (((8 : Int32) * v4) + v3)) (S.2 4 (ix ((((8 : Int32) * v4) + v3) + (1 : Int32))))) fun S1 =>
  k148 v2 v3 (v4 + 1) S1)))
def fX7_less_148 (k123 : Int32 → Int32 → St → Rs) : Nat → Int32 → Int32 → Int32 → St → Rs
  | 0 => fun _ _ _ _ => none
  | n + 1 => fX7_less_148_b k123 (fX7_less_148 k123 n)
def fX7_less_123_b (k123 : Int32 → Int32 → St → Rs) (v2 v3 : Int32) (S : St) : Rs :=
  if (8 : Int32) ≤ (v3 + (1 : Int32)) then (
  gA (inb (7 : Int32) 8) (
  LtS (sA S 3 (ix (7 : Int32)) (0 : Int32)) fun S1 =>
  fX7_less_203 FU v2 (0 : Int32) S1))
  else (
  gA (inb (v3 + (1 : Int32)) 8) (
  gA (inb v3 8) (
  LtS (sA S 3 (ix v3) (S.2 3 (ix (v3 + (1 : Int32))))) fun S2 =>
  fX7_less_148 k123 FU v2 v3 (0 : Int32) S2)))
def fX7_less_123 : Nat → Int32 → Int32 → St → Rs
  | 0 => fun _ _ _ => none
  | n + 1 => fX7_less_123_b (fX7_less_123 n)
def fX7_less_115 (k87 : Int32 → Int32 → Int32 → St → Rs) (v1 v2 v3 : Int32) (S : St) : Rs :=
  k87 v1 v2 (v3 + 1) S
def fX7_less_87_b (k87 : Int32 → Int32 → Int32 → St → Rs) (v1 v2 v3 : Int32) (S : St) : Rs :=
  if (S.1 1) ≤ v3 then (
  fX7_less_123 FU v2 v1 S)
  else (
  gA (inb v3 300) (
  if (S.2 2 (ix v3)) ≤ v1 then (
  fX7_less_115 k87 v1 v2 v3 S)
  else (
  gA (inb v3 300) (
  gA (inb v3 300) (
  LtS (sA S 2 (ix v3) ((S.2 2 (ix v3)) - (1 : Int32))) fun S1 =>
  fX7_less_115 k87 v1 v2 v3 S1)))))
def fX7_less_87 : Nat → Int32 → Int32 → Int32 → St → Rs
  | 0 => fun _ _ _ _ => none
  | n + 1 => fX7_less_87_b (fX7_less_87 n)
def fX7_less_79 (k28 : Int32 → Int32 → Int32 → St → Rs) (v1 v2 v3 : Int32) (S : St) : Rs :=
  k28 v1 v2 (v3 + 1) S
def fX7_less_56 (k28 : Int32 → Int32 → Int32 → St → Rs) (v1 v2 v3 t0 t1 : Int32) (S : St) : Rs :=
  gA (inb t1 300) (
  gA (b01 t0) (
  LtS (sA S 5 (ix t1) t0) fun S1 =>
  gA (inb v3 300) (
  if (S1.2 5 (ix v3)) = 0 then (
  fX7_less_79 k28 v1 v2 v3 S1)
  else (
  Bd (fX7_puts v3 v1 (-1 : Int32) S1) fun r2 S3 =>
  fX7_less_79 k28 v1 (v2 + 1) v3 S3))))
def fX7_less_28_b (k28 : Int32 → Int32 → Int32 → St → Rs) (v1 v2 v3 : Int32) (S : St) : Rs :=
  if (S.1 1) ≤ v3 then (
  fX7_less_87 FU v1 v2 (0 : Int32) S)
  else (
  gA (inb v3 300) (
  if (S.2 2 (ix v3)) = v1 then (
  fX7_less_56 k28 v1 v2 v3 (1 : Int32) v3 S)
  else (
  fX7_less_56 k28 v1 v2 v3 (0 : Int32) v3 S)))
def fX7_less_28 : Nat → Int32 → Int32 → Int32 → St → Rs
  | 0 => fun _ _ _ _ => none
  | n + 1 => fX7_less_28_b (fX7_less_28 n)
def fX7_less (v1 : Int32) (S : St) : Rs :=
  Bd (fX7_in v1 (0 : Int32) ((S.1 0) - (1 : Int32)) S) fun r1 S2 =>
  if r1 = 0 then (
  fX7_less_22 S2)
  else (
  if (S2.1 0) = (2 : Int32) then (
  fX7_less_22 S2)
  else (
  fX7_less_28 FU v1 (0 : Int32) (0 : Int32) S2))
def fX7_host_24 (t0 : Int32) (S : St) : Rs :=
  some (t0, S)
def fX7_host (v1 : Int32) (S : St) : Rs :=
  Bd (fX7_in v1 (0 : Int32) ((S.1 1) - (1 : Int32)) S) fun r1 S2 =>
  if r1 = 0 then (
  fX7_host_24 (-1 : Int32) S2)
  else (
  gA (inb v1 300) (
  fX7_host_24 (S2.2 2 (ix v1)) S2))
def fX7_load_24 (t0 : Int32) (S : St) : Rs :=
  some (t0, S)
def fX7_load (v1 : Int32) (S : St) : Rs :=
  Bd (fX7_in v1 (0 : Int32) ((S.1 0) - (1 : Int32)) S) fun r1 S2 =>
  if r1 = 0 then (
  fX7_load_24 (-1 : Int32) S2)
  else (
  gA (inb v1 8) (
  fX7_load_24 (S2.2 3 (ix v1)) S2))
def fX7_copies_43 (k13 : Int32 → Int32 → Int32 → St → Rs) (v1 v3 t0 t1 : Int32) (S : St) : Rs :=
  Lt (t1 ||| t0) fun x1 =>
  k13 v1 x1 (v3 + 1) S
def fX7_copies_13_b (k13 : Int32 → Int32 → Int32 → St → Rs) (v1 v2 v3 : Int32) (S : St) : Rs :=
  if (S.1 0) ≤ v3 then (
  some (v2, S))
  else (
  gA (inb (((8 : Int32) * v1) + v3) 320) (
  if (S.2 4 (ix (((8 : Int32) * v1) + v3))) ≤ 0 then (
  fX7_copies_43 k13 v1 v3 (0 : Int32) v2 S)
  else (
  fX7_copies_43 k13 v1 v3 ((1 : Int32) <<< (v3 &&& 31)) v2 S)))
def fX7_copies_13 : Nat → Int32 → Int32 → Int32 → St → Rs
  | 0 => fun _ _ _ _ => none
  | n + 1 => fX7_copies_13_b (fX7_copies_13 n)
def fX7_copies (v1 : Int32) (S : St) : Rs :=
  Bd (fX7_isPoint v1 S) fun r1 S2 =>
  if r1 = 0 then (
  some ((-1 : Int32), S2))
  else (
  fX7_copies_13 FU v1 (0 : Int32) (0 : Int32) S2)
def fX7_copiesOf_32 (k4 : Int32 → Int32 → Int32 → St → Rs) (v1 v3 t0 t1 : Int32) (S : St) : Rs :=
  Lt (t1 + t0) fun x1 =>
  k4 v1 x1 (v3 + 1) S
def fX7_copiesOf_4_b (k4 : Int32 → Int32 → Int32 → St → Rs) (v1 v2 v3 : Int32) (S : St) : Rs :=
  if (S.1 0) ≤ v3 then (
  some (v2, S))
  else (
  gA (inb (((8 : Int32) * v1) + v3) 320) (
  if (S.2 4 (ix (((8 : Int32) * v1) + v3))) ≤ 0 then (
  fX7_copiesOf_32 k4 v1 v3 (0 : Int32) v2 S)
  else (
  fX7_copiesOf_32 k4 v1 v3 (1 : Int32) v2 S)))
def fX7_copiesOf_4 : Nat → Int32 → Int32 → Int32 → St → Rs
  | 0 => fun _ _ _ _ => none
  | n + 1 => fX7_copiesOf_4_b (fX7_copiesOf_4 n)
def fX7_copiesOf (v1 : Int32) (S : St) : Rs :=
  fX7_copiesOf_4 FU v1 (0 : Int32) (0 : Int32) S
def fX7_all_4_b (k4 : Int32 → Int32 → St → Rs) (v1 v2 : Int32) (S : St) : Rs :=
  if (40 : Int32) ≤ v2 then (
  some (v1, S))
  else (
  Bd (fX7_copiesOf v2 S) fun r1 S2 =>
  Lt (v1 + r1) fun x3 =>
  k4 x3 (v2 + 1) S2)
def fX7_all_4 : Nat → Int32 → Int32 → St → Rs
  | 0 => fun _ _ _ => none
  | n + 1 => fX7_all_4_b (fX7_all_4 n)
def fX7_all (S : St) : Rs :=
  fX7_all_4 FU (0 : Int32) (0 : Int32) S
def fX7_dealt_207 (k48 : Int32 → Int32 → Int32 → St → Rs) (v2 v3 v4 : Int32) (S : St) : Rs :=
  k48 v2 v3 (v4 + 1) S
def fX7_dealt_186 (k48 : Int32 → Int32 → Int32 → St → Rs) (v2 v4 v5 t0 t1 : Int32) (S : St) : Rs :=
  Lt (t1 + t0) fun x1 =>
  gA (inb v4 300) (
  gA (inb (S.2 1 (ix v4)) 40) (
  gA (inb (S.2 1 (ix v4)) 40) (
  LtS (sA S 7 (ix (S.2 1 (ix v4))) ((S.2 7 (ix (S.2 1 (ix v4)))) ||| ((1 : Int32) <<< (v5 &&& 31)))) fun S2 =>
  fX7_dealt_207 k48 v2 x1 v4 S2)))
def fX7_dealt_139 (k48 : Int32 → Int32 → Int32 → St → Rs) (v2 v4 v5 t0 t1 : Int32) (S : St) : Rs :=
  Lt (t1 + t0) fun x1 =>
  gA (inb v4 300) (
  gA (inb (S.2 0 (ix v4)) 40) (
  gA (inb (S.2 0 (ix v4)) 40) (
  LtS (sA S 7 (ix (S.2 0 (ix v4))) ((S.2 7 (ix (S.2 0 (ix v4)))) ||| ((1 : Int32) <<< (v5 &&& 31)))) fun S2 =>
  gA (inb v4 300) (
  gA (inb (S2.2 1 (ix v4)) 40) (
  if (((S2.2 7 (ix (S2.2 1 (ix v4)))) >>> (v5 &&& 31)) &&& (1 : Int32)) = 0 then (
  fX7_dealt_186 k48 v2 v4 v5 (1 : Int32) x1 S2)
  else (
  fX7_dealt_186 k48 v2 v4 v5 (0 : Int32) x1 S2))))))
def fX7_dealt_48_b (k48 : Int32 → Int32 → Int32 → St → Rs) (v2 v3 v4 : Int32) (S : St) : Rs :=
  if (S.1 1) ≤ v4 then (
  some (v3, S))
  else (
  gA (inb v4 300) (
  if (S.2 2 (ix v4)) = (-1 : Int32) then (
  fX7_dealt_207 k48 v2 v3 v4 S)
  else (
  gA (nz (S.1 0)) (
  Lt (v2 - v2 / (S.1 0) * (S.1 0)) fun x1 =>
  gA (nz (S.1 0)) (
  Lt (v2 / (S.1 0)) fun x2 =>
  gA (inb x1 3) (
  gA (inb x1 3) (
  LtS (sA S 6 (ix x1) ((S.2 6 (ix x1)) + (1 : Int32))) fun S3 =>
  gA (inb x1 3) (
  Bd (fX7_room S3) fun r4 S5 =>
  if (S3.2 6 (ix x1)) ≤ r4 then (
  gA (inb v4 300) (
  gA (inb (S5.2 0 (ix v4)) 40) (
  if (((S5.2 7 (ix (S5.2 0 (ix v4)))) >>> (x1 &&& 31)) &&& (1 : Int32)) = 0 then (
  fX7_dealt_139 k48 x2 v4 x1 (1 : Int32) v3 S5)
  else (
  fX7_dealt_139 k48 x2 v4 x1 (0 : Int32) v3 S5))))
  else (
  some ((-1 : Int32), S5))))))))))
def fX7_dealt_48 : Nat → Int32 → Int32 → Int32 → St → Rs
  | 0 => fun _ _ _ _ => none
  | n + 1 => fX7_dealt_48_b (fX7_dealt_48 n)
def fX7_dealt_22_b (k22 : Int32 → Int32 → St → Rs) (v1 v2 : Int32) (S : St) : Rs :=
  if (40 : Int32) ≤ v2 then (
  fX7_dealt_48 FU v1 (0 : Int32) (0 : Int32) S)
  else (
  gA (inb v2 40) (
  LtS (sA S 7 (ix v2) (0 : Int32)) fun S1 =>
  k22 v1 (v2 + 1) S1))
def fX7_dealt_22 : Nat → Int32 → Int32 → St → Rs
  | 0 => fun _ _ _ => none
  | n + 1 => fX7_dealt_22_b (fX7_dealt_22 n)
def fX7_dealt_2_b (k2 : Int32 → Int32 → St → Rs) (v1 v2 : Int32) (S : St) : Rs :=
  if (3 : Int32) ≤ v2 then (
  fX7_dealt_22 FU v1 (0 : Int32) S)
  else (
  gA (inb v2 3) (
  LtS (sA S 6 (ix v2) (0 : Int32)) fun S1 =>
  k2 v1 (v2 + 1) S1))
def fX7_dealt_2 : Nat → Int32 → Int32 → St → Rs
  | 0 => fun _ _ _ => none
  | n + 1 => fX7_dealt_2_b (fX7_dealt_2 n)
def fX7_dealt (v1 : Int32) (S : St) : Rs :=
  fX7_dealt_2 FU v1 (0 : Int32) S
def fX7_best_21 (S : St) : Rs :=
  some ((-1 : Int32), S)
def fX7_best_84 (k52 : Int32 → Int32 → Int32 → St → Rs) (v1 v2 v3 : Int32) (S : St) : Rs :=
  k52 v1 v2 (v3 + 1) S
def fX7_best_81 (k52 : Int32 → Int32 → Int32 → St → Rs) (v1 v3 v4 : Int32) (S : St) : Rs :=
  fX7_best_84 k52 v1 v4 v3 S
def fX7_best_52_b (k52 : Int32 → Int32 → Int32 → St → Rs) (v1 v2 v3 : Int32) (S : St) : Rs :=
  if v1 ≤ v3 then (
  some (v2, S))
  else (
  Bd (fX7_dealt v3 S) fun r1 S2 =>
  if r1 = (-1 : Int32) then (
  fX7_best_84 k52 v1 v2 v3 S2)
  else (
  if v2 = (-1 : Int32) then (
  fX7_best_81 k52 v1 v3 r1 S2)
  else (
  if v2 ≤ r1 then (
  fX7_best_84 k52 v1 v2 v3 S2)
  else (
  fX7_best_81 k52 v1 v3 r1 S2))))
def fX7_best_52 : Nat → Int32 → Int32 → Int32 → St → Rs
  | 0 => fun _ _ _ _ => none
  | n + 1 => fX7_best_52_b (fX7_best_52 n)
def fX7_best_27_b (k27 : Int32 → Int32 → St → Rs) (v1 v2 : Int32) (S : St) : Rs :=
  if (S.1 2) ≤ v2 then (
  fX7_best_52 FU v1 (-1 : Int32) (0 : Int32) S)
  else (
  Lt (v1 * (S.1 0)) fun x1 =>
  k27 x1 (v2 + 1) S)
def fX7_best_27 : Nat → Int32 → Int32 → St → Rs
  | 0 => fun _ _ _ => none
  | n + 1 => fX7_best_27_b (fX7_best_27 n)
def fX7_best (S : St) : Rs :=
  Bd (fX7_in (S.1 2) (1 : Int32) (8 : Int32) S) fun r1 S2 =>
  if r1 = 0 then (
  fX7_best_21 S2)
  else (
  if (S2.1 0) ≤ (3 : Int32) then (
  fX7_best_27 FU (1 : Int32) (0 : Int32) S2)
  else (
  fX7_best_21 S2))
def fX7_runs_215 (k25 : Int32 → Int32 → St → Rs) (k185 : Int32 → Int32 → Int32 → St → Rs) (v1 v3 t0 : Int32) (S : St) : Rs :=
  gA (inb v3 40) (
  gA (inb v3 40) (
  LtS (sA S 8 (ix v3) (S.2 9 (ix v3))) fun S1 =>
  k185 v1 t0 (v3 + 1) S1))
def fX7_runs_210 (k25 : Int32 → Int32 → St → Rs) (k185 : Int32 → Int32 → Int32 → St → Rs) (v1 v3 : Int32) (S : St) : Rs :=
  fX7_runs_215 k25 k185 v1 v3 (1 : Int32) S
def fX7_runs_185_b (k25 : Int32 → Int32 → St → Rs) (k185 : Int32 → Int32 → Int32 → St → Rs) (v1 v2 v3 : Int32) (S : St) : Rs :=
  if (40 : Int32) ≤ v3 then (
  k25 v1 v2 S)
  else (
  if v2 = 0 then (
  gA (inb v3 40) (
  gA (inb v3 40) (
  if (S.2 9 (ix v3)) = (S.2 8 (ix v3)) then (
  fX7_runs_215 k25 k185 v1 v3 (0 : Int32) S)
  else (
  fX7_runs_210 k25 k185 v1 v3 S))))
  else (
  fX7_runs_210 k25 k185 v1 v3 S))
def fX7_runs_185 (k25 : Int32 → Int32 → St → Rs) : Nat → Int32 → Int32 → Int32 → St → Rs
  | 0 => fun _ _ _ _ => none
  | n + 1 => fX7_runs_185_b k25 (fX7_runs_185 k25 n)
def fX7_runs_177 (k25 : Int32 → Int32 → St → Rs) (k62 : Int32 → Int32 → Int32 → St → Rs) (v1 v2 v3 : Int32) (S : St) : Rs :=
  k62 v1 v2 (v3 + 1) S
def fX7_runs_130 (k25 : Int32 → Int32 → St → Rs) (k62 : Int32 → Int32 → Int32 → St → Rs) (v1 v2 v3 : Int32) (S : St) : Rs :=
  gA (inb v3 300) (
  gA (inb (S.2 0 (ix v3)) 40) (
  gA (inb v3 300) (
  gA (inb (S.2 1 (ix v3)) 40) (
  if (S.2 9 (ix (S.2 1 (ix v3)))) ≤ (S.2 8 (ix (S.2 0 (ix v3)))) then (
  fX7_runs_177 k25 k62 v1 v2 v3 S)
  else (
  gA (inb v3 300) (
  gA (inb v3 300) (
  gA (inb (S.2 0 (ix v3)) 40) (
  gA (inb (S.2 1 (ix v3)) 40) (
  LtS (sA S 9 (ix (S.2 1 (ix v3))) (S.2 8 (ix (S.2 0 (ix v3))))) fun S1 =>
  fX7_runs_177 k25 k62 v1 v2 v3 S1)))))))))
def fX7_runs_62_b (k25 : Int32 → Int32 → St → Rs) (k62 : Int32 → Int32 → Int32 → St → Rs) (v1 v2 v3 : Int32) (S : St) : Rs :=
  if (S.1 1) ≤ v3 then (
  fX7_runs_185 k25 FU v1 v2 (0 : Int32) S)
  else (
  gA (inb v3 300) (
  if (S.2 2 (ix v3)) = (-1 : Int32) then (
  fX7_runs_177 k25 k62 v1 v2 v3 S)
  else (
  gA (inb v3 300) (
  gA (inb (S.2 1 (ix v3)) 40) (
  gA (inb v3 300) (
  gA (inb (S.2 0 (ix v3)) 40) (
  if (S.2 9 (ix (S.2 0 (ix v3)))) ≤ (S.2 8 (ix (S.2 1 (ix v3)))) then (
  fX7_runs_130 k25 k62 v1 v2 v3 S)
  else (
  gA (inb v3 300) (
  gA (inb v3 300) (
  gA (inb (S.2 1 (ix v3)) 40) (
  gA (inb (S.2 0 (ix v3)) 40) (
  LtS (sA S 9 (ix (S.2 0 (ix v3))) (S.2 8 (ix (S.2 1 (ix v3))))) fun S1 =>
  fX7_runs_130 k25 k62 v1 v2 v3 S1))))))))))))
def fX7_runs_62 (k25 : Int32 → Int32 → St → Rs) : Nat → Int32 → Int32 → Int32 → St → Rs
  | 0 => fun _ _ _ _ => none
  | n + 1 => fX7_runs_62_b k25 (fX7_runs_62 k25 n)
def fX7_runs_36_b (k25 : Int32 → Int32 → St → Rs) (k36 : Int32 → Int32 → Int32 → St → Rs) (v1 v2 v3 : Int32) (S : St) : Rs :=
  if (40 : Int32) ≤ v3 then (
  fX7_runs_62 k25 FU v1 v2 (0 : Int32) S)
  else (
  gA (inb v3 40) (
  gA (inb v3 40) (
  LtS (sA S 9 (ix v3) (S.2 8 (ix v3))) fun S1 =>
  k36 v1 v2 (v3 + 1) S1)))
def fX7_runs_36 (k25 : Int32 → Int32 → St → Rs) : Nat → Int32 → Int32 → Int32 → St → Rs
  | 0 => fun _ _ _ _ => none
  | n + 1 => fX7_runs_36_b k25 (fX7_runs_36 k25 n)
def fX7_runs_25_b (k25 : Int32 → Int32 → St → Rs) (v1 v2 : Int32) (S : St) : Rs :=
  if v2 = 0 then (
  some (v1, S))
  else (
  fX7_runs_36 k25 FU (v1 + 1) (0 : Int32) (0 : Int32) S)
def fX7_runs_25 : Nat → Int32 → Int32 → St → Rs
  | 0 => fun _ _ _ => none
  | n + 1 => fX7_runs_25_b (fX7_runs_25 n)
def fX7_runs_2_b (k2 : Int32 → St → Rs) (v1 : Int32) (S : St) : Rs :=
  if (40 : Int32) ≤ v1 then (
  fX7_runs_25 FU (0 : Int32) (1 : Int32) S)
  else (
  gA (inb v1 40) (
  LtS (sA S 8 (ix v1) v1) fun S1 =>
  k2 (v1 + 1) S1))
def fX7_runs_2 : Nat → Int32 → St → Rs
  | 0 => fun _ _ => none
  | n + 1 => fX7_runs_2_b (fX7_runs_2 n)
def fX7_runs (S : St) : Rs :=
  fX7_runs_2 FU (0 : Int32) S
def fX7_part (v1 : Int32) (S : St) : Rs :=
  Bd (fX7_isPoint v1 S) fun r1 S2 =>
  if r1 = 0 then (
  some ((-1 : Int32), S2))
  else (
  Bd (fX7_runs S2) fun r3 S4 =>
  gA (inb v1 40) (
  some ((S4.2 8 (ix v1)), S4)))
def fX7_run_112 (t0 : Int32) (S : St) : Rs :=
  some (t0, S)
def fX7_run_82 (k24 : Int32 → Int32 → Int32 → Int32 → Int32 → St → Rs) (v1 v2 v3 v5 t0 t1 : Int32) (S : St) : Rs :=
  Lt (t1 + t0) fun x1 =>
  k24 v1 v2 v3 x1 (v5 + 1) S
def fX7_run_81 (k24 : Int32 → Int32 → Int32 → Int32 → Int32 → St → Rs) (v1 v2 v3 v5 t0 : Int32) (S : St) : Rs :=
  fX7_run_82 k24 v1 v2 v3 v5 (0 : Int32) t0 S
def fX7_run_56 (k24 : Int32 → Int32 → Int32 → Int32 → Int32 → St → Rs) (v1 v2 v4 v5 v6 t0 t1 : Int32) (S : St) : Rs :=
  Lt (t1 + t0) fun x1 =>
  if v6 ≤ 0 then (
  fX7_run_81 k24 v1 v2 x1 v5 v4 S)
  else (
  gA (inb v5 40) (
  if (S.2 8 (ix v5)) = v5 then (
  fX7_run_82 k24 v1 v2 x1 v5 (1 : Int32) v4 S)
  else (
  fX7_run_81 k24 v1 v2 x1 v5 v4 S)))
def fX7_run_24_b (k24 : Int32 → Int32 → Int32 → Int32 → Int32 → St → Rs) (v1 v2 v3 v4 v5 : Int32) (S : St) : Rs :=
  if (40 : Int32) ≤ v5 then (
  if v1 = 0 then (
  fX7_run_112 v2 S)
  else (
  if v1 = (1 : Int32) then (
  fX7_run_112 (v2 * v3) S)
  else (
  fX7_run_112 v4 S)))
  else (
  Bd (fX7_copiesOf v5 S) fun r1 S2 =>
  if r1 ≤ (1 : Int32) then (
  fX7_run_56 k24 v1 v2 v4 v5 r1 (0 : Int32) v3 S2)
  else (
  fX7_run_56 k24 v1 v2 v4 v5 r1 ((2 : Int32) * (r1 - (1 : Int32))) v3 S2))
def fX7_run_24 : Nat → Int32 → Int32 → Int32 → Int32 → Int32 → St → Rs
  | 0 => fun _ _ _ _ _ _ => none
  | n + 1 => fX7_run_24_b (fX7_run_24 n)
def fX7_run (v1 : Int32) (S : St) : Rs :=
  Bd (fX7_in v1 (0 : Int32) (2 : Int32) S) fun r1 S2 =>
  if r1 = 0 then (
  some ((-1 : Int32), S2))
  else (
  Bd (fX7_runs S2) fun r3 S4 =>
  fX7_run_24 FU v1 r3 (0 : Int32) (0 : Int32) (0 : Int32) S4)
def fX7_master_113 (k34 : Int32 → Int32 → Int32 → St → Rs) (v1 v2 v3 : Int32) (S : St) : Rs :=
  k34 v1 v2 (v3 + 1) S
def fX7_master_92 (k34 : Int32 → Int32 → Int32 → St → Rs) (k44 : Int32 → Int32 → Int32 → Int32 → St → Rs) (v1 v2 v3 v4 : Int32) (S : St) : Rs :=
  k44 v1 v2 v3 (v4 + 1) S
def fX7_master_89 (k34 : Int32 → Int32 → Int32 → St → Rs) (k44 : Int32 → Int32 → Int32 → Int32 → St → Rs) (v1 v3 v4 : Int32) (S : St) : Rs :=
  fX7_master_92 k34 k44 v1 v4 v3 v4 S
def fX7_master_44_b (k34 : Int32 → Int32 → Int32 → St → Rs) (k44 : Int32 → Int32 → Int32 → Int32 → St → Rs) (v1 v2 v3 v4 : Int32) (S : St) : Rs :=
  if (S.1 0) ≤ v4 then (
  if v2 = (-1 : Int32) then (
  fX7_master_113 k34 v1 v2 v3 S)
  else (
  gA (inb v2 8) (
  gA (inb v2 8) (
  LtS (sA S 10 (ix v2) ((S.2 10 (ix v2)) + (1 : Int32))) fun S1 =>
  fX7_master_113 k34 v1 v2 v3 S1))))
  else (
  gA (inb (((8 : Int32) * v3) + v4) 320) (
  if (S.2 4 (ix (((8 : Int32) * v3) + v4))) ≤ 0 then (
  fX7_master_92 k34 k44 v1 v2 v3 v4 S)
  else (
  if v2 = (-1 : Int32) then (
  fX7_master_89 k34 k44 v1 v3 v4 S)
  else (
  gA (inb v4 8) (
  gA (inb v2 8) (
  if (S.2 10 (ix v2)) ≤ (S.2 10 (ix v4)) then (
  fX7_master_92 k34 k44 v1 v2 v3 v4 S)
  else (
  fX7_master_89 k34 k44 v1 v3 v4 S)))))))
def fX7_master_44 (k34 : Int32 → Int32 → Int32 → St → Rs) : Nat → Int32 → Int32 → Int32 → Int32 → St → Rs
  | 0 => fun _ _ _ _ _ => none
  | n + 1 => fX7_master_44_b k34 (fX7_master_44 k34 n)
def fX7_master_34_b (k34 : Int32 → Int32 → Int32 → St → Rs) (v1 v2 v3 : Int32) (S : St) : Rs :=
  if v1 < v3 then (
  some (v2, S))
  else (
  fX7_master_44 k34 FU v1 (-1 : Int32) v3 (0 : Int32) S)
def fX7_master_34 : Nat → Int32 → Int32 → Int32 → St → Rs
  | 0 => fun _ _ _ _ => none
  | n + 1 => fX7_master_34_b (fX7_master_34 n)
def fX7_master_11_b (k11 : Int32 → Int32 → St → Rs) (v1 v2 : Int32) (S : St) : Rs :=
  if (8 : Int32) ≤ v2 then (
  fX7_master_34 FU v1 (-1 : Int32) (0 : Int32) S)
  else (
  gA (inb v2 8) (
  LtS (sA S 10 (ix v2) (0 : Int32)) fun S1 =>
  k11 v1 (v2 + 1) S1))
def fX7_master_11 : Nat → Int32 → Int32 → St → Rs
  | 0 => fun _ _ _ => none
  | n + 1 => fX7_master_11_b (fX7_master_11 n)
def fX7_master (v1 : Int32) (S : St) : Rs :=
  Bd (fX7_isPoint v1 S) fun r1 S2 =>
  if r1 = 0 then (
  some ((-1 : Int32), S2))
  else (
  fX7_master_11 FU v1 (0 : Int32) S2)
def fX7_count_116 (k91 : Int32 → Int32 → St → Rs) (v2 v3 : Int32) (S : St) : Rs :=
  k91 v2 (v3 + 1) S
def fX7_count_91_b (k91 : Int32 → Int32 → St → Rs) (v2 v3 : Int32) (S : St) : Rs :=
  if (S.1 0) ≤ v3 then (
  some (v2, S))
  else (
  gA (inb v3 8) (
  if v2 ≤ (S.2 3 (ix v3)) then (
  fX7_count_116 k91 v2 v3 S)
  else (
  gA (inb v3 8) (
  Lt (S.2 3 (ix v3)) fun x1 =>
  fX7_count_116 k91 x1 v3 S))))
def fX7_count_91 : Nat → Int32 → Int32 → St → Rs
  | 0 => fun _ _ _ => none
  | n + 1 => fX7_count_91_b (fX7_count_91 n)
def fX7_count_146 (k126 : Int32 → Int32 → St → Rs) (v3 t0 t1 : Int32) (S : St) : Rs :=
  Lt (t1 + t0) fun x1 =>
  k126 x1 (v3 + 1) S
def fX7_count_126_b (k126 : Int32 → Int32 → St → Rs) (v2 v3 : Int32) (S : St) : Rs :=
  if (40 : Int32) ≤ v3 then (
  some (v2, S))
  else (
  Bd (fX7_copiesOf v3 S) fun r1 S2 =>
  if r1 ≤ 0 then (
  fX7_count_146 k126 v3 (0 : Int32) v2 S2)
  else (
  fX7_count_146 k126 v3 (1 : Int32) v2 S2))
def fX7_count_126 : Nat → Int32 → Int32 → St → Rs
  | 0 => fun _ _ _ => none
  | n + 1 => fX7_count_126_b (fX7_count_126 n)
def fX7_count (v1 : Int32) (S : St) : Rs :=
  if v1 = 0 then (
  some ((S.1 0), S))
  else (if v1 = 1 then (
  some ((S.1 1), S))
  else (if v1 = 2 then (
  some ((S.1 2), S))
  else (if v1 = 3 then (
  some ((S.1 7), S))
  else (if v1 = 4 then (
  Bd (fX7_greatest S) fun r1 S2 =>
  some (r1, S2))
  else (if v1 = 5 then (
  fX7_count_91 FU (300 : Int32) (0 : Int32) S)
  else (if v1 = 6 then (
  fX7_count_126 FU (0 : Int32) (0 : Int32) S)
  else (if v1 = 7 then (
  some ((S.1 6), S))
  else (if v1 = 8 then (
  some ((S.1 4), S))
  else (if v1 = 9 then (
  some ((S.1 5), S))
  else (if v1 = 10 then (
  some ((S.1 3), S))
  else (
  some ((-1 : Int32), S))))))))))))
