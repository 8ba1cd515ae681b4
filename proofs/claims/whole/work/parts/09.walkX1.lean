/-! walks of the class -/
section
variable {D : va_G} {a : Nat → Nat} {cA cZ : ClassId} {p : Program} {l : Launch} {e : Env} {s : State} {m : MethodId} {args : Array Value} {below : List Frame} {meth : Method} {c : Code} {A : Nat → Prop}

theorem dJ7_fill_53178_0 : decode cJ7_fill_53178 0 = .ok (.iconst 0, 1) := by decide +kernel
theorem dJ7_fill_53178_1 : decode cJ7_fill_53178 1 = .ok (.istore_n 2, 1) := by decide +kernel
theorem dJ7_fill_53178_2 : decode cJ7_fill_53178 2 = .ok (.aload_n 0, 1) := by decide +kernel
theorem dJ7_fill_53178_3 : decode cJ7_fill_53178 3 = .ok (.arraylength, 1) := by decide +kernel
theorem dJ7_fill_53178_4 : decode cJ7_fill_53178 4 = .ok (.istore_n 3, 1) := by decide +kernel
theorem dJ7_fill_53178_5 : decode cJ7_fill_53178 5 = .ok (.iload_n 2, 1) := by decide +kernel
theorem dJ7_fill_53178_6 : decode cJ7_fill_53178 6 = .ok (.iload_n 3, 1) := by decide +kernel
theorem dJ7_fill_53178_7 : decode cJ7_fill_53178 7 = .ok (.if_icmp .ge 13, 3) := by decide +kernel
theorem dJ7_fill_53178_10 : decode cJ7_fill_53178 10 = .ok (.aload_n 0, 1) := by decide +kernel
theorem dJ7_fill_53178_11 : decode cJ7_fill_53178 11 = .ok (.iload_n 2, 1) := by decide +kernel
theorem dJ7_fill_53178_12 : decode cJ7_fill_53178 12 = .ok (.iload_n 1, 1) := by decide +kernel
theorem dJ7_fill_53178_13 : decode cJ7_fill_53178 13 = .ok (.iastore, 1) := by decide +kernel
theorem dJ7_fill_53178_14 : decode cJ7_fill_53178 14 = .ok (.iinc 2 1, 3) := by decide +kernel
theorem dJ7_fill_53178_17 : decode cJ7_fill_53178 17 = .ok (.goto (-12), 3) := by decide +kernel
theorem dJ7_fill_53178_20 : decode cJ7_fill_53178 20 = .ok (.return_, 1) := by decide +kernel
set_option maxHeartbeats 4000000 in
set_option maxRecDepth 100000 in
theorem uJ7_fill_53178_5_b (C : CX D [(cA, .int)] p s m args meth c A cJ7_fill_53178 4 RJ7 none) (k5 : Int32 → Int32 → Int32 → St → Rs) (h5 : ∀ (v1 v2 v3 : Int32) (S : St), RU D (wX a cA) p l e 1 s m args below meth c A 4 (QV D (wX a cA) [(cA, .int)] A) (k5 v1 v2 v3 S) 5 [] [(0, .ref (a 20)), (1, .int v1), (2, .int v2), (3, .int v3)] S) (v1 v2 v3 : Int32) (S : St) : RU D (wX a cA) p l e 1 s m args below meth c A 4 (QV D (wX a cA) [(cA, .int)] A) (fJ7_fill_53178_5_b k5 v1 v2 v3 S) 5 [] [(0, .ref (a 20)), (1, .int v1), (2, .int v2), (3, .int v3)] S := by
  unfold fJ7_fill_53178_5_b
  refine R_iload_n C dJ7_fill_53178_5 rfl 2 rfl ?_
  refine R_iload_n C dJ7_fill_53178_6 rfl 3 rfl ?_
  refine R_icmp_ge (tgt := 20) C dJ7_fill_53178_7 (by decide) ?_ ?_
  · exact R_retv C dJ7_fill_53178_20
  · refine R_aload_n C dJ7_fill_53178_10 rfl 0 rfl ?_
    refine R_iload_n C dJ7_fill_53178_11 rfl 2 rfl ?_
    refine R_iload_n C dJ7_fill_53178_12 rfl 1 rfl ?_
    refine svX13 C dJ7_fill_53178_13 ?_
    refine R_letS (fun S1 => ?_)
    refine R_iinc (v := v2 + 1) (lv' := [(2, .int (v2 + 1)), (0, .ref (a 20)), (1, .int v1), (3, .int v3)]) C dJ7_fill_53178_14 2 rfl rfl (by decide) rfl ?_
    refine R_goto (tgt := 5) C dJ7_fill_53178_17 (by decide) ?_
    refine R_sub [1, 2, 0, 3] rfl ?_
    exact h5 v1 (v2 + 1) v3 S1
set_option maxHeartbeats 4000000 in
set_option maxRecDepth 100000 in
theorem uJ7_fill_53178_5 (C : CX D [(cA, .int)] p s m args meth c A cJ7_fill_53178 4 RJ7 none) : ∀ (n : Nat) (v1 v2 v3 : Int32) (S : St), RU D (wX a cA) p l e 1 s m args below meth c A 4 (QV D (wX a cA) [(cA, .int)] A) (fJ7_fill_53178_5 n v1 v2 v3 S) 5 [] [(0, .ref (a 20)), (1, .int v1), (2, .int v2), (3, .int v3)] S := by
  intro n
  induction n with
  | zero => intro v1 v2 v3 S; exact R_none
  | succ n ih => intro v1 v2 v3 S; exact uJ7_fill_53178_5_b C _ ih v1 v2 v3 S
set_option maxHeartbeats 4000000 in
set_option maxRecDepth 100000 in
theorem uJ7_fill_53178 (C : CX D [(cA, .int)] p s m args meth c A cJ7_fill_53178 4 RJ7 none) (v1 : Int32) (S : St) : RU D (wX a cA) p l e 1 s m args below meth c A 4 (QV D (wX a cA) [(cA, .int)] A) (fJ7_fill_53178 v1 S) 0 [] [(0, .ref (a 20)), (1, .int v1)] S := by
  unfold fJ7_fill_53178
  refine R_iconst (v := (0 : Int32)) C dJ7_fill_53178_0 (by decide) ?_
  refine R_istore_n (lv' := [(2, .int (0 : Int32)), (0, .ref (a 20)), (1, .int v1)]) C dJ7_fill_53178_1 rfl (by decide) rfl ?_
  refine R_aload_n C dJ7_fill_53178_2 rfl 1 rfl ?_
  refine lnX13 C dJ7_fill_53178_3 ?_
  refine R_istore_n (lv' := [(3, .int (8 : Int32)), (2, .int (0 : Int32)), (0, .ref (a 20)), (1, .int v1)]) C dJ7_fill_53178_4 rfl (by decide) rfl ?_
  refine R_sub [2, 3, 1, 0] rfl ?_
  exact uJ7_fill_53178_5 C FU v1 (0 : Int32) (8 : Int32) S
set_option maxHeartbeats 4000000 in
set_option maxRecDepth 100000 in
theorem kJ7_fill_53178 (l : Launch) (D : va_G) (a : Nat → Nat) (cA : ClassId) (S : St) (v1 : Int32) : CV l D (wX a cA) [(cA, .int)] yJ7_fill_53178 (.code yJ7_fill_53178 cJ7_fill_53178 4 none) 1 [.ref (a 20), .int v1] (fJ7_fill_53178 v1 S) S := CV_of rfl (Nat.le_of_ble_eq_true rfl) (fun p e s m args below meth c A C => uJ7_fill_53178 C v1 S)
theorem dX6_isPoint_0 : decode cX6_isPoint 0 = .ok (.iload_n 0, 1) := by decide +kernel
theorem dX6_isPoint_1 : decode cX6_isPoint 1 = .ok (.ifCond .lt 13, 3) := by decide +kernel
theorem dX6_isPoint_4 : decode cX6_isPoint 4 = .ok (.iload_n 0, 1) := by decide +kernel
theorem dX6_isPoint_5 : decode cX6_isPoint 5 = .ok (.bipush 40, 2) := by decide +kernel
theorem dX6_isPoint_7 : decode cX6_isPoint 7 = .ok (.if_icmp .ge 7, 3) := by decide +kernel
theorem dX6_isPoint_10 : decode cX6_isPoint 10 = .ok (.iconst 1, 1) := by decide +kernel
theorem dX6_isPoint_11 : decode cX6_isPoint 11 = .ok (.goto 4, 3) := by decide +kernel
theorem dX6_isPoint_14 : decode cX6_isPoint 14 = .ok (.iconst 0, 1) := by decide +kernel
theorem dX6_isPoint_15 : decode cX6_isPoint 15 = .ok (.ireturn, 1) := by decide +kernel
set_option maxHeartbeats 4000000 in
set_option maxRecDepth 100000 in
theorem uX6_isPoint_15 (C : CX D [(cA, .int)] p s m args meth c A cX6_isPoint 1 RX6 (some .boolean)) (t0 : Int32) (S : St) : RU D (wX a cA) p l e 1 s m args below meth c A 1 (QI D (wX a cA) [(cA, .int)] A) (fX6_isPoint_15 t0 S) 15 [.int t0] [] S := by
  unfold fX6_isPoint_15
  exact R_retz C dX6_isPoint_15
set_option maxHeartbeats 4000000 in
set_option maxRecDepth 100000 in
theorem uX6_isPoint_14 (C : CX D [(cA, .int)] p s m args meth c A cX6_isPoint 1 RX6 (some .boolean)) (S : St) : RU D (wX a cA) p l e 1 s m args below meth c A 1 (QI D (wX a cA) [(cA, .int)] A) (fX6_isPoint_14 S) 14 [] [] S := by
  unfold fX6_isPoint_14
  refine R_iconst (v := (0 : Int32)) C dX6_isPoint_14 (by decide) ?_
  exact uX6_isPoint_15 C (0 : Int32) S
set_option maxHeartbeats 4000000 in
set_option maxRecDepth 100000 in
theorem uX6_isPoint (C : CX D [(cA, .int)] p s m args meth c A cX6_isPoint 1 RX6 (some .boolean)) (v0 : Int32) (S : St) : RU D (wX a cA) p l e 1 s m args below meth c A 1 (QI D (wX a cA) [(cA, .int)] A) (fX6_isPoint v0 S) 0 [] [(0, .int v0)] S := by
  unfold fX6_isPoint
  refine R_iload_n C dX6_isPoint_0 rfl 0 rfl ?_
  refine R_if_lt (tgt := 14) C dX6_isPoint_1 (by decide) ?_ ?_
  · refine R_sub [] rfl ?_
    exact uX6_isPoint_14 C S
  · refine R_iload_n C dX6_isPoint_4 rfl 0 rfl ?_
    refine R_bipush (v := (40 : Int32)) C dX6_isPoint_5 (by decide) ?_
    refine R_icmp_ge (tgt := 14) C dX6_isPoint_7 (by decide) ?_ ?_
    · refine R_sub [] rfl ?_
      exact uX6_isPoint_14 C S
    · refine R_iconst (v := (1 : Int32)) C dX6_isPoint_10 (by decide) ?_
      refine R_goto (tgt := 15) C dX6_isPoint_11 (by decide) ?_
      refine R_sub [] rfl ?_
      exact uX6_isPoint_15 C (1 : Int32) S
set_option maxHeartbeats 4000000 in
set_option maxRecDepth 100000 in
theorem kX6_isPoint (l : Launch) (D : va_G) (a : Nat → Nat) (cA : ClassId) (S : St) (v0 : Int32) : CI l D (wX a cA) [(cA, .int)] yX6_isPoint (.code yX6_isPoint cX6_isPoint 1 (some .boolean)) 1 [.int v0] (fX6_isPoint v0 S) S := CI_of rfl (Nat.le_of_ble_eq_true rfl) (fun p e s m args below meth c A C => uX6_isPoint C v0 S)
theorem dX4_addLine_0 : decode cX4_addLine 0 = .ok (.aload_n 0, 1) := by decide +kernel
theorem dX4_addLine_1 : decode cX4_addLine 1 = .ok (.getfield 37, 3) := by decide +kernel
theorem dX4_addLine_4 : decode cX4_addLine 4 = .ok (.istore_n 3, 1) := by decide +kernel
theorem dX4_addLine_5 : decode cX4_addLine 5 = .ok (.aload_n 0, 1) := by decide +kernel
theorem dX4_addLine_6 : decode cX4_addLine 6 = .ok (.getfield 9, 3) := by decide +kernel
theorem dX4_addLine_9 : decode cX4_addLine 9 = .ok (.iload_n 3, 1) := by decide +kernel
theorem dX4_addLine_10 : decode cX4_addLine 10 = .ok (.iload_n 1, 1) := by decide +kernel
theorem dX4_addLine_11 : decode cX4_addLine 11 = .ok (.iastore, 1) := by decide +kernel
theorem dX4_addLine_12 : decode cX4_addLine 12 = .ok (.aload_n 0, 1) := by decide +kernel
theorem dX4_addLine_13 : decode cX4_addLine 13 = .ok (.getfield 15, 3) := by decide +kernel
theorem dX4_addLine_16 : decode cX4_addLine 16 = .ok (.iload_n 3, 1) := by decide +kernel
theorem dX4_addLine_17 : decode cX4_addLine 17 = .ok (.iload_n 2, 1) := by decide +kernel
theorem dX4_addLine_18 : decode cX4_addLine 18 = .ok (.iastore, 1) := by decide +kernel
theorem dX4_addLine_19 : decode cX4_addLine 19 = .ok (.aload_n 0, 1) := by decide +kernel
theorem dX4_addLine_20 : decode cX4_addLine 20 = .ok (.getfield 18, 3) := by decide +kernel
theorem dX4_addLine_23 : decode cX4_addLine 23 = .ok (.iload_n 3, 1) := by decide +kernel
theorem dX4_addLine_24 : decode cX4_addLine 24 = .ok (.iconst (-1), 1) := by decide +kernel
theorem dX4_addLine_25 : decode cX4_addLine 25 = .ok (.iastore, 1) := by decide +kernel
theorem dX4_addLine_26 : decode cX4_addLine 26 = .ok (.aload_n 0, 1) := by decide +kernel
theorem dX4_addLine_27 : decode cX4_addLine 27 = .ok (.dup, 1) := by decide +kernel
theorem dX4_addLine_28 : decode cX4_addLine 28 = .ok (.getfield 37, 3) := by decide +kernel
theorem dX4_addLine_31 : decode cX4_addLine 31 = .ok (.iconst 1, 1) := by decide +kernel
theorem dX4_addLine_32 : decode cX4_addLine 32 = .ok (.iadd, 1) := by decide +kernel
theorem dX4_addLine_33 : decode cX4_addLine 33 = .ok (.putfield 37, 3) := by decide +kernel
theorem dX4_addLine_36 : decode cX4_addLine 36 = .ok (.iload_n 3, 1) := by decide +kernel
theorem dX4_addLine_37 : decode cX4_addLine 37 = .ok (.ireturn, 1) := by decide +kernel
set_option maxHeartbeats 4000000 in
set_option maxRecDepth 100000 in
theorem uX4_addLine (C : CX D [(cA, .int)] p s m args meth c A cX4_addLine 4 RX4 (some .int)) (v1 v2 : Int32) (S : St) : RU D (wX a cA) p l e 1 s m args below meth c A 4 (QI D (wX a cA) [(cA, .int)] A) (fX4_addLine v1 v2 S) 0 [] [(0, .ref (a 1)), (1, .int v1), (2, .int v2)] S := by
  unfold fX4_addLine
  refine R_aload_n C dX4_addLine_0 rfl 0 rfl ?_
  refine gtX_X4_came C wd_1_64 dX4_addLine_1 ?_
  refine R_let (fun x1 => ?_)
  refine R_istore_n (lv' := [(3, .int x1), (0, .ref (a 1)), (1, .int v1), (2, .int v2)]) C dX4_addLine_4 rfl (by decide) rfl ?_
  refine R_aload_n C dX4_addLine_5 rfl 1 rfl ?_
  refine gtX_X4_firstEnd C wd_1_32 dX4_addLine_6 ?_
  refine R_iload_n C dX4_addLine_9 rfl 0 rfl ?_
  refine R_iload_n C dX4_addLine_10 rfl 2 rfl ?_
  refine svX1 C dX4_addLine_11 ?_
  refine R_letS (fun S2 => ?_)
  refine R_aload_n C dX4_addLine_12 rfl 1 rfl ?_
  refine gtX_X4_secondEnd C wd_1_37 dX4_addLine_13 ?_
  refine R_iload_n C dX4_addLine_16 rfl 0 rfl ?_
  refine R_iload_n C dX4_addLine_17 rfl 3 rfl ?_
  refine svX2 C dX4_addLine_18 ?_
  refine R_letS (fun S3 => ?_)
  refine R_aload_n C dX4_addLine_19 rfl 1 rfl ?_
  refine gtX_X4_hostOf C wd_1_42 dX4_addLine_20 ?_
  refine R_iload_n C dX4_addLine_23 rfl 0 rfl ?_
  refine R_iconst (v := (-1 : Int32)) C dX4_addLine_24 (by decide) ?_
  refine svX3 C dX4_addLine_25 ?_
  refine R_letS (fun S4 => ?_)
  refine R_aload_n C dX4_addLine_26 rfl 1 rfl ?_
  refine R_dup C dX4_addLine_27 rfl ?_
  refine gtX_X4_came C wd_1_64 dX4_addLine_28 ?_
  refine R_iconst (v := (1 : Int32)) C dX4_addLine_31 (by decide) ?_
  refine R_iadd C dX4_addLine_32 ?_
  refine ptX_X4_came C wd_1_64 dX4_addLine_33 ?_
  refine R_letS (fun S5 => ?_)
  refine R_iload_n C dX4_addLine_36 rfl 0 rfl ?_
  exact R_reti C dX4_addLine_37
set_option maxHeartbeats 4000000 in
set_option maxRecDepth 100000 in
theorem kX4_addLine (l : Launch) (D : va_G) (a : Nat → Nat) (cA : ClassId) (S : St) (v1 v2 : Int32) : CI l D (wX a cA) [(cA, .int)] yX4_addLine (.code yX4_addLine cX4_addLine 4 (some .int)) 1 [.ref (a 1), .int v1, .int v2] (fX4_addLine v1 v2 S) S := CI_of rfl (Nat.le_of_ble_eq_true rfl) (fun p e s m args below meth c A C => uX4_addLine C v1 v2 S)
theorem dX1_roomFor_0 : decode cX1_roomFor 0 = .ok (.bipush 100, 2) := by decide +kernel
theorem dX1_roomFor_2 : decode cX1_roomFor 2 = .ok (.aload_n 0, 1) := by decide +kernel
theorem dX1_roomFor_3 : decode cX1_roomFor 3 = .ok (.getfield 21, 3) := by decide +kernel
theorem dX1_roomFor_6 : decode cX1_roomFor 6 = .ok (.getfield 25, 3) := by decide +kernel
theorem dX1_roomFor_9 : decode cX1_roomFor 9 = .ok (.imul, 1) := by decide +kernel
theorem dX1_roomFor_10 : decode cX1_roomFor 10 = .ok (.istore_n 2, 1) := by decide +kernel
theorem dX1_roomFor_11 : decode cX1_roomFor 11 = .ok (.iload_n 2, 1) := by decide +kernel
theorem dX1_roomFor_12 : decode cX1_roomFor 12 = .ok (.ifCond .gt 5, 3) := by decide +kernel
theorem dX1_roomFor_15 : decode cX1_roomFor 15 = .ok (.iconst 0, 1) := by decide +kernel
theorem dX1_roomFor_16 : decode cX1_roomFor 16 = .ok (.ireturn, 1) := by decide +kernel
theorem dX1_roomFor_17 : decode cX1_roomFor 17 = .ok (.iload_n 1, 1) := by decide +kernel
theorem dX1_roomFor_18 : decode cX1_roomFor 18 = .ok (.bipush 100, 2) := by decide +kernel
theorem dX1_roomFor_20 : decode cX1_roomFor 20 = .ok (.aload_n 0, 1) := by decide +kernel
theorem dX1_roomFor_21 : decode cX1_roomFor 21 = .ok (.getfield 15, 3) := by decide +kernel
theorem dX1_roomFor_24 : decode cX1_roomFor 24 = .ok (.iadd, 1) := by decide +kernel
theorem dX1_roomFor_25 : decode cX1_roomFor 25 = .ok (.imul, 1) := by decide +kernel
theorem dX1_roomFor_26 : decode cX1_roomFor 26 = .ok (.iload_n 2, 1) := by decide +kernel
theorem dX1_roomFor_27 : decode cX1_roomFor 27 = .ok (.iadd, 1) := by decide +kernel
theorem dX1_roomFor_28 : decode cX1_roomFor 28 = .ok (.iconst 1, 1) := by decide +kernel
theorem dX1_roomFor_29 : decode cX1_roomFor 29 = .ok (.isub, 1) := by decide +kernel
theorem dX1_roomFor_30 : decode cX1_roomFor 30 = .ok (.iload_n 2, 1) := by decide +kernel
theorem dX1_roomFor_31 : decode cX1_roomFor 31 = .ok (.idiv, 1) := by decide +kernel
theorem dX1_roomFor_32 : decode cX1_roomFor 32 = .ok (.ireturn, 1) := by decide +kernel
set_option maxHeartbeats 4000000 in
set_option maxRecDepth 100000 in
theorem uX1_roomFor (C : CX D [(cA, .int)] p s m args meth c A cX1_roomFor 3 RX1 (some .int)) (v1 : Int32) (S : St) : RU D (wX a cA) p l e 1 s m args below meth c A 3 (QI D (wX a cA) [(cA, .int)] A) (fX1_roomFor v1 S) 0 [] [(0, .ref (a 2)), (1, .int v1)] S := by
  unfold fX1_roomFor
  refine R_bipush (v := (100 : Int32)) C dX1_roomFor_0 (by decide) ?_
  refine R_aload_n C dX1_roomFor_2 rfl 0 rfl ?_
  refine gtX_X1_net C wd_1_103 dX1_roomFor_3 ?_
  refine gtX_X4_hosts C wd_1_57 dX1_roomFor_6 ?_
  refine R_imul C dX1_roomFor_9 ?_
  refine R_let (fun x1 => ?_)
  refine R_istore_n (lv' := [(2, .int x1), (0, .ref (a 2)), (1, .int v1)]) C dX1_roomFor_10 rfl (by decide) rfl ?_
  refine R_iload_n C dX1_roomFor_11 rfl 0 rfl ?_
  refine R_if_gt (tgt := 17) C dX1_roomFor_12 (by decide) ?_ ?_
  · refine R_iload_n C dX1_roomFor_17 rfl 2 rfl ?_
    refine R_bipush (v := (100 : Int32)) C dX1_roomFor_18 (by decide) ?_
    refine R_aload_n C dX1_roomFor_20 rfl 1 rfl ?_
    refine gtX_X1_slack C wd_1_106 dX1_roomFor_21 ?_
    refine R_iadd C dX1_roomFor_24 ?_
    refine R_imul C dX1_roomFor_25 ?_
    refine R_iload_n C dX1_roomFor_26 rfl 0 rfl ?_
    refine R_iadd C dX1_roomFor_27 ?_
    refine R_iconst (v := (1 : Int32)) C dX1_roomFor_28 (by decide) ?_
    refine R_isub C dX1_roomFor_29 ?_
    refine R_iload_n C dX1_roomFor_30 rfl 0 rfl ?_
    refine R_idiv C dX1_roomFor_31 ?_
    exact R_reti C dX1_roomFor_32
  · refine R_iconst (v := (0 : Int32)) C dX1_roomFor_15 (by decide) ?_
    exact R_reti C dX1_roomFor_16
set_option maxHeartbeats 4000000 in
set_option maxRecDepth 100000 in
theorem kX1_roomFor (l : Launch) (D : va_G) (a : Nat → Nat) (cA : ClassId) (S : St) (v1 : Int32) : CI l D (wX a cA) [(cA, .int)] yX1_roomFor (.code yX1_roomFor cX1_roomFor 3 (some .int)) 1 [.ref (a 2), .int v1] (fX1_roomFor v1 S) S := CI_of rfl (Nat.le_of_ble_eq_true rfl) (fun p e s m args below meth c A C => uX1_roomFor C v1 S)
theorem dX4_greatestLoad_0 : decode cX4_greatestLoad 0 = .ok (.iconst 0, 1) := by decide +kernel
theorem dX4_greatestLoad_1 : decode cX4_greatestLoad 1 = .ok (.istore_n 1, 1) := by decide +kernel
theorem dX4_greatestLoad_2 : decode cX4_greatestLoad 2 = .ok (.iconst 0, 1) := by decide +kernel
theorem dX4_greatestLoad_3 : decode cX4_greatestLoad 3 = .ok (.istore_n 2, 1) := by decide +kernel
theorem dX4_greatestLoad_4 : decode cX4_greatestLoad 4 = .ok (.iload_n 2, 1) := by decide +kernel
theorem dX4_greatestLoad_5 : decode cX4_greatestLoad 5 = .ok (.aload_n 0, 1) := by decide +kernel
theorem dX4_greatestLoad_6 : decode cX4_greatestLoad 6 = .ok (.getfield 33, 3) := by decide +kernel
theorem dX4_greatestLoad_9 : decode cX4_greatestLoad 9 = .ok (.if_icmp .ge 20, 3) := by decide +kernel
theorem dX4_greatestLoad_12 : decode cX4_greatestLoad 12 = .ok (.iload_n 1, 1) := by decide +kernel
theorem dX4_greatestLoad_13 : decode cX4_greatestLoad 13 = .ok (.aload_n 0, 1) := by decide +kernel
theorem dX4_greatestLoad_14 : decode cX4_greatestLoad 14 = .ok (.getfield 21, 3) := by decide +kernel
theorem dX4_greatestLoad_17 : decode cX4_greatestLoad 17 = .ok (.iload_n 2, 1) := by decide +kernel
theorem dX4_greatestLoad_18 : decode cX4_greatestLoad 18 = .ok (.iaload, 1) := by decide +kernel
theorem dX4_greatestLoad_19 : decode cX4_greatestLoad 19 = .ok (.invokestatic 66, 3) := by decide +kernel
theorem dX4_greatestLoad_22 : decode cX4_greatestLoad 22 = .ok (.istore_n 1, 1) := by decide +kernel
theorem dX4_greatestLoad_23 : decode cX4_greatestLoad 23 = .ok (.iinc 2 1, 3) := by decide +kernel
theorem dX4_greatestLoad_26 : decode cX4_greatestLoad 26 = .ok (.goto (-22), 3) := by decide +kernel
theorem dX4_greatestLoad_29 : decode cX4_greatestLoad 29 = .ok (.iload_n 1, 1) := by decide +kernel
theorem dX4_greatestLoad_30 : decode cX4_greatestLoad 30 = .ok (.ireturn, 1) := by decide +kernel
set_option maxHeartbeats 4000000 in
set_option maxRecDepth 100000 in
theorem uX4_greatestLoad_4_b (C : CX D [(cA, .int)] p s m args meth c A cX4_greatestLoad 3 RX4 (some .int)) (k4 : Int32 → Int32 → St → Rs) (h4 : ∀ (v1 v2 : Int32) (S : St), RU D (wX a cA) p l e 1 s m args below meth c A 3 (QI D (wX a cA) [(cA, .int)] A) (k4 v1 v2 S) 4 [] [(0, .ref (a 1)), (1, .int v1), (2, .int v2)] S) (v1 v2 : Int32) (S : St) : RU D (wX a cA) p l e 1 s m args below meth c A 3 (QI D (wX a cA) [(cA, .int)] A) (fX4_greatestLoad_4_b k4 v1 v2 S) 4 [] [(0, .ref (a 1)), (1, .int v1), (2, .int v2)] S := by
  unfold fX4_greatestLoad_4_b
  refine R_iload_n C dX4_greatestLoad_4 rfl 2 rfl ?_
  refine R_aload_n C dX4_greatestLoad_5 rfl 0 rfl ?_
  refine gtX_X4_hosts C wd_1_56 dX4_greatestLoad_6 ?_
  refine R_icmp_ge (tgt := 29) C dX4_greatestLoad_9 (by decide) ?_ ?_
  · refine R_iload_n C dX4_greatestLoad_29 rfl 1 rfl ?_
    exact R_reti C dX4_greatestLoad_30
  · refine R_iload_n C dX4_greatestLoad_12 rfl 1 rfl ?_
    refine R_aload_n C dX4_greatestLoad_13 rfl 0 rfl ?_
    refine gtX_X4_loads C wd_1_45 dX4_greatestLoad_14 ?_
    refine R_iload_n C dX4_greatestLoad_17 rfl 2 rfl ?_
    refine ldX4 C dX4_greatestLoad_18 ?_
    refine R_mmax C wd_2_20 wd_1_26 wd_1_3 wd_1_27 (by omega) (Nat.le_of_ble_eq_true rfl) dX4_greatestLoad_19 ?_
    refine R_let (fun x1 => ?_)
    refine R_istore_n (lv' := [(1, .int x1), (0, .ref (a 1)), (2, .int v2)]) C dX4_greatestLoad_22 rfl (by decide) rfl ?_
    refine R_iinc (v := v2 + 1) (lv' := [(2, .int (v2 + 1)), (1, .int x1), (0, .ref (a 1))]) C dX4_greatestLoad_23 2 rfl rfl (by decide) rfl ?_
    refine R_goto (tgt := 4) C dX4_greatestLoad_26 (by decide) ?_
    refine R_sub [2, 1, 0] rfl ?_
    exact h4 x1 (v2 + 1) S
set_option maxHeartbeats 4000000 in
set_option maxRecDepth 100000 in
theorem uX4_greatestLoad_4 (C : CX D [(cA, .int)] p s m args meth c A cX4_greatestLoad 3 RX4 (some .int)) : ∀ (n : Nat) (v1 v2 : Int32) (S : St), RU D (wX a cA) p l e 1 s m args below meth c A 3 (QI D (wX a cA) [(cA, .int)] A) (fX4_greatestLoad_4 n v1 v2 S) 4 [] [(0, .ref (a 1)), (1, .int v1), (2, .int v2)] S := by
  intro n
  induction n with
  | zero => intro v1 v2 S; exact R_none
  | succ n ih => intro v1 v2 S; exact uX4_greatestLoad_4_b C _ ih v1 v2 S
set_option maxHeartbeats 4000000 in
set_option maxRecDepth 100000 in
theorem uX4_greatestLoad (C : CX D [(cA, .int)] p s m args meth c A cX4_greatestLoad 3 RX4 (some .int)) (S : St) : RU D (wX a cA) p l e 1 s m args below meth c A 3 (QI D (wX a cA) [(cA, .int)] A) (fX4_greatestLoad S) 0 [] [(0, .ref (a 1))] S := by
  unfold fX4_greatestLoad
  refine R_iconst (v := (0 : Int32)) C dX4_greatestLoad_0 (by decide) ?_
  refine R_istore_n (lv' := [(1, .int (0 : Int32)), (0, .ref (a 1))]) C dX4_greatestLoad_1 rfl (by decide) rfl ?_
  refine R_iconst (v := (0 : Int32)) C dX4_greatestLoad_2 (by decide) ?_
  refine R_istore_n (lv' := [(2, .int (0 : Int32)), (1, .int (0 : Int32)), (0, .ref (a 1))]) C dX4_greatestLoad_3 rfl (by decide) rfl ?_
  refine R_sub [2, 1, 0] rfl ?_
  exact uX4_greatestLoad_4 C FU (0 : Int32) (0 : Int32) S
set_option maxHeartbeats 4000000 in
set_option maxRecDepth 100000 in
theorem kX4_greatestLoad (l : Launch) (D : va_G) (a : Nat → Nat) (cA : ClassId) (S : St) : CI l D (wX a cA) [(cA, .int)] yX4_greatestLoad (.code yX4_greatestLoad cX4_greatestLoad 3 (some .int)) 1 [.ref (a 1)] (fX4_greatestLoad S) S := CI_of rfl (Nat.le_of_ble_eq_true rfl) (fun p e s m args below meth c A C => uX4_greatestLoad C S)
theorem dX4_hasCopy_0 : decode cX4_hasCopy 0 = .ok (.aload_n 0, 1) := by decide +kernel
theorem dX4_hasCopy_1 : decode cX4_hasCopy 1 = .ok (.getfield 27, 3) := by decide +kernel
theorem dX4_hasCopy_4 : decode cX4_hasCopy 4 = .ok (.iload_n 1, 1) := by decide +kernel
theorem dX4_hasCopy_5 : decode cX4_hasCopy 5 = .ok (.iaload, 1) := by decide +kernel
theorem dX4_hasCopy_6 : decode cX4_hasCopy 6 = .ok (.iload_n 2, 1) := by decide +kernel
theorem dX4_hasCopy_7 : decode cX4_hasCopy 7 = .ok (.ishr, 1) := by decide +kernel
theorem dX4_hasCopy_8 : decode cX4_hasCopy 8 = .ok (.iconst 1, 1) := by decide +kernel
theorem dX4_hasCopy_9 : decode cX4_hasCopy 9 = .ok (.iand, 1) := by decide +kernel
theorem dX4_hasCopy_10 : decode cX4_hasCopy 10 = .ok (.iconst 1, 1) := by decide +kernel
theorem dX4_hasCopy_11 : decode cX4_hasCopy 11 = .ok (.if_icmp .ne 7, 3) := by decide +kernel
theorem dX4_hasCopy_14 : decode cX4_hasCopy 14 = .ok (.iconst 1, 1) := by decide +kernel
theorem dX4_hasCopy_15 : decode cX4_hasCopy 15 = .ok (.goto 4, 3) := by decide +kernel
theorem dX4_hasCopy_18 : decode cX4_hasCopy 18 = .ok (.iconst 0, 1) := by decide +kernel
theorem dX4_hasCopy_19 : decode cX4_hasCopy 19 = .ok (.ireturn, 1) := by decide +kernel
set_option maxHeartbeats 4000000 in
set_option maxRecDepth 100000 in
theorem uX4_hasCopy_19 (C : CX D [(cA, .int)] p s m args meth c A cX4_hasCopy 3 RX4 (some .boolean)) (t0 : Int32) (S : St) : RU D (wX a cA) p l e 1 s m args below meth c A 3 (QI D (wX a cA) [(cA, .int)] A) (fX4_hasCopy_19 t0 S) 19 [.int t0] [] S := by
  unfold fX4_hasCopy_19
  exact R_retz C dX4_hasCopy_19
set_option maxHeartbeats 4000000 in
set_option maxRecDepth 100000 in
theorem uX4_hasCopy (C : CX D [(cA, .int)] p s m args meth c A cX4_hasCopy 3 RX4 (some .boolean)) (v1 v2 : Int32) (S : St) : RU D (wX a cA) p l e 1 s m args below meth c A 3 (QI D (wX a cA) [(cA, .int)] A) (fX4_hasCopy v1 v2 S) 0 [] [(0, .ref (a 1)), (1, .int v1), (2, .int v2)] S := by
  unfold fX4_hasCopy
  refine R_aload_n C dX4_hasCopy_0 rfl 0 rfl ?_
  refine gtX_X4_copyBits C wd_1_53 dX4_hasCopy_1 ?_
  refine R_iload_n C dX4_hasCopy_4 rfl 1 rfl ?_
  refine ldX6 C dX4_hasCopy_5 ?_
  refine R_iload_n C dX4_hasCopy_6 rfl 2 rfl ?_
  refine R_ishr C dX4_hasCopy_7 ?_
  refine R_iconst (v := (1 : Int32)) C dX4_hasCopy_8 (by decide) ?_
  refine R_iand C dX4_hasCopy_9 ?_
  refine R_iconst (v := (1 : Int32)) C dX4_hasCopy_10 (by decide) ?_
  refine R_icmp_ne (tgt := 18) C dX4_hasCopy_11 (by decide) ?_ ?_
  · refine R_iconst (v := (1 : Int32)) C dX4_hasCopy_14 (by decide) ?_
    refine R_goto (tgt := 19) C dX4_hasCopy_15 (by decide) ?_
    refine R_sub [] rfl ?_
    exact uX4_hasCopy_19 C (1 : Int32) S
  · refine R_iconst (v := (0 : Int32)) C dX4_hasCopy_18 (by decide) ?_
    refine R_sub [] rfl ?_
    exact uX4_hasCopy_19 C (0 : Int32) S
set_option maxHeartbeats 4000000 in
set_option maxRecDepth 100000 in
theorem kX4_hasCopy (l : Launch) (D : va_G) (a : Nat → Nat) (cA : ClassId) (S : St) (v1 v2 : Int32) : CI l D (wX a cA) [(cA, .int)] yX4_hasCopy (.code yX4_hasCopy cX4_hasCopy 3 (some .boolean)) 1 [.ref (a 1), .int v1, .int v2] (fX4_hasCopy v1 v2 S) S := CI_of rfl (Nat.le_of_ble_eq_true rfl) (fun p e s m args below meth c A C => uX4_hasCopy C v1 v2 S)
theorem dX1_scoreOfCopies_0 : decode cX1_scoreOfCopies 0 = .ok (.aload_n 0, 1) := by decide +kernel
theorem dX1_scoreOfCopies_1 : decode cX1_scoreOfCopies 1 = .ok (.getfield 21, 3) := by decide +kernel
theorem dX1_scoreOfCopies_4 : decode cX1_scoreOfCopies 4 = .ok (.getfield 67, 3) := by decide +kernel
theorem dX1_scoreOfCopies_7 : decode cX1_scoreOfCopies 7 = .ok (.iload_n 2, 1) := by decide +kernel
theorem dX1_scoreOfCopies_8 : decode cX1_scoreOfCopies 8 = .ok (.iaload, 1) := by decide +kernel
theorem dX1_scoreOfCopies_9 : decode cX1_scoreOfCopies 9 = .ok (.iconst 1, 1) := by decide +kernel
theorem dX1_scoreOfCopies_10 : decode cX1_scoreOfCopies 10 = .ok (.iadd, 1) := by decide +kernel
theorem dX1_scoreOfCopies_11 : decode cX1_scoreOfCopies 11 = .ok (.istore 4, 2) := by decide +kernel
theorem dX1_scoreOfCopies_13 : decode cX1_scoreOfCopies 13 = .ok (.aload_n 0, 1) := by decide +kernel
theorem dX1_scoreOfCopies_14 : decode cX1_scoreOfCopies 14 = .ok (.getfield 21, 3) := by decide +kernel
theorem dX1_scoreOfCopies_17 : decode cX1_scoreOfCopies 17 = .ok (.getfield 67, 3) := by decide +kernel
theorem dX1_scoreOfCopies_20 : decode cX1_scoreOfCopies 20 = .ok (.iload_n 3, 1) := by decide +kernel
theorem dX1_scoreOfCopies_21 : decode cX1_scoreOfCopies 21 = .ok (.iaload, 1) := by decide +kernel
theorem dX1_scoreOfCopies_22 : decode cX1_scoreOfCopies 22 = .ok (.iconst 1, 1) := by decide +kernel
theorem dX1_scoreOfCopies_23 : decode cX1_scoreOfCopies 23 = .ok (.iadd, 1) := by decide +kernel
theorem dX1_scoreOfCopies_24 : decode cX1_scoreOfCopies 24 = .ok (.istore 5, 2) := by decide +kernel
theorem dX1_scoreOfCopies_26 : decode cX1_scoreOfCopies 26 = .ok (.iconst 2, 1) := by decide +kernel
theorem dX1_scoreOfCopies_27 : decode cX1_scoreOfCopies 27 = .ok (.iload 4, 2) := by decide +kernel
theorem dX1_scoreOfCopies_29 : decode cX1_scoreOfCopies 29 = .ok (.iload 5, 2) := by decide +kernel
theorem dX1_scoreOfCopies_31 : decode cX1_scoreOfCopies 31 = .ok (.iadd, 1) := by decide +kernel
theorem dX1_scoreOfCopies_32 : decode cX1_scoreOfCopies 32 = .ok (.imul, 1) := by decide +kernel
theorem dX1_scoreOfCopies_33 : decode cX1_scoreOfCopies 33 = .ok (.istore 6, 2) := by decide +kernel
theorem dX1_scoreOfCopies_35 : decode cX1_scoreOfCopies 35 = .ok (.iconst 0, 1) := by decide +kernel
theorem dX1_scoreOfCopies_36 : decode cX1_scoreOfCopies 36 = .ok (.istore 7, 2) := by decide +kernel
theorem dX1_scoreOfCopies_38 : decode cX1_scoreOfCopies 38 = .ok (.aload_n 0, 1) := by decide +kernel
theorem dX1_scoreOfCopies_39 : decode cX1_scoreOfCopies 39 = .ok (.getfield 21, 3) := by decide +kernel
theorem dX1_scoreOfCopies_42 : decode cX1_scoreOfCopies 42 = .ok (.iload_n 2, 1) := by decide +kernel
theorem dX1_scoreOfCopies_43 : decode cX1_scoreOfCopies 43 = .ok (.iload_n 1, 1) := by decide +kernel
theorem dX1_scoreOfCopies_44 : decode cX1_scoreOfCopies 44 = .ok (.invokevirtual 70, 3) := by decide +kernel
theorem dX1_scoreOfCopies_47 : decode cX1_scoreOfCopies 47 = .ok (.ifCond .eq 13, 3) := by decide +kernel
theorem dX1_scoreOfCopies_50 : decode cX1_scoreOfCopies 50 = .ok (.iload 7, 2) := by decide +kernel
theorem dX1_scoreOfCopies_52 : decode cX1_scoreOfCopies 52 = .ok (.iload 6, 2) := by decide +kernel
theorem dX1_scoreOfCopies_54 : decode cX1_scoreOfCopies 54 = .ok (.iload 4, 2) := by decide +kernel
theorem dX1_scoreOfCopies_56 : decode cX1_scoreOfCopies 56 = .ok (.isub, 1) := by decide +kernel
theorem dX1_scoreOfCopies_57 : decode cX1_scoreOfCopies 57 = .ok (.iadd, 1) := by decide +kernel
theorem dX1_scoreOfCopies_58 : decode cX1_scoreOfCopies 58 = .ok (.istore 7, 2) := by decide +kernel
theorem dX1_scoreOfCopies_60 : decode cX1_scoreOfCopies 60 = .ok (.aload_n 0, 1) := by decide +kernel
theorem dX1_scoreOfCopies_61 : decode cX1_scoreOfCopies 61 = .ok (.getfield 21, 3) := by decide +kernel
theorem dX1_scoreOfCopies_64 : decode cX1_scoreOfCopies 64 = .ok (.iload_n 3, 1) := by decide +kernel
theorem dX1_scoreOfCopies_65 : decode cX1_scoreOfCopies 65 = .ok (.iload_n 1, 1) := by decide +kernel
theorem dX1_scoreOfCopies_66 : decode cX1_scoreOfCopies 66 = .ok (.invokevirtual 70, 3) := by decide +kernel
theorem dX1_scoreOfCopies_69 : decode cX1_scoreOfCopies 69 = .ok (.ifCond .eq 13, 3) := by decide +kernel
theorem dX1_scoreOfCopies_72 : decode cX1_scoreOfCopies 72 = .ok (.iload 7, 2) := by decide +kernel
theorem dX1_scoreOfCopies_74 : decode cX1_scoreOfCopies 74 = .ok (.iload 6, 2) := by decide +kernel
theorem dX1_scoreOfCopies_76 : decode cX1_scoreOfCopies 76 = .ok (.iload 5, 2) := by decide +kernel
theorem dX1_scoreOfCopies_78 : decode cX1_scoreOfCopies 78 = .ok (.isub, 1) := by decide +kernel
theorem dX1_scoreOfCopies_79 : decode cX1_scoreOfCopies 79 = .ok (.iadd, 1) := by decide +kernel
theorem dX1_scoreOfCopies_80 : decode cX1_scoreOfCopies 80 = .ok (.istore 7, 2) := by decide +kernel
theorem dX1_scoreOfCopies_82 : decode cX1_scoreOfCopies 82 = .ok (.iload 7, 2) := by decide +kernel
theorem dX1_scoreOfCopies_84 : decode cX1_scoreOfCopies 84 = .ok (.ireturn, 1) := by decide +kernel
set_option maxHeartbeats 4000000 in
set_option maxRecDepth 100000 in
theorem uX1_scoreOfCopies_82 (C : CX D [(cA, .int)] p s m args meth c A cX1_scoreOfCopies 8 RX1 (some .int)) (v7 : Int32) (S : St) : RU D (wX a cA) p l e 2 s m args below meth c A 8 (QI D (wX a cA) [(cA, .int)] A) (fX1_scoreOfCopies_82 v7 S) 82 [] [(7, .int v7)] S := by
  unfold fX1_scoreOfCopies_82
  refine R_iload C dX1_scoreOfCopies_82 0 rfl ?_
  exact R_reti C dX1_scoreOfCopies_84
set_option maxHeartbeats 4000000 in
set_option maxRecDepth 100000 in
theorem uX1_scoreOfCopies_60 (C : CX D [(cA, .int)] p s m args meth c A cX1_scoreOfCopies 8 RX1 (some .int)) (v1 v3 v5 v6 v7 : Int32) (S : St) : RU D (wX a cA) p l e 2 s m args below meth c A 8 (QI D (wX a cA) [(cA, .int)] A) (fX1_scoreOfCopies_60 v1 v3 v5 v6 v7 S) 60 [] [(0, .ref (a 2)), (1, .int v1), (3, .int v3), (5, .int v5), (6, .int v6), (7, .int v7)] S := by
  unfold fX1_scoreOfCopies_60
  refine R_aload_n C dX1_scoreOfCopies_60 rfl 0 rfl ?_
  refine gtX_X1_net C wd_1_103 dX1_scoreOfCopies_61 ?_
  refine R_iload_n C dX1_scoreOfCopies_64 rfl 2 rfl ?_
  refine R_iload_n C dX1_scoreOfCopies_65 rfl 1 rfl ?_
  refine R_calli (As := [.int v3, .int v1]) (st := []) C (kX4_hasCopy l D a cA S v3 v1) (by decide) (by decide) wd_2_29 kwX4_hasCopy 1 rfl rfl rfl rfl (Nat.le_of_ble_eq_true rfl) dX1_scoreOfCopies_66 (fun r1 S2 => ?_)
  refine R_if_eq (tgt := 82) C dX1_scoreOfCopies_69 (by decide) ?_ ?_
  · refine R_sub [5] rfl ?_
    exact uX1_scoreOfCopies_82 C v7 S2
  · refine R_iload C dX1_scoreOfCopies_72 5 rfl ?_
    refine R_iload C dX1_scoreOfCopies_74 4 rfl ?_
    refine R_iload C dX1_scoreOfCopies_76 3 rfl ?_
    refine R_isub C dX1_scoreOfCopies_78 ?_
    refine R_iadd C dX1_scoreOfCopies_79 ?_
    refine R_let (fun x3 => ?_)
    refine R_istore (lv' := [(7, .int x3), (0, .ref (a 2)), (1, .int v1), (3, .int v3), (5, .int v5), (6, .int v6)]) C dX1_scoreOfCopies_80 (by decide) rfl ?_
    refine R_sub [0] rfl ?_
    exact uX1_scoreOfCopies_82 C x3 S2
set_option maxHeartbeats 4000000 in
set_option maxRecDepth 100000 in
theorem uX1_scoreOfCopies (C : CX D [(cA, .int)] p s m args meth c A cX1_scoreOfCopies 8 RX1 (some .int)) (v1 v2 v3 : Int32) (S : St) : RU D (wX a cA) p l e 2 s m args below meth c A 8 (QI D (wX a cA) [(cA, .int)] A) (fX1_scoreOfCopies v1 v2 v3 S) 0 [] [(0, .ref (a 2)), (1, .int v1), (2, .int v2), (3, .int v3)] S := by
  unfold fX1_scoreOfCopies
  refine R_aload_n C dX1_scoreOfCopies_0 rfl 0 rfl ?_
  refine gtX_X1_net C wd_1_103 dX1_scoreOfCopies_1 ?_
  refine gtX_X4_degrees C wd_1_50 dX1_scoreOfCopies_4 ?_
  refine R_iload_n C dX1_scoreOfCopies_7 rfl 2 rfl ?_
  refine ldX5 C dX1_scoreOfCopies_8 ?_
  refine R_iconst (v := (1 : Int32)) C dX1_scoreOfCopies_9 (by decide) ?_
  refine R_iadd C dX1_scoreOfCopies_10 ?_
  refine R_let (fun x1 => ?_)
  refine R_istore (lv' := [(4, .int x1), (0, .ref (a 2)), (1, .int v1), (2, .int v2), (3, .int v3)]) C dX1_scoreOfCopies_11 (by decide) rfl ?_
  refine R_aload_n C dX1_scoreOfCopies_13 rfl 1 rfl ?_
  refine gtX_X1_net C wd_1_103 dX1_scoreOfCopies_14 ?_
  refine gtX_X4_degrees C wd_1_50 dX1_scoreOfCopies_17 ?_
  refine R_iload_n C dX1_scoreOfCopies_20 rfl 4 rfl ?_
  refine ldX5 C dX1_scoreOfCopies_21 ?_
  refine R_iconst (v := (1 : Int32)) C dX1_scoreOfCopies_22 (by decide) ?_
  refine R_iadd C dX1_scoreOfCopies_23 ?_
  refine R_let (fun x2 => ?_)
  refine R_istore (lv' := [(5, .int x2), (4, .int x1), (0, .ref (a 2)), (1, .int v1), (2, .int v2), (3, .int v3)]) C dX1_scoreOfCopies_24 (by decide) rfl ?_
  refine R_iconst (v := (2 : Int32)) C dX1_scoreOfCopies_26 (by decide) ?_
  refine R_iload C dX1_scoreOfCopies_27 1 rfl ?_
  refine R_iload C dX1_scoreOfCopies_29 0 rfl ?_
  refine R_iadd C dX1_scoreOfCopies_31 ?_
  refine R_imul C dX1_scoreOfCopies_32 ?_
  refine R_let (fun x3 => ?_)
  refine R_istore (lv' := [(6, .int x3), (5, .int x2), (4, .int x1), (0, .ref (a 2)), (1, .int v1), (2, .int v2), (3, .int v3)]) C dX1_scoreOfCopies_33 (by decide) rfl ?_
  refine R_iconst (v := (0 : Int32)) C dX1_scoreOfCopies_35 (by decide) ?_
  refine R_istore (lv' := [(7, .int (0 : Int32)), (6, .int x3), (5, .int x2), (4, .int x1), (0, .ref (a 2)), (1, .int v1), (2, .int v2), (3, .int v3)]) C dX1_scoreOfCopies_36 (by decide) rfl ?_
  refine R_aload_n C dX1_scoreOfCopies_38 rfl 4 rfl ?_
  refine gtX_X1_net C wd_1_103 dX1_scoreOfCopies_39 ?_
  refine R_iload_n C dX1_scoreOfCopies_42 rfl 6 rfl ?_
  refine R_iload_n C dX1_scoreOfCopies_43 rfl 5 rfl ?_
  refine R_calli (As := [.int v2, .int v1]) (st := []) C (kX4_hasCopy l D a cA S v2 v1) (by decide) (by decide) wd_2_29 kwX4_hasCopy 1 rfl rfl rfl rfl (Nat.le_of_ble_eq_true rfl) dX1_scoreOfCopies_44 (fun r4 S5 => ?_)
  refine R_if_eq (tgt := 60) C dX1_scoreOfCopies_47 (by decide) ?_ ?_
  · refine R_sub [4, 5, 7, 2, 1, 0] rfl ?_
    exact uX1_scoreOfCopies_60 C v1 v3 x2 x3 (0 : Int32) S5
  · refine R_iload C dX1_scoreOfCopies_50 0 rfl ?_
    refine R_iload C dX1_scoreOfCopies_52 1 rfl ?_
    refine R_iload C dX1_scoreOfCopies_54 3 rfl ?_
    refine R_isub C dX1_scoreOfCopies_56 ?_
    refine R_iadd C dX1_scoreOfCopies_57 ?_
    refine R_let (fun x6 => ?_)
    refine R_istore (lv' := [(7, .int x6), (6, .int x3), (5, .int x2), (4, .int x1), (0, .ref (a 2)), (1, .int v1), (2, .int v2), (3, .int v3)]) C dX1_scoreOfCopies_58 (by decide) rfl ?_
    refine R_sub [4, 5, 7, 2, 1, 0] rfl ?_
    exact uX1_scoreOfCopies_60 C v1 v3 x2 x3 x6 S5
set_option maxHeartbeats 4000000 in
set_option maxRecDepth 100000 in
theorem kX1_scoreOfCopies (l : Launch) (D : va_G) (a : Nat → Nat) (cA : ClassId) (S : St) (v1 v2 v3 : Int32) : CI l D (wX a cA) [(cA, .int)] yX1_scoreOfCopies (.code yX1_scoreOfCopies cX1_scoreOfCopies 8 (some .int)) 2 [.ref (a 2), .int v1, .int v2, .int v3] (fX1_scoreOfCopies v1 v2 v3 S) S := CI_of rfl (Nat.le_of_ble_eq_true rfl) (fun p e s m args below meth c A C => uX1_scoreOfCopies C v1 v2 v3 S)
theorem dX1_scoreOf_0 : decode cX1_scoreOf 0 = .ok (.aload_n 0, 1) := by decide +kernel
theorem dX1_scoreOf_1 : decode cX1_scoreOf 1 = .ok (.getfield 9, 3) := by decide +kernel
theorem dX1_scoreOf_4 : decode cX1_scoreOf 4 = .ok (.lookupswitch 62 #[(0, 28), (1, 31)], 28) := by decide +kernel
theorem dX1_scoreOf_32 : decode cX1_scoreOf 32 = .ok (.iload 4, 2) := by decide +kernel
theorem dX1_scoreOf_34 : decode cX1_scoreOf 34 = .ok (.ireturn, 1) := by decide +kernel
theorem dX1_scoreOf_35 : decode cX1_scoreOf 35 = .ok (.aload_n 0, 1) := by decide +kernel
theorem dX1_scoreOf_36 : decode cX1_scoreOf 36 = .ok (.getfield 21, 3) := by decide +kernel
theorem dX1_scoreOf_39 : decode cX1_scoreOf 39 = .ok (.getfield 25, 3) := by decide +kernel
theorem dX1_scoreOf_42 : decode cX1_scoreOf 42 = .ok (.ifCond .le 22, 3) := by decide +kernel
theorem dX1_scoreOf_45 : decode cX1_scoreOf 45 = .ok (.iload_n 2, 1) := by decide +kernel
theorem dX1_scoreOf_46 : decode cX1_scoreOf 46 = .ok (.iload_n 3, 1) := by decide +kernel
theorem dX1_scoreOf_47 : decode cX1_scoreOf 47 = .ok (.iadd, 1) := by decide +kernel
theorem dX1_scoreOf_48 : decode cX1_scoreOf 48 = .ok (.aload_n 0, 1) := by decide +kernel
theorem dX1_scoreOf_49 : decode cX1_scoreOf 49 = .ok (.getfield 21, 3) := by decide +kernel
theorem dX1_scoreOf_52 : decode cX1_scoreOf 52 = .ok (.getfield 25, 3) := by decide +kernel
theorem dX1_scoreOf_55 : decode cX1_scoreOf 55 = .ok (.irem, 1) := by decide +kernel
theorem dX1_scoreOf_56 : decode cX1_scoreOf 56 = .ok (.iload_n 1, 1) := by decide +kernel
theorem dX1_scoreOf_57 : decode cX1_scoreOf 57 = .ok (.if_icmp .ne 7, 3) := by decide +kernel
theorem dX1_scoreOf_60 : decode cX1_scoreOf 60 = .ok (.iconst 1, 1) := by decide +kernel
theorem dX1_scoreOf_61 : decode cX1_scoreOf 61 = .ok (.goto 4, 3) := by decide +kernel
theorem dX1_scoreOf_64 : decode cX1_scoreOf 64 = .ok (.iconst 0, 1) := by decide +kernel
theorem dX1_scoreOf_65 : decode cX1_scoreOf 65 = .ok (.ireturn, 1) := by decide +kernel
theorem dX1_scoreOf_66 : decode cX1_scoreOf 66 = .ok (.bipush 10, 2) := by decide +kernel
theorem dX1_scoreOf_68 : decode cX1_scoreOf 68 = .ok (.aload_n 0, 1) := by decide +kernel
theorem dX1_scoreOf_69 : decode cX1_scoreOf 69 = .ok (.iload_n 1, 1) := by decide +kernel
theorem dX1_scoreOf_70 : decode cX1_scoreOf 70 = .ok (.iload_n 2, 1) := by decide +kernel
theorem dX1_scoreOf_71 : decode cX1_scoreOf 71 = .ok (.iload_n 3, 1) := by decide +kernel
theorem dX1_scoreOf_72 : decode cX1_scoreOf 72 = .ok (.invokevirtual 63, 3) := by decide +kernel
theorem dX1_scoreOf_75 : decode cX1_scoreOf 75 = .ok (.imul, 1) := by decide +kernel
theorem dX1_scoreOf_76 : decode cX1_scoreOf 76 = .ok (.aload_n 0, 1) := by decide +kernel
theorem dX1_scoreOf_77 : decode cX1_scoreOf 77 = .ok (.getfield 18, 3) := by decide +kernel
theorem dX1_scoreOf_80 : decode cX1_scoreOf 80 = .ok (.iload 4, 2) := by decide +kernel
theorem dX1_scoreOf_82 : decode cX1_scoreOf 82 = .ok (.imul, 1) := by decide +kernel
theorem dX1_scoreOf_83 : decode cX1_scoreOf 83 = .ok (.iadd, 1) := by decide +kernel
theorem dX1_scoreOf_84 : decode cX1_scoreOf 84 = .ok (.ireturn, 1) := by decide +kernel
set_option maxHeartbeats 4000000 in
set_option maxRecDepth 100000 in
theorem uX1_scoreOf_65 (C : CX D [(cA, .int)] p s m args meth c A cX1_scoreOf 5 RX1 (some .int)) (t0 : Int32) (S : St) : RU D (wX a cA) p l e 3 s m args below meth c A 5 (QI D (wX a cA) [(cA, .int)] A) (fX1_scoreOf_65 t0 S) 65 [.int t0] [] S := by
  unfold fX1_scoreOf_65
  exact R_reti C dX1_scoreOf_65
set_option maxHeartbeats 4000000 in
set_option maxRecDepth 100000 in
theorem uX1_scoreOf_64 (C : CX D [(cA, .int)] p s m args meth c A cX1_scoreOf 5 RX1 (some .int)) (S : St) : RU D (wX a cA) p l e 3 s m args below meth c A 5 (QI D (wX a cA) [(cA, .int)] A) (fX1_scoreOf_64 S) 64 [] [] S := by
  unfold fX1_scoreOf_64
  refine R_iconst (v := (0 : Int32)) C dX1_scoreOf_64 (by decide) ?_
  exact uX1_scoreOf_65 C (0 : Int32) S
set_option maxHeartbeats 4000000 in
set_option maxRecDepth 100000 in
theorem uX1_scoreOf (C : CX D [(cA, .int)] p s m args meth c A cX1_scoreOf 5 RX1 (some .int)) (v1 v2 v3 v4 : Int32) (S : St) : RU D (wX a cA) p l e 3 s m args below meth c A 5 (QI D (wX a cA) [(cA, .int)] A) (fX1_scoreOf v1 v2 v3 v4 S) 0 [] [(0, .ref (a 2)), (1, .int v1), (2, .int v2), (3, .int v3), (4, .int v4)] S := by
  unfold fX1_scoreOf
  refine R_aload_n C dX1_scoreOf_0 rfl 0 rfl ?_
  refine gtX_X1_ruleNow C wd_1_104 dX1_scoreOf_1 ?_
  refine R_eq (v := 0) (fun _ => ?_) (fun q0 => ?_)
  · refine R_lsw (tgt := 32) C dX1_scoreOf_4 (by decide) (by decide +kernel : _ = (28 : Int)) (by decide) ?_
    refine R_iload C dX1_scoreOf_32 4 rfl ?_
    exact R_reti C dX1_scoreOf_34
  refine R_eq (v := 1) (fun _ => ?_) (fun q1 => ?_)
  · refine R_lsw (tgt := 35) C dX1_scoreOf_4 (by decide) (by decide +kernel : _ = (31 : Int)) (by decide) ?_
    refine R_aload_n C dX1_scoreOf_35 rfl 0 rfl ?_
    refine gtX_X1_net C wd_1_103 dX1_scoreOf_36 ?_
    refine gtX_X4_hosts C wd_1_57 dX1_scoreOf_39 ?_
    refine R_if_le (tgt := 64) C dX1_scoreOf_42 (by decide) ?_ ?_
    · refine R_sub [] rfl ?_
      exact uX1_scoreOf_64 C S
    · refine R_iload_n C dX1_scoreOf_45 rfl 2 rfl ?_
      refine R_iload_n C dX1_scoreOf_46 rfl 3 rfl ?_
      refine R_iadd C dX1_scoreOf_47 ?_
      refine R_aload_n C dX1_scoreOf_48 rfl 0 rfl ?_
      refine gtX_X1_net C wd_1_103 dX1_scoreOf_49 ?_
      refine gtX_X4_hosts C wd_1_57 dX1_scoreOf_52 ?_
      refine R_irem C dX1_scoreOf_55 ?_
      refine R_iload_n C dX1_scoreOf_56 rfl 1 rfl ?_
      refine R_icmp_ne (tgt := 64) C dX1_scoreOf_57 (by decide) ?_ ?_
      · refine R_iconst (v := (1 : Int32)) C dX1_scoreOf_60 (by decide) ?_
        refine R_goto (tgt := 65) C dX1_scoreOf_61 (by decide) ?_
        refine R_sub [] rfl ?_
        exact uX1_scoreOf_65 C (1 : Int32) S
      · refine R_sub [] rfl ?_
        exact uX1_scoreOf_64 C S
  refine R_lsw (tgt := 66) C dX1_scoreOf_4 (by decide) (off := 62) ((lv_osw q0 rfl).trans ((lv_osw q1 rfl).trans (rfl))) (by decide) ?_
  refine R_bipush (v := (10 : Int32)) C dX1_scoreOf_66 (by decide) ?_
  refine R_aload_n C dX1_scoreOf_68 rfl 0 rfl ?_
  refine R_iload_n C dX1_scoreOf_69 rfl 1 rfl ?_
  refine R_iload_n C dX1_scoreOf_70 rfl 2 rfl ?_
  refine R_iload_n C dX1_scoreOf_71 rfl 3 rfl ?_
  refine R_calli (As := [.int v1, .int v2, .int v3]) (st := [.int (10 : Int32)]) C (kX1_scoreOfCopies l D a cA S v1 v2 v3) (by decide) (by decide) wd_2_25 kwX1_scoreOfCopies 2 rfl rfl rfl rfl (Nat.le_of_ble_eq_true rfl) dX1_scoreOf_72 (fun r1 S2 => ?_)
  refine R_imul C dX1_scoreOf_75 ?_
  refine R_aload_n C dX1_scoreOf_76 rfl 0 rfl ?_
  refine gtX_X1_lean C wd_1_108 dX1_scoreOf_77 ?_
  refine R_iload C dX1_scoreOf_80 4 rfl ?_
  refine R_imul C dX1_scoreOf_82 ?_
  refine R_iadd C dX1_scoreOf_83 ?_
  exact R_reti C dX1_scoreOf_84
set_option maxHeartbeats 4000000 in
set_option maxRecDepth 100000 in
theorem kX1_scoreOf (l : Launch) (D : va_G) (a : Nat → Nat) (cA : ClassId) (S : St) (v1 v2 v3 v4 : Int32) : CI l D (wX a cA) [(cA, .int)] yX1_scoreOf (.code yX1_scoreOf cX1_scoreOf 5 (some .int)) 3 [.ref (a 2), .int v1, .int v2, .int v3, .int v4] (fX1_scoreOf v1 v2 v3 v4 S) S := CI_of rfl (Nat.le_of_ble_eq_true rfl) (fun p e s m args below meth c A C => uX1_scoreOf C v1 v2 v3 v4 S)
theorem dX1_chooseHost_0 : decode cX1_chooseHost 0 = .ok (.aload_n 0, 1) := by decide +kernel
theorem dX1_chooseHost_1 : decode cX1_chooseHost 1 = .ok (.aload_n 0, 1) := by decide +kernel
theorem dX1_chooseHost_2 : decode cX1_chooseHost 2 = .ok (.getfield 21, 3) := by decide +kernel
theorem dX1_chooseHost_5 : decode cX1_chooseHost 5 = .ok (.getfield 45, 3) := by decide +kernel
theorem dX1_chooseHost_8 : decode cX1_chooseHost 8 = .ok (.iconst 1, 1) := by decide +kernel
theorem dX1_chooseHost_9 : decode cX1_chooseHost 9 = .ok (.iadd, 1) := by decide +kernel
theorem dX1_chooseHost_10 : decode cX1_chooseHost 10 = .ok (.invokevirtual 48, 3) := by decide +kernel
theorem dX1_chooseHost_13 : decode cX1_chooseHost 13 = .ok (.istore_n 3, 1) := by decide +kernel
theorem dX1_chooseHost_14 : decode cX1_chooseHost 14 = .ok (.aload_n 0, 1) := by decide +kernel
theorem dX1_chooseHost_15 : decode cX1_chooseHost 15 = .ok (.getfield 21, 3) := by decide +kernel
theorem dX1_chooseHost_18 : decode cX1_chooseHost 18 = .ok (.invokevirtual 52, 3) := by decide +kernel
theorem dX1_chooseHost_21 : decode cX1_chooseHost 21 = .ok (.istore 4, 2) := by decide +kernel
theorem dX1_chooseHost_23 : decode cX1_chooseHost 23 = .ok (.iconst (-1), 1) := by decide +kernel
theorem dX1_chooseHost_24 : decode cX1_chooseHost 24 = .ok (.istore 5, 2) := by decide +kernel
theorem dX1_chooseHost_26 : decode cX1_chooseHost 26 = .ok (.iconst 0, 1) := by decide +kernel
theorem dX1_chooseHost_27 : decode cX1_chooseHost 27 = .ok (.istore 6, 2) := by decide +kernel
theorem dX1_chooseHost_29 : decode cX1_chooseHost 29 = .ok (.iconst 0, 1) := by decide +kernel
theorem dX1_chooseHost_30 : decode cX1_chooseHost 30 = .ok (.istore 7, 2) := by decide +kernel
theorem dX1_chooseHost_32 : decode cX1_chooseHost 32 = .ok (.iload 7, 2) := by decide +kernel
theorem dX1_chooseHost_34 : decode cX1_chooseHost 34 = .ok (.aload_n 0, 1) := by decide +kernel
theorem dX1_chooseHost_35 : decode cX1_chooseHost 35 = .ok (.getfield 21, 3) := by decide +kernel
theorem dX1_chooseHost_38 : decode cX1_chooseHost 38 = .ok (.getfield 25, 3) := by decide +kernel
theorem dX1_chooseHost_41 : decode cX1_chooseHost 41 = .ok (.if_icmp .ge 70, 3) := by decide +kernel
theorem dX1_chooseHost_44 : decode cX1_chooseHost 44 = .ok (.aload_n 0, 1) := by decide +kernel
theorem dX1_chooseHost_45 : decode cX1_chooseHost 45 = .ok (.getfield 21, 3) := by decide +kernel
theorem dX1_chooseHost_48 : decode cX1_chooseHost 48 = .ok (.getfield 56, 3) := by decide +kernel
theorem dX1_chooseHost_51 : decode cX1_chooseHost 51 = .ok (.iload 7, 2) := by decide +kernel
theorem dX1_chooseHost_53 : decode cX1_chooseHost 53 = .ok (.iaload, 1) := by decide +kernel
theorem dX1_chooseHost_54 : decode cX1_chooseHost 54 = .ok (.iload_n 3, 1) := by decide +kernel
theorem dX1_chooseHost_55 : decode cX1_chooseHost 55 = .ok (.if_icmp .lt 6, 3) := by decide +kernel
theorem dX1_chooseHost_58 : decode cX1_chooseHost 58 = .ok (.goto 47, 3) := by decide +kernel
theorem dX1_chooseHost_61 : decode cX1_chooseHost 61 = .ok (.aload_n 0, 1) := by decide +kernel
theorem dX1_chooseHost_62 : decode cX1_chooseHost 62 = .ok (.iload 7, 2) := by decide +kernel
theorem dX1_chooseHost_64 : decode cX1_chooseHost 64 = .ok (.iload_n 1, 1) := by decide +kernel
theorem dX1_chooseHost_65 : decode cX1_chooseHost 65 = .ok (.iload_n 2, 1) := by decide +kernel
theorem dX1_chooseHost_66 : decode cX1_chooseHost 66 = .ok (.iload 4, 2) := by decide +kernel
theorem dX1_chooseHost_68 : decode cX1_chooseHost 68 = .ok (.aload_n 0, 1) := by decide +kernel
theorem dX1_chooseHost_69 : decode cX1_chooseHost 69 = .ok (.getfield 21, 3) := by decide +kernel
theorem dX1_chooseHost_72 : decode cX1_chooseHost 72 = .ok (.getfield 56, 3) := by decide +kernel
theorem dX1_chooseHost_75 : decode cX1_chooseHost 75 = .ok (.iload 7, 2) := by decide +kernel
theorem dX1_chooseHost_77 : decode cX1_chooseHost 77 = .ok (.iaload, 1) := by decide +kernel
theorem dX1_chooseHost_78 : decode cX1_chooseHost 78 = .ok (.isub, 1) := by decide +kernel
theorem dX1_chooseHost_79 : decode cX1_chooseHost 79 = .ok (.invokevirtual 59, 3) := by decide +kernel
theorem dX1_chooseHost_82 : decode cX1_chooseHost 82 = .ok (.istore 8, 2) := by decide +kernel
theorem dX1_chooseHost_84 : decode cX1_chooseHost 84 = .ok (.iload 5, 2) := by decide +kernel
theorem dX1_chooseHost_86 : decode cX1_chooseHost 86 = .ok (.iconst (-1), 1) := by decide +kernel
theorem dX1_chooseHost_87 : decode cX1_chooseHost 87 = .ok (.if_icmp .eq 10, 3) := by decide +kernel
theorem dX1_chooseHost_90 : decode cX1_chooseHost 90 = .ok (.iload 8, 2) := by decide +kernel
theorem dX1_chooseHost_92 : decode cX1_chooseHost 92 = .ok (.iload 6, 2) := by decide +kernel
theorem dX1_chooseHost_94 : decode cX1_chooseHost 94 = .ok (.if_icmp .le 11, 3) := by decide +kernel
theorem dX1_chooseHost_97 : decode cX1_chooseHost 97 = .ok (.iload 7, 2) := by decide +kernel
theorem dX1_chooseHost_99 : decode cX1_chooseHost 99 = .ok (.istore 5, 2) := by decide +kernel
theorem dX1_chooseHost_101 : decode cX1_chooseHost 101 = .ok (.iload 8, 2) := by decide +kernel
theorem dX1_chooseHost_103 : decode cX1_chooseHost 103 = .ok (.istore 6, 2) := by decide +kernel
theorem dX1_chooseHost_105 : decode cX1_chooseHost 105 = .ok (.iinc 7 1, 3) := by decide +kernel
theorem dX1_chooseHost_108 : decode cX1_chooseHost 108 = .ok (.goto (-76), 3) := by decide +kernel
theorem dX1_chooseHost_111 : decode cX1_chooseHost 111 = .ok (.iload 5, 2) := by decide +kernel
theorem dX1_chooseHost_113 : decode cX1_chooseHost 113 = .ok (.ireturn, 1) := by decide +kernel
set_option maxHeartbeats 4000000 in
set_option maxRecDepth 100000 in
theorem uX1_chooseHost_105 (C : CX D [(cA, .int)] p s m args meth c A cX1_chooseHost 9 RX1 (some .int)) (k32 : Int32 → Int32 → Int32 → Int32 → Int32 → Int32 → Int32 → St → Rs) (h32 : ∀ (v1 v2 v3 v4 v5 v6 v7 : Int32) (S : St), RU D (wX a cA) p l e 4 s m args below meth c A 9 (QI D (wX a cA) [(cA, .int)] A) (k32 v1 v2 v3 v4 v5 v6 v7 S) 32 [] [(0, .ref (a 2)), (1, .int v1), (2, .int v2), (3, .int v3), (4, .int v4), (5, .int v5), (6, .int v6), (7, .int v7)] S) (v1 v2 v3 v4 v5 v6 v7 : Int32) (S : St) : RU D (wX a cA) p l e 4 s m args below meth c A 9 (QI D (wX a cA) [(cA, .int)] A) (fX1_chooseHost_105 k32 v1 v2 v3 v4 v5 v6 v7 S) 105 [] [(0, .ref (a 2)), (1, .int v1), (2, .int v2), (3, .int v3), (4, .int v4), (5, .int v5), (6, .int v6), (7, .int v7)] S := by
  unfold fX1_chooseHost_105
  refine R_iinc (v := v7 + 1) (lv' := [(7, .int (v7 + 1)), (0, .ref (a 2)), (1, .int v1), (2, .int v2), (3, .int v3), (4, .int v4), (5, .int v5), (6, .int v6)]) C dX1_chooseHost_105 7 rfl rfl (by decide) rfl ?_
  refine R_goto (tgt := 32) C dX1_chooseHost_108 (by decide) ?_
  refine R_sub [1, 2, 3, 4, 5, 6, 7, 0] rfl ?_
  exact h32 v1 v2 v3 v4 v5 v6 (v7 + 1) S
set_option maxHeartbeats 4000000 in
set_option maxRecDepth 100000 in
theorem uX1_chooseHost_97 (C : CX D [(cA, .int)] p s m args meth c A cX1_chooseHost 9 RX1 (some .int)) (k32 : Int32 → Int32 → Int32 → Int32 → Int32 → Int32 → Int32 → St → Rs) (h32 : ∀ (v1 v2 v3 v4 v5 v6 v7 : Int32) (S : St), RU D (wX a cA) p l e 4 s m args below meth c A 9 (QI D (wX a cA) [(cA, .int)] A) (k32 v1 v2 v3 v4 v5 v6 v7 S) 32 [] [(0, .ref (a 2)), (1, .int v1), (2, .int v2), (3, .int v3), (4, .int v4), (5, .int v5), (6, .int v6), (7, .int v7)] S) (v1 v2 v3 v4 v7 v8 : Int32) (S : St) : RU D (wX a cA) p l e 4 s m args below meth c A 9 (QI D (wX a cA) [(cA, .int)] A) (fX1_chooseHost_97 k32 v1 v2 v3 v4 v7 v8 S) 97 [] [(0, .ref (a 2)), (1, .int v1), (2, .int v2), (3, .int v3), (4, .int v4), (7, .int v7), (8, .int v8)] S := by
  unfold fX1_chooseHost_97
  refine R_iload C dX1_chooseHost_97 5 rfl ?_
  refine R_istore (lv' := [(5, .int v7), (0, .ref (a 2)), (1, .int v1), (2, .int v2), (3, .int v3), (4, .int v4), (7, .int v7), (8, .int v8)]) C dX1_chooseHost_99 (by decide) rfl ?_
  refine R_iload C dX1_chooseHost_101 7 rfl ?_
  refine R_istore (lv' := [(6, .int v8), (5, .int v7), (0, .ref (a 2)), (1, .int v1), (2, .int v2), (3, .int v3), (4, .int v4), (7, .int v7), (8, .int v8)]) C dX1_chooseHost_103 (by decide) rfl ?_
  refine R_sub [2, 3, 4, 5, 6, 1, 0, 7] rfl ?_
  exact uX1_chooseHost_105 C k32 h32 v1 v2 v3 v4 v7 v8 v7 S
set_option maxHeartbeats 4000000 in
set_option maxRecDepth 100000 in
theorem uX1_chooseHost_32_b (C : CX D [(cA, .int)] p s m args meth c A cX1_chooseHost 9 RX1 (some .int)) (k32 : Int32 → Int32 → Int32 → Int32 → Int32 → Int32 → Int32 → St → Rs) (h32 : ∀ (v1 v2 v3 v4 v5 v6 v7 : Int32) (S : St), RU D (wX a cA) p l e 4 s m args below meth c A 9 (QI D (wX a cA) [(cA, .int)] A) (k32 v1 v2 v3 v4 v5 v6 v7 S) 32 [] [(0, .ref (a 2)), (1, .int v1), (2, .int v2), (3, .int v3), (4, .int v4), (5, .int v5), (6, .int v6), (7, .int v7)] S) (v1 v2 v3 v4 v5 v6 v7 : Int32) (S : St) : RU D (wX a cA) p l e 4 s m args below meth c A 9 (QI D (wX a cA) [(cA, .int)] A) (fX1_chooseHost_32_b k32 v1 v2 v3 v4 v5 v6 v7 S) 32 [] [(0, .ref (a 2)), (1, .int v1), (2, .int v2), (3, .int v3), (4, .int v4), (5, .int v5), (6, .int v6), (7, .int v7)] S := by
  unfold fX1_chooseHost_32_b
  refine R_iload C dX1_chooseHost_32 7 rfl ?_
  refine R_aload_n C dX1_chooseHost_34 rfl 0 rfl ?_
  refine gtX_X1_net C wd_1_103 dX1_chooseHost_35 ?_
  refine gtX_X4_hosts C wd_1_57 dX1_chooseHost_38 ?_
  refine R_icmp_ge (tgt := 111) C dX1_chooseHost_41 (by decide) ?_ ?_
  · refine R_iload C dX1_chooseHost_111 5 rfl ?_
    exact R_reti C dX1_chooseHost_113
  · refine R_aload_n C dX1_chooseHost_44 rfl 0 rfl ?_
    refine gtX_X1_net C wd_1_103 dX1_chooseHost_45 ?_
    refine gtX_X4_loads C wd_1_47 dX1_chooseHost_48 ?_
    refine R_iload C dX1_chooseHost_51 7 rfl ?_
    refine ldX4 C dX1_chooseHost_53 ?_
    refine R_iload_n C dX1_chooseHost_54 rfl 3 rfl ?_
    refine R_icmp_lt (tgt := 61) C dX1_chooseHost_55 (by decide) ?_ ?_
    · refine R_aload_n C dX1_chooseHost_61 rfl 0 rfl ?_
      refine R_iload C dX1_chooseHost_62 7 rfl ?_
      refine R_iload_n C dX1_chooseHost_64 rfl 1 rfl ?_
      refine R_iload_n C dX1_chooseHost_65 rfl 2 rfl ?_
      refine R_iload C dX1_chooseHost_66 4 rfl ?_
      refine R_aload_n C dX1_chooseHost_68 rfl 0 rfl ?_
      refine gtX_X1_net C wd_1_103 dX1_chooseHost_69 ?_
      refine gtX_X4_loads C wd_1_47 dX1_chooseHost_72 ?_
      refine R_iload C dX1_chooseHost_75 7 rfl ?_
      refine ldX4 C dX1_chooseHost_77 ?_
      refine R_isub C dX1_chooseHost_78 ?_
      refine R_calli (As := [.int v7, .int v1, .int v2, .int (v4 - (S.2 4 (ix v7)))]) (st := []) C (kX1_scoreOf l D a cA S v7 v1 v2 (v4 - (S.2 4 (ix v7)))) (by decide) (by decide) wd_2_21 kwX1_scoreOf 2 rfl rfl rfl rfl (Nat.le_of_ble_eq_true rfl) dX1_chooseHost_79 (fun r1 S2 => ?_)
      refine R_istore (lv' := [(8, .int r1), (0, .ref (a 2)), (1, .int v1), (2, .int v2), (3, .int v3), (4, .int v4), (5, .int v5), (6, .int v6), (7, .int v7)]) C dX1_chooseHost_82 (by decide) rfl ?_
      refine R_iload C dX1_chooseHost_84 6 rfl ?_
      refine R_iconst (v := (-1 : Int32)) C dX1_chooseHost_86 (by decide) ?_
      refine R_icmp_eq (tgt := 97) C dX1_chooseHost_87 (by decide) ?_ ?_
      · refine R_sub [1, 2, 3, 4, 5, 8, 0] rfl ?_
        exact uX1_chooseHost_97 C k32 h32 v1 v2 v3 v4 v7 r1 S2
      · refine R_iload C dX1_chooseHost_90 0 rfl ?_
        refine R_iload C dX1_chooseHost_92 7 rfl ?_
        refine R_icmp_le (tgt := 105) C dX1_chooseHost_94 (by decide) ?_ ?_
        · refine R_sub [1, 2, 3, 4, 5, 6, 7, 8] rfl ?_
          exact uX1_chooseHost_105 C k32 h32 v1 v2 v3 v4 v5 v6 v7 S2
        · refine R_sub [1, 2, 3, 4, 5, 8, 0] rfl ?_
          exact uX1_chooseHost_97 C k32 h32 v1 v2 v3 v4 v7 r1 S2
    · refine R_goto (tgt := 105) C dX1_chooseHost_58 (by decide) ?_
      exact uX1_chooseHost_105 C k32 h32 v1 v2 v3 v4 v5 v6 v7 S
set_option maxHeartbeats 4000000 in
set_option maxRecDepth 100000 in
theorem uX1_chooseHost_32 (C : CX D [(cA, .int)] p s m args meth c A cX1_chooseHost 9 RX1 (some .int)) : ∀ (n : Nat) (v1 v2 v3 v4 v5 v6 v7 : Int32) (S : St), RU D (wX a cA) p l e 4 s m args below meth c A 9 (QI D (wX a cA) [(cA, .int)] A) (fX1_chooseHost_32 n v1 v2 v3 v4 v5 v6 v7 S) 32 [] [(0, .ref (a 2)), (1, .int v1), (2, .int v2), (3, .int v3), (4, .int v4), (5, .int v5), (6, .int v6), (7, .int v7)] S := by
  intro n
  induction n with
  | zero => intro v1 v2 v3 v4 v5 v6 v7 S; exact R_none
  | succ n ih => intro v1 v2 v3 v4 v5 v6 v7 S; exact uX1_chooseHost_32_b C _ ih v1 v2 v3 v4 v5 v6 v7 S
set_option maxHeartbeats 4000000 in
set_option maxRecDepth 100000 in
theorem uX1_chooseHost (C : CX D [(cA, .int)] p s m args meth c A cX1_chooseHost 9 RX1 (some .int)) (v1 v2 : Int32) (S : St) : RU D (wX a cA) p l e 4 s m args below meth c A 9 (QI D (wX a cA) [(cA, .int)] A) (fX1_chooseHost v1 v2 S) 0 [] [(0, .ref (a 2)), (1, .int v1), (2, .int v2)] S := by
  unfold fX1_chooseHost
  refine R_aload_n C dX1_chooseHost_0 rfl 0 rfl ?_
  refine R_aload_n C dX1_chooseHost_1 rfl 0 rfl ?_
  refine gtX_X1_net C wd_1_103 dX1_chooseHost_2 ?_
  refine gtX_X4_live C wd_1_67 dX1_chooseHost_5 ?_
  refine R_iconst (v := (1 : Int32)) C dX1_chooseHost_8 (by decide) ?_
  refine R_iadd C dX1_chooseHost_9 ?_
  refine R_calli (As := [.int ((S.1 4) + (1 : Int32))]) (st := []) C (kX1_roomFor l D a cA S ((S.1 4) + (1 : Int32))) (by decide) (by decide) wd_2_12 kwX1_roomFor 2 rfl rfl rfl rfl (Nat.le_of_ble_eq_true rfl) dX1_chooseHost_10 (fun r1 S2 => ?_)
  refine R_istore_n (lv' := [(3, .int r1), (0, .ref (a 2)), (1, .int v1), (2, .int v2)]) C dX1_chooseHost_13 rfl (by decide) rfl ?_
  refine R_aload_n C dX1_chooseHost_14 rfl 1 rfl ?_
  refine gtX_X1_net C wd_1_103 dX1_chooseHost_15 ?_
  refine R_calli (As := []) (st := []) C (kX4_greatestLoad l D a cA S2) (by decide) (by decide) wd_2_16 kwX4_greatestLoad 1 rfl rfl rfl rfl (Nat.le_of_ble_eq_true rfl) dX1_chooseHost_18 (fun r3 S4 => ?_)
  refine R_istore (lv' := [(4, .int r3), (3, .int r1), (0, .ref (a 2)), (1, .int v1), (2, .int v2)]) C dX1_chooseHost_21 (by decide) rfl ?_
  refine R_iconst (v := (-1 : Int32)) C dX1_chooseHost_23 (by decide) ?_
  refine R_istore (lv' := [(5, .int (-1 : Int32)), (4, .int r3), (3, .int r1), (0, .ref (a 2)), (1, .int v1), (2, .int v2)]) C dX1_chooseHost_24 (by decide) rfl ?_
  refine R_iconst (v := (0 : Int32)) C dX1_chooseHost_26 (by decide) ?_
  refine R_istore (lv' := [(6, .int (0 : Int32)), (5, .int (-1 : Int32)), (4, .int r3), (3, .int r1), (0, .ref (a 2)), (1, .int v1), (2, .int v2)]) C dX1_chooseHost_27 (by decide) rfl ?_
  refine R_iconst (v := (0 : Int32)) C dX1_chooseHost_29 (by decide) ?_
  refine R_istore (lv' := [(7, .int (0 : Int32)), (6, .int (0 : Int32)), (5, .int (-1 : Int32)), (4, .int r3), (3, .int r1), (0, .ref (a 2)), (1, .int v1), (2, .int v2)]) C dX1_chooseHost_30 (by decide) rfl ?_
  refine R_sub [5, 6, 7, 4, 3, 2, 1, 0] rfl ?_
  exact uX1_chooseHost_32 C FU v1 v2 r1 r3 (-1 : Int32) (0 : Int32) (0 : Int32) S4
set_option maxHeartbeats 4000000 in
set_option maxRecDepth 100000 in
theorem kX1_chooseHost (l : Launch) (D : va_G) (a : Nat → Nat) (cA : ClassId) (S : St) (v1 v2 : Int32) : CI l D (wX a cA) [(cA, .int)] yX1_chooseHost (.code yX1_chooseHost cX1_chooseHost 9 (some .int)) 4 [.ref (a 2), .int v1, .int v2] (fX1_chooseHost v1 v2 S) S := CI_of rfl (Nat.le_of_ble_eq_true rfl) (fun p e s m args below meth c A C => uX1_chooseHost C v1 v2 S)
theorem dX4_hasHost_0 : decode cX4_hasHost 0 = .ok (.iload_n 1, 1) := by decide +kernel
theorem dX4_hasHost_1 : decode cX4_hasHost 1 = .ok (.ifCond .lt 15, 3) := by decide +kernel
theorem dX4_hasHost_4 : decode cX4_hasHost 4 = .ok (.iload_n 1, 1) := by decide +kernel
theorem dX4_hasHost_5 : decode cX4_hasHost 5 = .ok (.aload_n 0, 1) := by decide +kernel
theorem dX4_hasHost_6 : decode cX4_hasHost 6 = .ok (.getfield 33, 3) := by decide +kernel
theorem dX4_hasHost_9 : decode cX4_hasHost 9 = .ok (.if_icmp .ge 7, 3) := by decide +kernel
theorem dX4_hasHost_12 : decode cX4_hasHost 12 = .ok (.iconst 1, 1) := by decide +kernel
theorem dX4_hasHost_13 : decode cX4_hasHost 13 = .ok (.goto 4, 3) := by decide +kernel
theorem dX4_hasHost_16 : decode cX4_hasHost 16 = .ok (.iconst 0, 1) := by decide +kernel
theorem dX4_hasHost_17 : decode cX4_hasHost 17 = .ok (.ireturn, 1) := by decide +kernel
set_option maxHeartbeats 4000000 in
set_option maxRecDepth 100000 in
theorem uX4_hasHost_17 (C : CX D [(cA, .int)] p s m args meth c A cX4_hasHost 2 RX4 (some .boolean)) (t0 : Int32) (S : St) : RU D (wX a cA) p l e 1 s m args below meth c A 2 (QI D (wX a cA) [(cA, .int)] A) (fX4_hasHost_17 t0 S) 17 [.int t0] [] S := by
  unfold fX4_hasHost_17
  exact R_retz C dX4_hasHost_17
set_option maxHeartbeats 4000000 in
set_option maxRecDepth 100000 in
theorem uX4_hasHost_16 (C : CX D [(cA, .int)] p s m args meth c A cX4_hasHost 2 RX4 (some .boolean)) (S : St) : RU D (wX a cA) p l e 1 s m args below meth c A 2 (QI D (wX a cA) [(cA, .int)] A) (fX4_hasHost_16 S) 16 [] [] S := by
  unfold fX4_hasHost_16
  refine R_iconst (v := (0 : Int32)) C dX4_hasHost_16 (by decide) ?_
  exact uX4_hasHost_17 C (0 : Int32) S
set_option maxHeartbeats 4000000 in
set_option maxRecDepth 100000 in
theorem uX4_hasHost (C : CX D [(cA, .int)] p s m args meth c A cX4_hasHost 2 RX4 (some .boolean)) (v1 : Int32) (S : St) : RU D (wX a cA) p l e 1 s m args below meth c A 2 (QI D (wX a cA) [(cA, .int)] A) (fX4_hasHost v1 S) 0 [] [(0, .ref (a 1)), (1, .int v1)] S := by
  unfold fX4_hasHost
  refine R_iload_n C dX4_hasHost_0 rfl 1 rfl ?_
  refine R_if_lt (tgt := 16) C dX4_hasHost_1 (by decide) ?_ ?_
  · refine R_sub [] rfl ?_
    exact uX4_hasHost_16 C S
  · refine R_iload_n C dX4_hasHost_4 rfl 1 rfl ?_
    refine R_aload_n C dX4_hasHost_5 rfl 0 rfl ?_
    refine gtX_X4_hosts C wd_1_56 dX4_hasHost_6 ?_
    refine R_icmp_ge (tgt := 16) C dX4_hasHost_9 (by decide) ?_ ?_
    · refine R_sub [] rfl ?_
      exact uX4_hasHost_16 C S
    · refine R_iconst (v := (1 : Int32)) C dX4_hasHost_12 (by decide) ?_
      refine R_goto (tgt := 17) C dX4_hasHost_13 (by decide) ?_
      refine R_sub [] rfl ?_
      exact uX4_hasHost_17 C (1 : Int32) S
set_option maxHeartbeats 4000000 in
set_option maxRecDepth 100000 in
theorem kX4_hasHost (l : Launch) (D : va_G) (a : Nat → Nat) (cA : ClassId) (S : St) (v1 : Int32) : CI l D (wX a cA) [(cA, .int)] yX4_hasHost (.code yX4_hasHost cX4_hasHost 2 (some .boolean)) 1 [.ref (a 1), .int v1] (fX4_hasHost v1 S) S := CI_of rfl (Nat.le_of_ble_eq_true rfl) (fun p e s m args below meth c A C => uX4_hasHost C v1 S)
theorem dX4_putEnd_0 : decode cX4_putEnd 0 = .ok (.aload_n 0, 1) := by decide +kernel
theorem dX4_putEnd_1 : decode cX4_putEnd 1 = .ok (.getfield 24, 3) := by decide +kernel
theorem dX4_putEnd_4 : decode cX4_putEnd 4 = .ok (.iload_n 1, 1) := by decide +kernel
theorem dX4_putEnd_5 : decode cX4_putEnd 5 = .ok (.dup2, 1) := by decide +kernel
theorem dX4_putEnd_6 : decode cX4_putEnd 6 = .ok (.iaload, 1) := by decide +kernel
theorem dX4_putEnd_7 : decode cX4_putEnd 7 = .ok (.iconst 1, 1) := by decide +kernel
theorem dX4_putEnd_8 : decode cX4_putEnd 8 = .ok (.iadd, 1) := by decide +kernel
theorem dX4_putEnd_9 : decode cX4_putEnd 9 = .ok (.iastore, 1) := by decide +kernel
theorem dX4_putEnd_10 : decode cX4_putEnd 10 = .ok (.aload_n 0, 1) := by decide +kernel
theorem dX4_putEnd_11 : decode cX4_putEnd 11 = .ok (.getfield 30, 3) := by decide +kernel
theorem dX4_putEnd_14 : decode cX4_putEnd 14 = .ok (.iload_n 2, 1) := by decide +kernel
theorem dX4_putEnd_15 : decode cX4_putEnd 15 = .ok (.bipush 40, 2) := by decide +kernel
theorem dX4_putEnd_17 : decode cX4_putEnd 17 = .ok (.imul, 1) := by decide +kernel
theorem dX4_putEnd_18 : decode cX4_putEnd 18 = .ok (.iload_n 1, 1) := by decide +kernel
theorem dX4_putEnd_19 : decode cX4_putEnd 19 = .ok (.iadd, 1) := by decide +kernel
theorem dX4_putEnd_20 : decode cX4_putEnd 20 = .ok (.dup2, 1) := by decide +kernel
theorem dX4_putEnd_21 : decode cX4_putEnd 21 = .ok (.iaload, 1) := by decide +kernel
theorem dX4_putEnd_22 : decode cX4_putEnd 22 = .ok (.iconst 1, 1) := by decide +kernel
theorem dX4_putEnd_23 : decode cX4_putEnd 23 = .ok (.iadd, 1) := by decide +kernel
theorem dX4_putEnd_24 : decode cX4_putEnd 24 = .ok (.iastore, 1) := by decide +kernel
theorem dX4_putEnd_25 : decode cX4_putEnd 25 = .ok (.aload_n 0, 1) := by decide +kernel
theorem dX4_putEnd_26 : decode cX4_putEnd 26 = .ok (.getfield 30, 3) := by decide +kernel
theorem dX4_putEnd_29 : decode cX4_putEnd 29 = .ok (.iload_n 2, 1) := by decide +kernel
theorem dX4_putEnd_30 : decode cX4_putEnd 30 = .ok (.bipush 40, 2) := by decide +kernel
theorem dX4_putEnd_32 : decode cX4_putEnd 32 = .ok (.imul, 1) := by decide +kernel
theorem dX4_putEnd_33 : decode cX4_putEnd 33 = .ok (.iload_n 1, 1) := by decide +kernel
theorem dX4_putEnd_34 : decode cX4_putEnd 34 = .ok (.iadd, 1) := by decide +kernel
theorem dX4_putEnd_35 : decode cX4_putEnd 35 = .ok (.iaload, 1) := by decide +kernel
theorem dX4_putEnd_36 : decode cX4_putEnd 36 = .ok (.iconst 1, 1) := by decide +kernel
theorem dX4_putEnd_37 : decode cX4_putEnd 37 = .ok (.if_icmp .ne 25, 3) := by decide +kernel
theorem dX4_putEnd_40 : decode cX4_putEnd 40 = .ok (.aload_n 0, 1) := by decide +kernel
theorem dX4_putEnd_41 : decode cX4_putEnd 41 = .ok (.getfield 27, 3) := by decide +kernel
theorem dX4_putEnd_44 : decode cX4_putEnd 44 = .ok (.iload_n 1, 1) := by decide +kernel
theorem dX4_putEnd_45 : decode cX4_putEnd 45 = .ok (.dup2, 1) := by decide +kernel
theorem dX4_putEnd_46 : decode cX4_putEnd 46 = .ok (.iaload, 1) := by decide +kernel
theorem dX4_putEnd_47 : decode cX4_putEnd 47 = .ok (.iconst 1, 1) := by decide +kernel
theorem dX4_putEnd_48 : decode cX4_putEnd 48 = .ok (.iload_n 2, 1) := by decide +kernel
theorem dX4_putEnd_49 : decode cX4_putEnd 49 = .ok (.ishl, 1) := by decide +kernel
theorem dX4_putEnd_50 : decode cX4_putEnd 50 = .ok (.ior, 1) := by decide +kernel
theorem dX4_putEnd_51 : decode cX4_putEnd 51 = .ok (.iastore, 1) := by decide +kernel
theorem dX4_putEnd_52 : decode cX4_putEnd 52 = .ok (.aload_n 0, 1) := by decide +kernel
theorem dX4_putEnd_53 : decode cX4_putEnd 53 = .ok (.dup, 1) := by decide +kernel
theorem dX4_putEnd_54 : decode cX4_putEnd 54 = .ok (.getfield 57, 3) := by decide +kernel
theorem dX4_putEnd_57 : decode cX4_putEnd 57 = .ok (.iconst 1, 1) := by decide +kernel
theorem dX4_putEnd_58 : decode cX4_putEnd 58 = .ok (.iadd, 1) := by decide +kernel
theorem dX4_putEnd_59 : decode cX4_putEnd 59 = .ok (.putfield 57, 3) := by decide +kernel
theorem dX4_putEnd_62 : decode cX4_putEnd 62 = .ok (.return_, 1) := by decide +kernel
set_option maxHeartbeats 4000000 in
set_option maxRecDepth 100000 in
theorem uX4_putEnd_62 (C : CX D [(cA, .int)] p s m args meth c A cX4_putEnd 3 RX4 none) (S : St) : RU D (wX a cA) p l e 1 s m args below meth c A 3 (QV D (wX a cA) [(cA, .int)] A) (fX4_putEnd_62 S) 62 [] [] S := by
  unfold fX4_putEnd_62
  exact R_retv C dX4_putEnd_62
set_option maxHeartbeats 4000000 in
set_option maxRecDepth 100000 in
theorem uX4_putEnd (C : CX D [(cA, .int)] p s m args meth c A cX4_putEnd 3 RX4 none) (v1 v2 : Int32) (S : St) : RU D (wX a cA) p l e 1 s m args below meth c A 3 (QV D (wX a cA) [(cA, .int)] A) (fX4_putEnd v1 v2 S) 0 [] [(0, .ref (a 1)), (1, .int v1), (2, .int v2)] S := by
  unfold fX4_putEnd
  refine R_aload_n C dX4_putEnd_0 rfl 0 rfl ?_
  refine gtX_X4_degrees C wd_1_49 dX4_putEnd_1 ?_
  refine R_iload_n C dX4_putEnd_4 rfl 1 rfl ?_
  refine R_dup2 C dX4_putEnd_5 rfl rfl ?_
  refine ldX5 C dX4_putEnd_6 ?_
  refine R_iconst (v := (1 : Int32)) C dX4_putEnd_7 (by decide) ?_
  refine R_iadd C dX4_putEnd_8 ?_
  refine svX5 C dX4_putEnd_9 ?_
  refine R_letS (fun S1 => ?_)
  refine R_aload_n C dX4_putEnd_10 rfl 0 rfl ?_
  refine gtX_X4_linesAt C wd_1_55 dX4_putEnd_11 ?_
  refine R_iload_n C dX4_putEnd_14 rfl 2 rfl ?_
  refine R_bipush (v := (40 : Int32)) C dX4_putEnd_15 (by decide) ?_
  refine R_imul C dX4_putEnd_17 ?_
  refine R_iload_n C dX4_putEnd_18 rfl 1 rfl ?_
  refine R_iadd C dX4_putEnd_19 ?_
  refine R_dup2 C dX4_putEnd_20 rfl rfl ?_
  refine ldX7 C dX4_putEnd_21 ?_
  refine R_iconst (v := (1 : Int32)) C dX4_putEnd_22 (by decide) ?_
  refine R_iadd C dX4_putEnd_23 ?_
  refine svX7 C dX4_putEnd_24 ?_
  refine R_letS (fun S2 => ?_)
  refine R_aload_n C dX4_putEnd_25 rfl 0 rfl ?_
  refine gtX_X4_linesAt C wd_1_55 dX4_putEnd_26 ?_
  refine R_iload_n C dX4_putEnd_29 rfl 2 rfl ?_
  refine R_bipush (v := (40 : Int32)) C dX4_putEnd_30 (by decide) ?_
  refine R_imul C dX4_putEnd_32 ?_
  refine R_iload_n C dX4_putEnd_33 rfl 1 rfl ?_
  refine R_iadd C dX4_putEnd_34 ?_
  refine ldX7 C dX4_putEnd_35 ?_
  refine R_iconst (v := (1 : Int32)) C dX4_putEnd_36 (by decide) ?_
  refine R_icmp_ne (tgt := 62) C dX4_putEnd_37 (by decide) ?_ ?_
  · refine R_aload_n C dX4_putEnd_40 rfl 0 rfl ?_
    refine gtX_X4_copyBits C wd_1_53 dX4_putEnd_41 ?_
    refine R_iload_n C dX4_putEnd_44 rfl 1 rfl ?_
    refine R_dup2 C dX4_putEnd_45 rfl rfl ?_
    refine ldX6 C dX4_putEnd_46 ?_
    refine R_iconst (v := (1 : Int32)) C dX4_putEnd_47 (by decide) ?_
    refine R_iload_n C dX4_putEnd_48 rfl 2 rfl ?_
    refine R_ishl C dX4_putEnd_49 ?_
    refine R_ior C dX4_putEnd_50 ?_
    refine svX6 C dX4_putEnd_51 ?_
    refine R_letS (fun S3 => ?_)
    refine R_aload_n C dX4_putEnd_52 rfl 0 rfl ?_
    refine R_dup C dX4_putEnd_53 rfl ?_
    refine gtX_X4_allCopies C wd_1_71 dX4_putEnd_54 ?_
    refine R_iconst (v := (1 : Int32)) C dX4_putEnd_57 (by decide) ?_
    refine R_iadd C dX4_putEnd_58 ?_
    refine ptX_X4_allCopies C wd_1_71 dX4_putEnd_59 ?_
    refine R_letS (fun S4 => ?_)
    refine R_sub [] rfl ?_
    exact uX4_putEnd_62 C S4
  · refine R_sub [] rfl ?_
    exact uX4_putEnd_62 C S2
set_option maxHeartbeats 4000000 in
set_option maxRecDepth 100000 in
theorem kX4_putEnd (l : Launch) (D : va_G) (a : Nat → Nat) (cA : ClassId) (S : St) (v1 v2 : Int32) : CV l D (wX a cA) [(cA, .int)] yX4_putEnd (.code yX4_putEnd cX4_putEnd 3 none) 1 [.ref (a 1), .int v1, .int v2] (fX4_putEnd v1 v2 S) S := CV_of rfl (Nat.le_of_ble_eq_true rfl) (fun p e s m args below meth c A C => uX4_putEnd C v1 v2 S)
theorem dX4_putOn_0 : decode cX4_putOn 0 = .ok (.aload_n 0, 1) := by decide +kernel
theorem dX4_putOn_1 : decode cX4_putOn 1 = .ok (.iload_n 2, 1) := by decide +kernel
theorem dX4_putOn_2 : decode cX4_putOn 2 = .ok (.invokevirtual 40, 3) := by decide +kernel
theorem dX4_putOn_5 : decode cX4_putOn 5 = .ok (.ifCond .ne 4, 3) := by decide +kernel
theorem dX4_putOn_8 : decode cX4_putOn 8 = .ok (.return_, 1) := by decide +kernel
theorem dX4_putOn_9 : decode cX4_putOn 9 = .ok (.aload_n 0, 1) := by decide +kernel
theorem dX4_putOn_10 : decode cX4_putOn 10 = .ok (.getfield 18, 3) := by decide +kernel
theorem dX4_putOn_13 : decode cX4_putOn 13 = .ok (.iload_n 1, 1) := by decide +kernel
theorem dX4_putOn_14 : decode cX4_putOn 14 = .ok (.iload_n 2, 1) := by decide +kernel
theorem dX4_putOn_15 : decode cX4_putOn 15 = .ok (.iastore, 1) := by decide +kernel
theorem dX4_putOn_16 : decode cX4_putOn 16 = .ok (.aload_n 0, 1) := by decide +kernel
theorem dX4_putOn_17 : decode cX4_putOn 17 = .ok (.getfield 21, 3) := by decide +kernel
theorem dX4_putOn_20 : decode cX4_putOn 20 = .ok (.iload_n 2, 1) := by decide +kernel
theorem dX4_putOn_21 : decode cX4_putOn 21 = .ok (.dup2, 1) := by decide +kernel
theorem dX4_putOn_22 : decode cX4_putOn 22 = .ok (.iaload, 1) := by decide +kernel
theorem dX4_putOn_23 : decode cX4_putOn 23 = .ok (.iconst 1, 1) := by decide +kernel
theorem dX4_putOn_24 : decode cX4_putOn 24 = .ok (.iadd, 1) := by decide +kernel
theorem dX4_putOn_25 : decode cX4_putOn 25 = .ok (.iastore, 1) := by decide +kernel
theorem dX4_putOn_26 : decode cX4_putOn 26 = .ok (.aload_n 0, 1) := by decide +kernel
theorem dX4_putOn_27 : decode cX4_putOn 27 = .ok (.dup, 1) := by decide +kernel
theorem dX4_putOn_28 : decode cX4_putOn 28 = .ok (.getfield 44, 3) := by decide +kernel
theorem dX4_putOn_31 : decode cX4_putOn 31 = .ok (.iconst 1, 1) := by decide +kernel
theorem dX4_putOn_32 : decode cX4_putOn 32 = .ok (.iadd, 1) := by decide +kernel
theorem dX4_putOn_33 : decode cX4_putOn 33 = .ok (.putfield 44, 3) := by decide +kernel
theorem dX4_putOn_36 : decode cX4_putOn 36 = .ok (.aload_n 0, 1) := by decide +kernel
theorem dX4_putOn_37 : decode cX4_putOn 37 = .ok (.aload_n 0, 1) := by decide +kernel
theorem dX4_putOn_38 : decode cX4_putOn 38 = .ok (.getfield 9, 3) := by decide +kernel
theorem dX4_putOn_41 : decode cX4_putOn 41 = .ok (.iload_n 1, 1) := by decide +kernel
theorem dX4_putOn_42 : decode cX4_putOn 42 = .ok (.iaload, 1) := by decide +kernel
theorem dX4_putOn_43 : decode cX4_putOn 43 = .ok (.iload_n 2, 1) := by decide +kernel
theorem dX4_putOn_44 : decode cX4_putOn 44 = .ok (.invokevirtual 47, 3) := by decide +kernel
theorem dX4_putOn_47 : decode cX4_putOn 47 = .ok (.aload_n 0, 1) := by decide +kernel
theorem dX4_putOn_48 : decode cX4_putOn 48 = .ok (.aload_n 0, 1) := by decide +kernel
theorem dX4_putOn_49 : decode cX4_putOn 49 = .ok (.getfield 15, 3) := by decide +kernel
theorem dX4_putOn_52 : decode cX4_putOn 52 = .ok (.iload_n 1, 1) := by decide +kernel
theorem dX4_putOn_53 : decode cX4_putOn 53 = .ok (.iaload, 1) := by decide +kernel
theorem dX4_putOn_54 : decode cX4_putOn 54 = .ok (.iload_n 2, 1) := by decide +kernel
theorem dX4_putOn_55 : decode cX4_putOn 55 = .ok (.invokevirtual 47, 3) := by decide +kernel
theorem dX4_putOn_58 : decode cX4_putOn 58 = .ok (.return_, 1) := by decide +kernel
set_option maxHeartbeats 4000000 in
set_option maxRecDepth 100000 in
theorem uX4_putOn (C : CX D [(cA, .int)] p s m args meth c A cX4_putOn 3 RX4 none) (v1 v2 : Int32) (S : St) : RU D (wX a cA) p l e 2 s m args below meth c A 3 (QV D (wX a cA) [(cA, .int)] A) (fX4_putOn v1 v2 S) 0 [] [(0, .ref (a 1)), (1, .int v1), (2, .int v2)] S := by
  unfold fX4_putOn
  refine R_aload_n C dX4_putOn_0 rfl 0 rfl ?_
  refine R_iload_n C dX4_putOn_1 rfl 2 rfl ?_
  refine R_calli (As := [.int v2]) (st := []) C (kX4_hasHost l D a cA S v2) (by decide) (by decide) wd_2_37 kwX4_hasHost 1 rfl rfl rfl rfl (Nat.le_of_ble_eq_true rfl) dX4_putOn_2 (fun r1 S2 => ?_)
  refine R_if_ne (tgt := 9) C dX4_putOn_5 (by decide) ?_ ?_
  · exact R_retv C dX4_putOn_8
  · refine R_aload_n C dX4_putOn_9 rfl 0 rfl ?_
    refine gtX_X4_hostOf C wd_1_42 dX4_putOn_10 ?_
    refine R_iload_n C dX4_putOn_13 rfl 1 rfl ?_
    refine R_iload_n C dX4_putOn_14 rfl 2 rfl ?_
    refine svX3 C dX4_putOn_15 ?_
    refine R_letS (fun S3 => ?_)
    refine R_aload_n C dX4_putOn_16 rfl 0 rfl ?_
    refine gtX_X4_loads C wd_1_45 dX4_putOn_17 ?_
    refine R_iload_n C dX4_putOn_20 rfl 2 rfl ?_
    refine R_dup2 C dX4_putOn_21 rfl rfl ?_
    refine ldX4 C dX4_putOn_22 ?_
    refine R_iconst (v := (1 : Int32)) C dX4_putOn_23 (by decide) ?_
    refine R_iadd C dX4_putOn_24 ?_
    refine svX4 C dX4_putOn_25 ?_
    refine R_letS (fun S4 => ?_)
    refine R_aload_n C dX4_putOn_26 rfl 0 rfl ?_
    refine R_dup C dX4_putOn_27 rfl ?_
    refine gtX_X4_live C wd_1_68 dX4_putOn_28 ?_
    refine R_iconst (v := (1 : Int32)) C dX4_putOn_31 (by decide) ?_
    refine R_iadd C dX4_putOn_32 ?_
    refine ptX_X4_live C wd_1_68 dX4_putOn_33 ?_
    refine R_letS (fun S5 => ?_)
    refine R_aload_n C dX4_putOn_36 rfl 0 rfl ?_
    refine R_aload_n C dX4_putOn_37 rfl 0 rfl ?_
    refine gtX_X4_firstEnd C wd_1_32 dX4_putOn_38 ?_
    refine R_iload_n C dX4_putOn_41 rfl 1 rfl ?_
    refine ldX1 C dX4_putOn_42 ?_
    refine R_iload_n C dX4_putOn_43 rfl 2 rfl ?_
    refine R_callv (As := [.int (S5.2 1 (ix v1)), .int v2]) (st := []) C (kX4_putEnd l D a cA S5 (S5.2 1 (ix v1)) v2) (by decide) (by decide) wd_2_41 kwX4_putEnd 1 rfl rfl rfl rfl (Nat.le_of_ble_eq_true rfl) dX4_putOn_44 (fun r6 S7 => ?_)
    refine R_aload_n C dX4_putOn_47 rfl 0 rfl ?_
    refine R_aload_n C dX4_putOn_48 rfl 0 rfl ?_
    refine gtX_X4_secondEnd C wd_1_37 dX4_putOn_49 ?_
    refine R_iload_n C dX4_putOn_52 rfl 1 rfl ?_
    refine ldX2 C dX4_putOn_53 ?_
    refine R_iload_n C dX4_putOn_54 rfl 2 rfl ?_
    refine R_callv (As := [.int (S7.2 2 (ix v1)), .int v2]) (st := []) C (kX4_putEnd l D a cA S7 (S7.2 2 (ix v1)) v2) (by decide) (by decide) wd_2_41 kwX4_putEnd 1 rfl rfl rfl rfl (Nat.le_of_ble_eq_true rfl) dX4_putOn_55 (fun r8 S9 => ?_)
    exact R_retv C dX4_putOn_58
set_option maxHeartbeats 4000000 in
set_option maxRecDepth 100000 in
theorem kX4_putOn (l : Launch) (D : va_G) (a : Nat → Nat) (cA : ClassId) (S : St) (v1 v2 : Int32) : CV l D (wX a cA) [(cA, .int)] yX4_putOn (.code yX4_putOn cX4_putOn 3 none) 2 [.ref (a 1), .int v1, .int v2] (fX4_putOn v1 v2 S) S := CV_of rfl (Nat.le_of_ble_eq_true rfl) (fun p e s m args below meth c A C => uX4_putOn C v1 v2 S)
theorem dX1_dealLine_0 : decode cX1_dealLine 0 = .ok (.aload_n 0, 1) := by decide +kernel
theorem dX1_dealLine_1 : decode cX1_dealLine 1 = .ok (.aload_n 0, 1) := by decide +kernel
theorem dX1_dealLine_2 : decode cX1_dealLine 2 = .ok (.getfield 21, 3) := by decide +kernel
theorem dX1_dealLine_5 : decode cX1_dealLine 5 = .ok (.getfield 30, 3) := by decide +kernel
theorem dX1_dealLine_8 : decode cX1_dealLine 8 = .ok (.iload_n 1, 1) := by decide +kernel
theorem dX1_dealLine_9 : decode cX1_dealLine 9 = .ok (.iaload, 1) := by decide +kernel
theorem dX1_dealLine_10 : decode cX1_dealLine 10 = .ok (.aload_n 0, 1) := by decide +kernel
theorem dX1_dealLine_11 : decode cX1_dealLine 11 = .ok (.getfield 21, 3) := by decide +kernel
theorem dX1_dealLine_14 : decode cX1_dealLine 14 = .ok (.getfield 34, 3) := by decide +kernel
theorem dX1_dealLine_17 : decode cX1_dealLine 17 = .ok (.iload_n 1, 1) := by decide +kernel
theorem dX1_dealLine_18 : decode cX1_dealLine 18 = .ok (.iaload, 1) := by decide +kernel
theorem dX1_dealLine_19 : decode cX1_dealLine 19 = .ok (.invokevirtual 37, 3) := by decide +kernel
theorem dX1_dealLine_22 : decode cX1_dealLine 22 = .ok (.istore_n 2, 1) := by decide +kernel
theorem dX1_dealLine_23 : decode cX1_dealLine 23 = .ok (.aload_n 0, 1) := by decide +kernel
theorem dX1_dealLine_24 : decode cX1_dealLine 24 = .ok (.getfield 21, 3) := by decide +kernel
theorem dX1_dealLine_27 : decode cX1_dealLine 27 = .ok (.iload_n 1, 1) := by decide +kernel
theorem dX1_dealLine_28 : decode cX1_dealLine 28 = .ok (.iload_n 2, 1) := by decide +kernel
theorem dX1_dealLine_29 : decode cX1_dealLine 29 = .ok (.invokevirtual 41, 3) := by decide +kernel
theorem dX1_dealLine_32 : decode cX1_dealLine 32 = .ok (.iload_n 2, 1) := by decide +kernel
theorem dX1_dealLine_33 : decode cX1_dealLine 33 = .ok (.ireturn, 1) := by decide +kernel
set_option maxHeartbeats 4000000 in
set_option maxRecDepth 100000 in
theorem uX1_dealLine (C : CX D [(cA, .int)] p s m args meth c A cX1_dealLine 3 RX1 (some .int)) (v1 : Int32) (S : St) : RU D (wX a cA) p l e 5 s m args below meth c A 3 (QI D (wX a cA) [(cA, .int)] A) (fX1_dealLine v1 S) 0 [] [(0, .ref (a 2)), (1, .int v1)] S := by
  unfold fX1_dealLine
  refine R_aload_n C dX1_dealLine_0 rfl 0 rfl ?_
  refine R_aload_n C dX1_dealLine_1 rfl 0 rfl ?_
  refine gtX_X1_net C wd_1_103 dX1_dealLine_2 ?_
  refine gtX_X4_firstEnd C wd_1_33 dX1_dealLine_5 ?_
  refine R_iload_n C dX1_dealLine_8 rfl 1 rfl ?_
  refine ldX1 C dX1_dealLine_9 ?_
  refine R_aload_n C dX1_dealLine_10 rfl 0 rfl ?_
  refine gtX_X1_net C wd_1_103 dX1_dealLine_11 ?_
  refine gtX_X4_secondEnd C wd_1_38 dX1_dealLine_14 ?_
  refine R_iload_n C dX1_dealLine_17 rfl 1 rfl ?_
  refine ldX2 C dX1_dealLine_18 ?_
  refine R_calli (As := [.int (S.2 1 (ix v1)), .int (S.2 2 (ix v1))]) (st := []) C (kX1_chooseHost l D a cA S (S.2 1 (ix v1)) (S.2 2 (ix v1))) (by decide) (by decide) wd_2_8 kwX1_chooseHost 2 rfl rfl rfl rfl (Nat.le_of_ble_eq_true rfl) dX1_dealLine_19 (fun r1 S2 => ?_)
  refine R_istore_n (lv' := [(2, .int r1), (0, .ref (a 2)), (1, .int v1)]) C dX1_dealLine_22 rfl (by decide) rfl ?_
  refine R_aload_n C dX1_dealLine_23 rfl 1 rfl ?_
  refine gtX_X1_net C wd_1_103 dX1_dealLine_24 ?_
  refine R_iload_n C dX1_dealLine_27 rfl 2 rfl ?_
  refine R_iload_n C dX1_dealLine_28 rfl 0 rfl ?_
  refine R_callv (As := [.int v1, .int r1]) (st := []) C (kX4_putOn l D a cA S2 v1 r1) (by decide) (by decide) wd_2_33 kwX4_putOn 1 rfl rfl rfl rfl (Nat.le_of_ble_eq_true rfl) dX1_dealLine_29 (fun r3 S4 => ?_)
  refine R_iload_n C dX1_dealLine_32 rfl 0 rfl ?_
  exact R_reti C dX1_dealLine_33
set_option maxHeartbeats 4000000 in
set_option maxRecDepth 100000 in
theorem kX1_dealLine (l : Launch) (D : va_G) (a : Nat → Nat) (cA : ClassId) (S : St) (v1 : Int32) : CI l D (wX a cA) [(cA, .int)] yX1_dealLine (.code yX1_dealLine cX1_dealLine 3 (some .int)) 5 [.ref (a 2), .int v1] (fX1_dealLine v1 S) S := CI_of rfl (Nat.le_of_ble_eq_true rfl) (fun p e s m args below meth c A C => uX1_dealLine C v1 S)
theorem dX4_isLive_0 : decode cX4_isLive 0 = .ok (.iload_n 1, 1) := by decide +kernel
theorem dX4_isLive_1 : decode cX4_isLive 1 = .ok (.ifCond .lt 25, 3) := by decide +kernel
theorem dX4_isLive_4 : decode cX4_isLive 4 = .ok (.iload_n 1, 1) := by decide +kernel
theorem dX4_isLive_5 : decode cX4_isLive 5 = .ok (.aload_n 0, 1) := by decide +kernel
theorem dX4_isLive_6 : decode cX4_isLive 6 = .ok (.getfield 37, 3) := by decide +kernel
theorem dX4_isLive_9 : decode cX4_isLive 9 = .ok (.if_icmp .ge 17, 3) := by decide +kernel
theorem dX4_isLive_12 : decode cX4_isLive 12 = .ok (.aload_n 0, 1) := by decide +kernel
theorem dX4_isLive_13 : decode cX4_isLive 13 = .ok (.getfield 18, 3) := by decide +kernel
theorem dX4_isLive_16 : decode cX4_isLive 16 = .ok (.iload_n 1, 1) := by decide +kernel
theorem dX4_isLive_17 : decode cX4_isLive 17 = .ok (.iaload, 1) := by decide +kernel
theorem dX4_isLive_18 : decode cX4_isLive 18 = .ok (.iconst (-1), 1) := by decide +kernel
theorem dX4_isLive_19 : decode cX4_isLive 19 = .ok (.if_icmp .eq 7, 3) := by decide +kernel
theorem dX4_isLive_22 : decode cX4_isLive 22 = .ok (.iconst 1, 1) := by decide +kernel
theorem dX4_isLive_23 : decode cX4_isLive 23 = .ok (.goto 4, 3) := by decide +kernel
theorem dX4_isLive_26 : decode cX4_isLive 26 = .ok (.iconst 0, 1) := by decide +kernel
theorem dX4_isLive_27 : decode cX4_isLive 27 = .ok (.ireturn, 1) := by decide +kernel
set_option maxHeartbeats 4000000 in
set_option maxRecDepth 100000 in
theorem uX4_isLive_27 (C : CX D [(cA, .int)] p s m args meth c A cX4_isLive 2 RX4 (some .boolean)) (t0 : Int32) (S : St) : RU D (wX a cA) p l e 1 s m args below meth c A 2 (QI D (wX a cA) [(cA, .int)] A) (fX4_isLive_27 t0 S) 27 [.int t0] [] S := by
  unfold fX4_isLive_27
  exact R_retz C dX4_isLive_27
set_option maxHeartbeats 4000000 in
set_option maxRecDepth 100000 in
theorem uX4_isLive_26 (C : CX D [(cA, .int)] p s m args meth c A cX4_isLive 2 RX4 (some .boolean)) (S : St) : RU D (wX a cA) p l e 1 s m args below meth c A 2 (QI D (wX a cA) [(cA, .int)] A) (fX4_isLive_26 S) 26 [] [] S := by
  unfold fX4_isLive_26
  refine R_iconst (v := (0 : Int32)) C dX4_isLive_26 (by decide) ?_
  exact uX4_isLive_27 C (0 : Int32) S
set_option maxHeartbeats 4000000 in
set_option maxRecDepth 100000 in
theorem uX4_isLive (C : CX D [(cA, .int)] p s m args meth c A cX4_isLive 2 RX4 (some .boolean)) (v1 : Int32) (S : St) : RU D (wX a cA) p l e 1 s m args below meth c A 2 (QI D (wX a cA) [(cA, .int)] A) (fX4_isLive v1 S) 0 [] [(0, .ref (a 1)), (1, .int v1)] S := by
  unfold fX4_isLive
  refine R_iload_n C dX4_isLive_0 rfl 1 rfl ?_
  refine R_if_lt (tgt := 26) C dX4_isLive_1 (by decide) ?_ ?_
  · refine R_sub [] rfl ?_
    exact uX4_isLive_26 C S
  · refine R_iload_n C dX4_isLive_4 rfl 1 rfl ?_
    refine R_aload_n C dX4_isLive_5 rfl 0 rfl ?_
    refine gtX_X4_came C wd_1_64 dX4_isLive_6 ?_
    refine R_icmp_ge (tgt := 26) C dX4_isLive_9 (by decide) ?_ ?_
    · refine R_sub [] rfl ?_
      exact uX4_isLive_26 C S
    · refine R_aload_n C dX4_isLive_12 rfl 0 rfl ?_
      refine gtX_X4_hostOf C wd_1_42 dX4_isLive_13 ?_
      refine R_iload_n C dX4_isLive_16 rfl 1 rfl ?_
      refine ldX3 C dX4_isLive_17 ?_
      refine R_iconst (v := (-1 : Int32)) C dX4_isLive_18 (by decide) ?_
      refine R_icmp_eq (tgt := 26) C dX4_isLive_19 (by decide) ?_ ?_
      · refine R_sub [] rfl ?_
        exact uX4_isLive_26 C S
      · refine R_iconst (v := (1 : Int32)) C dX4_isLive_22 (by decide) ?_
        refine R_goto (tgt := 27) C dX4_isLive_23 (by decide) ?_
        refine R_sub [] rfl ?_
        exact uX4_isLive_27 C (1 : Int32) S
set_option maxHeartbeats 4000000 in
set_option maxRecDepth 100000 in
theorem kX4_isLive (l : Launch) (D : va_G) (a : Nat → Nat) (cA : ClassId) (S : St) (v1 : Int32) : CI l D (wX a cA) [(cA, .int)] yX4_isLive (.code yX4_isLive cX4_isLive 2 (some .boolean)) 1 [.ref (a 1), .int v1] (fX4_isLive v1 S) S := CI_of rfl (Nat.le_of_ble_eq_true rfl) (fun p e s m args below meth c A C => uX4_isLive C v1 S)
theorem dX4_takeEnd_0 : decode cX4_takeEnd 0 = .ok (.aload_n 0, 1) := by decide +kernel
theorem dX4_takeEnd_1 : decode cX4_takeEnd 1 = .ok (.getfield 24, 3) := by decide +kernel
theorem dX4_takeEnd_4 : decode cX4_takeEnd 4 = .ok (.iload_n 1, 1) := by decide +kernel
theorem dX4_takeEnd_5 : decode cX4_takeEnd 5 = .ok (.dup2, 1) := by decide +kernel
theorem dX4_takeEnd_6 : decode cX4_takeEnd 6 = .ok (.iaload, 1) := by decide +kernel
theorem dX4_takeEnd_7 : decode cX4_takeEnd 7 = .ok (.iconst 1, 1) := by decide +kernel
theorem dX4_takeEnd_8 : decode cX4_takeEnd 8 = .ok (.isub, 1) := by decide +kernel
theorem dX4_takeEnd_9 : decode cX4_takeEnd 9 = .ok (.iastore, 1) := by decide +kernel
theorem dX4_takeEnd_10 : decode cX4_takeEnd 10 = .ok (.aload_n 0, 1) := by decide +kernel
theorem dX4_takeEnd_11 : decode cX4_takeEnd 11 = .ok (.getfield 30, 3) := by decide +kernel
theorem dX4_takeEnd_14 : decode cX4_takeEnd 14 = .ok (.iload_n 2, 1) := by decide +kernel
theorem dX4_takeEnd_15 : decode cX4_takeEnd 15 = .ok (.bipush 40, 2) := by decide +kernel
theorem dX4_takeEnd_17 : decode cX4_takeEnd 17 = .ok (.imul, 1) := by decide +kernel
theorem dX4_takeEnd_18 : decode cX4_takeEnd 18 = .ok (.iload_n 1, 1) := by decide +kernel
theorem dX4_takeEnd_19 : decode cX4_takeEnd 19 = .ok (.iadd, 1) := by decide +kernel
theorem dX4_takeEnd_20 : decode cX4_takeEnd 20 = .ok (.dup2, 1) := by decide +kernel
theorem dX4_takeEnd_21 : decode cX4_takeEnd 21 = .ok (.iaload, 1) := by decide +kernel
theorem dX4_takeEnd_22 : decode cX4_takeEnd 22 = .ok (.iconst 1, 1) := by decide +kernel
theorem dX4_takeEnd_23 : decode cX4_takeEnd 23 = .ok (.isub, 1) := by decide +kernel
theorem dX4_takeEnd_24 : decode cX4_takeEnd 24 = .ok (.iastore, 1) := by decide +kernel
theorem dX4_takeEnd_25 : decode cX4_takeEnd 25 = .ok (.aload_n 0, 1) := by decide +kernel
theorem dX4_takeEnd_26 : decode cX4_takeEnd 26 = .ok (.getfield 30, 3) := by decide +kernel
theorem dX4_takeEnd_29 : decode cX4_takeEnd 29 = .ok (.iload_n 2, 1) := by decide +kernel
theorem dX4_takeEnd_30 : decode cX4_takeEnd 30 = .ok (.bipush 40, 2) := by decide +kernel
theorem dX4_takeEnd_32 : decode cX4_takeEnd 32 = .ok (.imul, 1) := by decide +kernel
theorem dX4_takeEnd_33 : decode cX4_takeEnd 33 = .ok (.iload_n 1, 1) := by decide +kernel
theorem dX4_takeEnd_34 : decode cX4_takeEnd 34 = .ok (.iadd, 1) := by decide +kernel
theorem dX4_takeEnd_35 : decode cX4_takeEnd 35 = .ok (.iaload, 1) := by decide +kernel
theorem dX4_takeEnd_36 : decode cX4_takeEnd 36 = .ok (.ifCond .ne 27, 3) := by decide +kernel
theorem dX4_takeEnd_39 : decode cX4_takeEnd 39 = .ok (.aload_n 0, 1) := by decide +kernel
theorem dX4_takeEnd_40 : decode cX4_takeEnd 40 = .ok (.getfield 27, 3) := by decide +kernel
theorem dX4_takeEnd_43 : decode cX4_takeEnd 43 = .ok (.iload_n 1, 1) := by decide +kernel
theorem dX4_takeEnd_44 : decode cX4_takeEnd 44 = .ok (.dup2, 1) := by decide +kernel
theorem dX4_takeEnd_45 : decode cX4_takeEnd 45 = .ok (.iaload, 1) := by decide +kernel
theorem dX4_takeEnd_46 : decode cX4_takeEnd 46 = .ok (.iconst 1, 1) := by decide +kernel
theorem dX4_takeEnd_47 : decode cX4_takeEnd 47 = .ok (.iload_n 2, 1) := by decide +kernel
theorem dX4_takeEnd_48 : decode cX4_takeEnd 48 = .ok (.ishl, 1) := by decide +kernel
theorem dX4_takeEnd_49 : decode cX4_takeEnd 49 = .ok (.iconst (-1), 1) := by decide +kernel
theorem dX4_takeEnd_50 : decode cX4_takeEnd 50 = .ok (.ixor, 1) := by decide +kernel
theorem dX4_takeEnd_51 : decode cX4_takeEnd 51 = .ok (.iand, 1) := by decide +kernel
theorem dX4_takeEnd_52 : decode cX4_takeEnd 52 = .ok (.iastore, 1) := by decide +kernel
theorem dX4_takeEnd_53 : decode cX4_takeEnd 53 = .ok (.aload_n 0, 1) := by decide +kernel
theorem dX4_takeEnd_54 : decode cX4_takeEnd 54 = .ok (.dup, 1) := by decide +kernel
theorem dX4_takeEnd_55 : decode cX4_takeEnd 55 = .ok (.getfield 57, 3) := by decide +kernel
theorem dX4_takeEnd_58 : decode cX4_takeEnd 58 = .ok (.iconst 1, 1) := by decide +kernel
theorem dX4_takeEnd_59 : decode cX4_takeEnd 59 = .ok (.isub, 1) := by decide +kernel
theorem dX4_takeEnd_60 : decode cX4_takeEnd 60 = .ok (.putfield 57, 3) := by decide +kernel
theorem dX4_takeEnd_63 : decode cX4_takeEnd 63 = .ok (.return_, 1) := by decide +kernel
set_option maxHeartbeats 4000000 in
set_option maxRecDepth 100000 in
theorem uX4_takeEnd_63 (C : CX D [(cA, .int)] p s m args meth c A cX4_takeEnd 3 RX4 none) (S : St) : RU D (wX a cA) p l e 1 s m args below meth c A 3 (QV D (wX a cA) [(cA, .int)] A) (fX4_takeEnd_63 S) 63 [] [] S := by
  unfold fX4_takeEnd_63
  exact R_retv C dX4_takeEnd_63
set_option maxHeartbeats 4000000 in
set_option maxRecDepth 100000 in
theorem uX4_takeEnd (C : CX D [(cA, .int)] p s m args meth c A cX4_takeEnd 3 RX4 none) (v1 v2 : Int32) (S : St) : RU D (wX a cA) p l e 1 s m args below meth c A 3 (QV D (wX a cA) [(cA, .int)] A) (fX4_takeEnd v1 v2 S) 0 [] [(0, .ref (a 1)), (1, .int v1), (2, .int v2)] S := by
  unfold fX4_takeEnd
  refine R_aload_n C dX4_takeEnd_0 rfl 0 rfl ?_
  refine gtX_X4_degrees C wd_1_49 dX4_takeEnd_1 ?_
  refine R_iload_n C dX4_takeEnd_4 rfl 1 rfl ?_
  refine R_dup2 C dX4_takeEnd_5 rfl rfl ?_
  refine ldX5 C dX4_takeEnd_6 ?_
  refine R_iconst (v := (1 : Int32)) C dX4_takeEnd_7 (by decide) ?_
  refine R_isub C dX4_takeEnd_8 ?_
  refine svX5 C dX4_takeEnd_9 ?_
  refine R_letS (fun S1 => ?_)
  refine R_aload_n C dX4_takeEnd_10 rfl 0 rfl ?_
  refine gtX_X4_linesAt C wd_1_55 dX4_takeEnd_11 ?_
  refine R_iload_n C dX4_takeEnd_14 rfl 2 rfl ?_
  refine R_bipush (v := (40 : Int32)) C dX4_takeEnd_15 (by decide) ?_
  refine R_imul C dX4_takeEnd_17 ?_
  refine R_iload_n C dX4_takeEnd_18 rfl 1 rfl ?_
  refine R_iadd C dX4_takeEnd_19 ?_
  refine R_dup2 C dX4_takeEnd_20 rfl rfl ?_
  refine ldX7 C dX4_takeEnd_21 ?_
  refine R_iconst (v := (1 : Int32)) C dX4_takeEnd_22 (by decide) ?_
  refine R_isub C dX4_takeEnd_23 ?_
  refine svX7 C dX4_takeEnd_24 ?_
  refine R_letS (fun S2 => ?_)
  refine R_aload_n C dX4_takeEnd_25 rfl 0 rfl ?_
  refine gtX_X4_linesAt C wd_1_55 dX4_takeEnd_26 ?_
  refine R_iload_n C dX4_takeEnd_29 rfl 2 rfl ?_
  refine R_bipush (v := (40 : Int32)) C dX4_takeEnd_30 (by decide) ?_
  refine R_imul C dX4_takeEnd_32 ?_
  refine R_iload_n C dX4_takeEnd_33 rfl 1 rfl ?_
  refine R_iadd C dX4_takeEnd_34 ?_
  refine ldX7 C dX4_takeEnd_35 ?_
  refine R_if_ne (tgt := 63) C dX4_takeEnd_36 (by decide) ?_ ?_
  · refine R_aload_n C dX4_takeEnd_39 rfl 0 rfl ?_
    refine gtX_X4_copyBits C wd_1_53 dX4_takeEnd_40 ?_
    refine R_iload_n C dX4_takeEnd_43 rfl 1 rfl ?_
    refine R_dup2 C dX4_takeEnd_44 rfl rfl ?_
    refine ldX6 C dX4_takeEnd_45 ?_
    refine R_iconst (v := (1 : Int32)) C dX4_takeEnd_46 (by decide) ?_
    refine R_iload_n C dX4_takeEnd_47 rfl 2 rfl ?_
    refine R_ishl C dX4_takeEnd_48 ?_
    refine R_iconst (v := (-1 : Int32)) C dX4_takeEnd_49 (by decide) ?_
    refine R_ixor C dX4_takeEnd_50 ?_
    refine R_iand C dX4_takeEnd_51 ?_
    refine svX6 C dX4_takeEnd_52 ?_
    refine R_letS (fun S3 => ?_)
    refine R_aload_n C dX4_takeEnd_53 rfl 0 rfl ?_
    refine R_dup C dX4_takeEnd_54 rfl ?_
    refine gtX_X4_allCopies C wd_1_71 dX4_takeEnd_55 ?_
    refine R_iconst (v := (1 : Int32)) C dX4_takeEnd_58 (by decide) ?_
    refine R_isub C dX4_takeEnd_59 ?_
    refine ptX_X4_allCopies C wd_1_71 dX4_takeEnd_60 ?_
    refine R_letS (fun S4 => ?_)
    refine R_sub [] rfl ?_
    exact uX4_takeEnd_63 C S4
  · refine R_sub [] rfl ?_
    exact uX4_takeEnd_63 C S2
set_option maxHeartbeats 4000000 in
set_option maxRecDepth 100000 in
theorem kX4_takeEnd (l : Launch) (D : va_G) (a : Nat → Nat) (cA : ClassId) (S : St) (v1 v2 : Int32) : CV l D (wX a cA) [(cA, .int)] yX4_takeEnd (.code yX4_takeEnd cX4_takeEnd 3 none) 1 [.ref (a 1), .int v1, .int v2] (fX4_takeEnd v1 v2 S) S := CV_of rfl (Nat.le_of_ble_eq_true rfl) (fun p e s m args below meth c A C => uX4_takeEnd C v1 v2 S)
end
