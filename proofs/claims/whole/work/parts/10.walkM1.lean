/-! walks of the reference -/
section
variable {D : va_G} {a : Nat → Nat} {cA cZ : ClassId} {p : Program} {l : Launch} {e : Env} {s : State} {m : MethodId} {args : Array Value} {below : List Frame} {meth : Method} {c : Code} {A : Nat → Prop}

theorem dX7_in_0 : decode cX7_in 0 = .ok (.iload_n 0, 1) := by decide +kernel
theorem dX7_in_1 : decode cX7_in 1 = .ok (.iload_n 1, 1) := by decide +kernel
theorem dX7_in_2 : decode cX7_in 2 = .ok (.if_icmp .lt 12, 3) := by decide +kernel
theorem dX7_in_5 : decode cX7_in 5 = .ok (.iload_n 0, 1) := by decide +kernel
theorem dX7_in_6 : decode cX7_in 6 = .ok (.iload_n 2, 1) := by decide +kernel
theorem dX7_in_7 : decode cX7_in 7 = .ok (.if_icmp .gt 7, 3) := by decide +kernel
theorem dX7_in_10 : decode cX7_in 10 = .ok (.iconst 1, 1) := by decide +kernel
theorem dX7_in_11 : decode cX7_in 11 = .ok (.goto 4, 3) := by decide +kernel
theorem dX7_in_14 : decode cX7_in 14 = .ok (.iconst 0, 1) := by decide +kernel
theorem dX7_in_15 : decode cX7_in 15 = .ok (.ireturn, 1) := by decide +kernel
set_option maxHeartbeats 4000000 in
set_option maxRecDepth 100000 in
theorem uX7_in_15 (C : CX D [(cA, .int), (cZ, .boolean)] p s m args meth c A cX7_in 3 RX7 (some .boolean)) (t0 : Int32) (S : St) : RU D (wM a cA cZ) p l e 1 s m args below meth c A 3 (QI D (wM a cA cZ) [(cA, .int), (cZ, .boolean)] A) (fX7_in_15 t0 S) 15 [.int t0] [] S := by
  unfold fX7_in_15
  exact R_retz C dX7_in_15
set_option maxHeartbeats 4000000 in
set_option maxRecDepth 100000 in
theorem uX7_in_14 (C : CX D [(cA, .int), (cZ, .boolean)] p s m args meth c A cX7_in 3 RX7 (some .boolean)) (S : St) : RU D (wM a cA cZ) p l e 1 s m args below meth c A 3 (QI D (wM a cA cZ) [(cA, .int), (cZ, .boolean)] A) (fX7_in_14 S) 14 [] [] S := by
  unfold fX7_in_14
  refine R_iconst (v := (0 : Int32)) C dX7_in_14 (by decide) ?_
  exact uX7_in_15 C (0 : Int32) S
set_option maxHeartbeats 4000000 in
set_option maxRecDepth 100000 in
theorem uX7_in (C : CX D [(cA, .int), (cZ, .boolean)] p s m args meth c A cX7_in 3 RX7 (some .boolean)) (v0 v1 v2 : Int32) (S : St) : RU D (wM a cA cZ) p l e 1 s m args below meth c A 3 (QI D (wM a cA cZ) [(cA, .int), (cZ, .boolean)] A) (fX7_in v0 v1 v2 S) 0 [] [(0, .int v0), (1, .int v1), (2, .int v2)] S := by
  unfold fX7_in
  refine R_iload_n C dX7_in_0 rfl 0 rfl ?_
  refine R_iload_n C dX7_in_1 rfl 1 rfl ?_
  refine R_icmp_lt (tgt := 14) C dX7_in_2 (by decide) ?_ ?_
  · refine R_sub [] rfl ?_
    exact uX7_in_14 C S
  · refine R_iload_n C dX7_in_5 rfl 0 rfl ?_
    refine R_iload_n C dX7_in_6 rfl 2 rfl ?_
    refine R_icmp_gt (tgt := 14) C dX7_in_7 (by decide) ?_ ?_
    · refine R_sub [] rfl ?_
      exact uX7_in_14 C S
    · refine R_iconst (v := (1 : Int32)) C dX7_in_10 (by decide) ?_
      refine R_goto (tgt := 15) C dX7_in_11 (by decide) ?_
      refine R_sub [] rfl ?_
      exact uX7_in_15 C (1 : Int32) S
set_option maxHeartbeats 4000000 in
set_option maxRecDepth 100000 in
theorem kX7_in (l : Launch) (D : va_G) (a : Nat → Nat) (cA cZ : ClassId) (S : St) (v0 v1 v2 : Int32) : CI l D (wM a cA cZ) [(cA, .int), (cZ, .boolean)] yX7_in (.code yX7_in cX7_in 3 (some .boolean)) 1 [.int v0, .int v1, .int v2] (fX7_in v0 v1 v2 S) S := CI_of rfl (Nat.le_of_ble_eq_true rfl) (fun p e s m args below meth c A C => uX7_in C v0 v1 v2 S)
theorem dX7_isPoint_0 : decode cX7_isPoint 0 = .ok (.iload_n 0, 1) := by decide +kernel
theorem dX7_isPoint_1 : decode cX7_isPoint 1 = .ok (.iconst 0, 1) := by decide +kernel
theorem dX7_isPoint_2 : decode cX7_isPoint 2 = .ok (.bipush 39, 2) := by decide +kernel
theorem dX7_isPoint_4 : decode cX7_isPoint 4 = .ok (.invokestatic 57, 3) := by decide +kernel
theorem dX7_isPoint_7 : decode cX7_isPoint 7 = .ok (.ireturn, 1) := by decide +kernel
set_option maxHeartbeats 4000000 in
set_option maxRecDepth 100000 in
theorem uX7_isPoint (C : CX D [(cA, .int), (cZ, .boolean)] p s m args meth c A cX7_isPoint 1 RX7 (some .boolean)) (v0 : Int32) (S : St) : RU D (wM a cA cZ) p l e 2 s m args below meth c A 1 (QI D (wM a cA cZ) [(cA, .int), (cZ, .boolean)] A) (fX7_isPoint v0 S) 0 [] [(0, .int v0)] S := by
  unfold fX7_isPoint
  refine R_iload_n C dX7_isPoint_0 rfl 0 rfl ?_
  refine R_iconst (v := (0 : Int32)) C dX7_isPoint_1 (by decide) ?_
  refine R_bipush (v := (39 : Int32)) C dX7_isPoint_2 (by decide) ?_
  refine R_calls (As := [.int v0, .int (0 : Int32), .int (39 : Int32)]) (st := []) C (kX7_in l D a cA cZ S v0 (0 : Int32) (39 : Int32)) (by decide) (by decide) wd_3_70 kwX7_in rfl rfl (Nat.le_of_ble_eq_true rfl) dX7_isPoint_4 (fun r1 S2 => ?_)
  exact R_retz C dX7_isPoint_7
set_option maxHeartbeats 4000000 in
set_option maxRecDepth 100000 in
theorem kX7_isPoint (l : Launch) (D : va_G) (a : Nat → Nat) (cA cZ : ClassId) (S : St) (v0 : Int32) : CI l D (wM a cA cZ) [(cA, .int), (cZ, .boolean)] yX7_isPoint (.code yX7_isPoint cX7_isPoint 1 (some .boolean)) 2 [.int v0] (fX7_isPoint v0 S) S := CI_of rfl (Nat.le_of_ble_eq_true rfl) (fun p e s m args below meth c A C => uX7_isPoint C v0 S)
theorem dX7_isLive_0 : decode cX7_isLive 0 = .ok (.iload_n 1, 1) := by decide +kernel
theorem dX7_isLive_1 : decode cX7_isLive 1 = .ok (.iconst 0, 1) := by decide +kernel
theorem dX7_isLive_2 : decode cX7_isLive 2 = .ok (.aload_n 0, 1) := by decide +kernel
theorem dX7_isLive_3 : decode cX7_isLive 3 = .ok (.getfield 61, 3) := by decide +kernel
theorem dX7_isLive_6 : decode cX7_isLive 6 = .ok (.iconst 1, 1) := by decide +kernel
theorem dX7_isLive_7 : decode cX7_isLive 7 = .ok (.isub, 1) := by decide +kernel
theorem dX7_isLive_8 : decode cX7_isLive 8 = .ok (.invokestatic 57, 3) := by decide +kernel
theorem dX7_isLive_11 : decode cX7_isLive 11 = .ok (.ifCond .eq 17, 3) := by decide +kernel
theorem dX7_isLive_14 : decode cX7_isLive 14 = .ok (.aload_n 0, 1) := by decide +kernel
theorem dX7_isLive_15 : decode cX7_isLive 15 = .ok (.getfield 16, 3) := by decide +kernel
theorem dX7_isLive_18 : decode cX7_isLive 18 = .ok (.iload_n 1, 1) := by decide +kernel
theorem dX7_isLive_19 : decode cX7_isLive 19 = .ok (.iaload, 1) := by decide +kernel
theorem dX7_isLive_20 : decode cX7_isLive 20 = .ok (.iconst (-1), 1) := by decide +kernel
theorem dX7_isLive_21 : decode cX7_isLive 21 = .ok (.if_icmp .eq 7, 3) := by decide +kernel
theorem dX7_isLive_24 : decode cX7_isLive 24 = .ok (.iconst 1, 1) := by decide +kernel
theorem dX7_isLive_25 : decode cX7_isLive 25 = .ok (.goto 4, 3) := by decide +kernel
theorem dX7_isLive_28 : decode cX7_isLive 28 = .ok (.iconst 0, 1) := by decide +kernel
theorem dX7_isLive_29 : decode cX7_isLive 29 = .ok (.ireturn, 1) := by decide +kernel
set_option maxHeartbeats 4000000 in
set_option maxRecDepth 100000 in
theorem uX7_isLive_29 (C : CX D [(cA, .int), (cZ, .boolean)] p s m args meth c A cX7_isLive 2 RX7 (some .boolean)) (t0 : Int32) (S : St) : RU D (wM a cA cZ) p l e 2 s m args below meth c A 2 (QI D (wM a cA cZ) [(cA, .int), (cZ, .boolean)] A) (fX7_isLive_29 t0 S) 29 [.int t0] [] S := by
  unfold fX7_isLive_29
  exact R_retz C dX7_isLive_29
set_option maxHeartbeats 4000000 in
set_option maxRecDepth 100000 in
theorem uX7_isLive_28 (C : CX D [(cA, .int), (cZ, .boolean)] p s m args meth c A cX7_isLive 2 RX7 (some .boolean)) (S : St) : RU D (wM a cA cZ) p l e 2 s m args below meth c A 2 (QI D (wM a cA cZ) [(cA, .int), (cZ, .boolean)] A) (fX7_isLive_28 S) 28 [] [] S := by
  unfold fX7_isLive_28
  refine R_iconst (v := (0 : Int32)) C dX7_isLive_28 (by decide) ?_
  exact uX7_isLive_29 C (0 : Int32) S
set_option maxHeartbeats 4000000 in
set_option maxRecDepth 100000 in
theorem uX7_isLive (C : CX D [(cA, .int), (cZ, .boolean)] p s m args meth c A cX7_isLive 2 RX7 (some .boolean)) (v1 : Int32) (S : St) : RU D (wM a cA cZ) p l e 2 s m args below meth c A 2 (QI D (wM a cA cZ) [(cA, .int), (cZ, .boolean)] A) (fX7_isLive v1 S) 0 [] [(0, .ref (a 0)), (1, .int v1)] S := by
  unfold fX7_isLive
  refine R_iload_n C dX7_isLive_0 rfl 1 rfl ?_
  refine R_iconst (v := (0 : Int32)) C dX7_isLive_1 (by decide) ?_
  refine R_aload_n C dX7_isLive_2 rfl 0 rfl ?_
  refine gtM_X7_lines C wd_3_5 dX7_isLive_3 ?_
  refine R_iconst (v := (1 : Int32)) C dX7_isLive_6 (by decide) ?_
  refine R_isub C dX7_isLive_7 ?_
  refine R_calls (As := [.int v1, .int (0 : Int32), .int ((S.1 1) - (1 : Int32))]) (st := []) C (kX7_in l D a cA cZ S v1 (0 : Int32) ((S.1 1) - (1 : Int32))) (by decide) (by decide) wd_3_70 kwX7_in rfl rfl (Nat.le_of_ble_eq_true rfl) dX7_isLive_8 (fun r1 S2 => ?_)
  refine R_if_eq (tgt := 28) C dX7_isLive_11 (by decide) ?_ ?_
  · refine R_sub [] rfl ?_
    exact uX7_isLive_28 C S2
  · refine R_aload_n C dX7_isLive_14 rfl 0 rfl ?_
    refine gtM_X7_hostOf C wd_3_8 dX7_isLive_15 ?_
    refine R_iload_n C dX7_isLive_18 rfl 1 rfl ?_
    refine ldM2 C dX7_isLive_19 ?_
    refine R_iconst (v := (-1 : Int32)) C dX7_isLive_20 (by decide) ?_
    refine R_icmp_eq (tgt := 28) C dX7_isLive_21 (by decide) ?_ ?_
    · refine R_sub [] rfl ?_
      exact uX7_isLive_28 C S2
    · refine R_iconst (v := (1 : Int32)) C dX7_isLive_24 (by decide) ?_
      refine R_goto (tgt := 29) C dX7_isLive_25 (by decide) ?_
      refine R_sub [] rfl ?_
      exact uX7_isLive_29 C (1 : Int32) S2
set_option maxHeartbeats 4000000 in
set_option maxRecDepth 100000 in
theorem kX7_isLive (l : Launch) (D : va_G) (a : Nat → Nat) (cA cZ : ClassId) (S : St) (v1 : Int32) : CI l D (wM a cA cZ) [(cA, .int), (cZ, .boolean)] yX7_isLive (.code yX7_isLive cX7_isLive 2 (some .boolean)) 2 [.ref (a 0), .int v1] (fX7_isLive v1 S) S := CI_of rfl (Nat.le_of_ble_eq_true rfl) (fun p e s m args below meth c A C => uX7_isLive C v1 S)
theorem dX7_roomFor_0 : decode cX7_roomFor 0 = .ok (.iload_n 1, 1) := by decide +kernel
theorem dX7_roomFor_1 : decode cX7_roomFor 1 = .ok (.bipush 100, 2) := by decide +kernel
theorem dX7_roomFor_3 : decode cX7_roomFor 3 = .ok (.aload_n 0, 1) := by decide +kernel
theorem dX7_roomFor_4 : decode cX7_roomFor 4 = .ok (.getfield 25, 3) := by decide +kernel
theorem dX7_roomFor_7 : decode cX7_roomFor 7 = .ok (.iadd, 1) := by decide +kernel
theorem dX7_roomFor_8 : decode cX7_roomFor 8 = .ok (.imul, 1) := by decide +kernel
theorem dX7_roomFor_9 : decode cX7_roomFor 9 = .ok (.bipush 100, 2) := by decide +kernel
theorem dX7_roomFor_11 : decode cX7_roomFor 11 = .ok (.aload_n 0, 1) := by decide +kernel
theorem dX7_roomFor_12 : decode cX7_roomFor 12 = .ok (.getfield 54, 3) := by decide +kernel
theorem dX7_roomFor_15 : decode cX7_roomFor 15 = .ok (.imul, 1) := by decide +kernel
theorem dX7_roomFor_16 : decode cX7_roomFor 16 = .ok (.iadd, 1) := by decide +kernel
theorem dX7_roomFor_17 : decode cX7_roomFor 17 = .ok (.iconst 1, 1) := by decide +kernel
theorem dX7_roomFor_18 : decode cX7_roomFor 18 = .ok (.isub, 1) := by decide +kernel
theorem dX7_roomFor_19 : decode cX7_roomFor 19 = .ok (.bipush 100, 2) := by decide +kernel
theorem dX7_roomFor_21 : decode cX7_roomFor 21 = .ok (.aload_n 0, 1) := by decide +kernel
theorem dX7_roomFor_22 : decode cX7_roomFor 22 = .ok (.getfield 54, 3) := by decide +kernel
theorem dX7_roomFor_25 : decode cX7_roomFor 25 = .ok (.imul, 1) := by decide +kernel
theorem dX7_roomFor_26 : decode cX7_roomFor 26 = .ok (.idiv, 1) := by decide +kernel
theorem dX7_roomFor_27 : decode cX7_roomFor 27 = .ok (.ireturn, 1) := by decide +kernel
set_option maxHeartbeats 4000000 in
set_option maxRecDepth 100000 in
theorem uX7_roomFor (C : CX D [(cA, .int), (cZ, .boolean)] p s m args meth c A cX7_roomFor 2 RX7 (some .int)) (v1 : Int32) (S : St) : RU D (wM a cA cZ) p l e 1 s m args below meth c A 2 (QI D (wM a cA cZ) [(cA, .int), (cZ, .boolean)] A) (fX7_roomFor v1 S) 0 [] [(0, .ref (a 0)), (1, .int v1)] S := by
  unfold fX7_roomFor
  refine R_iload_n C dX7_roomFor_0 rfl 1 rfl ?_
  refine R_bipush (v := (100 : Int32)) C dX7_roomFor_1 (by decide) ?_
  refine R_aload_n C dX7_roomFor_3 rfl 0 rfl ?_
  refine gtM_X7_slack C wd_3_13 dX7_roomFor_4 ?_
  refine R_iadd C dX7_roomFor_7 ?_
  refine R_imul C dX7_roomFor_8 ?_
  refine R_bipush (v := (100 : Int32)) C dX7_roomFor_9 (by decide) ?_
  refine R_aload_n C dX7_roomFor_11 rfl 0 rfl ?_
  refine gtM_X7_hosts C wd_3_4 dX7_roomFor_12 ?_
  refine R_imul C dX7_roomFor_15 ?_
  refine R_iadd C dX7_roomFor_16 ?_
  refine R_iconst (v := (1 : Int32)) C dX7_roomFor_17 (by decide) ?_
  refine R_isub C dX7_roomFor_18 ?_
  refine R_bipush (v := (100 : Int32)) C dX7_roomFor_19 (by decide) ?_
  refine R_aload_n C dX7_roomFor_21 rfl 0 rfl ?_
  refine gtM_X7_hosts C wd_3_4 dX7_roomFor_22 ?_
  refine R_imul C dX7_roomFor_25 ?_
  refine R_idiv C dX7_roomFor_26 ?_
  exact R_reti C dX7_roomFor_27
set_option maxHeartbeats 4000000 in
set_option maxRecDepth 100000 in
theorem kX7_roomFor (l : Launch) (D : va_G) (a : Nat → Nat) (cA cZ : ClassId) (S : St) (v1 : Int32) : CI l D (wM a cA cZ) [(cA, .int), (cZ, .boolean)] yX7_roomFor (.code yX7_roomFor cX7_roomFor 2 (some .int)) 1 [.ref (a 0), .int v1] (fX7_roomFor v1 S) S := CI_of rfl (Nat.le_of_ble_eq_true rfl) (fun p e s m args below meth c A C => uX7_roomFor C v1 S)
theorem dX7_puts_0 : decode cX7_puts 0 = .ok (.aload_n 0, 1) := by decide +kernel
theorem dX7_puts_1 : decode cX7_puts 1 = .ok (.getfield 16, 3) := by decide +kernel
theorem dX7_puts_4 : decode cX7_puts 4 = .ok (.iload_n 1, 1) := by decide +kernel
theorem dX7_puts_5 : decode cX7_puts 5 = .ok (.iload_n 3, 1) := by decide +kernel
theorem dX7_puts_6 : decode cX7_puts 6 = .ok (.ifCond .le 7, 3) := by decide +kernel
theorem dX7_puts_9 : decode cX7_puts 9 = .ok (.iload_n 2, 1) := by decide +kernel
theorem dX7_puts_10 : decode cX7_puts 10 = .ok (.goto 4, 3) := by decide +kernel
theorem dX7_puts_13 : decode cX7_puts 13 = .ok (.iconst (-1), 1) := by decide +kernel
theorem dX7_puts_14 : decode cX7_puts 14 = .ok (.iastore, 1) := by decide +kernel
theorem dX7_puts_15 : decode cX7_puts 15 = .ok (.aload_n 0, 1) := by decide +kernel
theorem dX7_puts_16 : decode cX7_puts 16 = .ok (.getfield 19, 3) := by decide +kernel
theorem dX7_puts_19 : decode cX7_puts 19 = .ok (.iload_n 2, 1) := by decide +kernel
theorem dX7_puts_20 : decode cX7_puts 20 = .ok (.dup2, 1) := by decide +kernel
theorem dX7_puts_21 : decode cX7_puts 21 = .ok (.iaload, 1) := by decide +kernel
theorem dX7_puts_22 : decode cX7_puts 22 = .ok (.iload_n 3, 1) := by decide +kernel
theorem dX7_puts_23 : decode cX7_puts 23 = .ok (.iadd, 1) := by decide +kernel
theorem dX7_puts_24 : decode cX7_puts 24 = .ok (.iastore, 1) := by decide +kernel
theorem dX7_puts_25 : decode cX7_puts 25 = .ok (.aload_n 0, 1) := by decide +kernel
theorem dX7_puts_26 : decode cX7_puts 26 = .ok (.getfield 22, 3) := by decide +kernel
theorem dX7_puts_29 : decode cX7_puts 29 = .ok (.bipush 8, 2) := by decide +kernel
theorem dX7_puts_31 : decode cX7_puts 31 = .ok (.aload_n 0, 1) := by decide +kernel
theorem dX7_puts_32 : decode cX7_puts 32 = .ok (.getfield 9, 3) := by decide +kernel
theorem dX7_puts_35 : decode cX7_puts 35 = .ok (.iload_n 1, 1) := by decide +kernel
theorem dX7_puts_36 : decode cX7_puts 36 = .ok (.iaload, 1) := by decide +kernel
theorem dX7_puts_37 : decode cX7_puts 37 = .ok (.imul, 1) := by decide +kernel
theorem dX7_puts_38 : decode cX7_puts 38 = .ok (.iload_n 2, 1) := by decide +kernel
theorem dX7_puts_39 : decode cX7_puts 39 = .ok (.iadd, 1) := by decide +kernel
theorem dX7_puts_40 : decode cX7_puts 40 = .ok (.dup2, 1) := by decide +kernel
theorem dX7_puts_41 : decode cX7_puts 41 = .ok (.iaload, 1) := by decide +kernel
theorem dX7_puts_42 : decode cX7_puts 42 = .ok (.iload_n 3, 1) := by decide +kernel
theorem dX7_puts_43 : decode cX7_puts 43 = .ok (.iadd, 1) := by decide +kernel
theorem dX7_puts_44 : decode cX7_puts 44 = .ok (.iastore, 1) := by decide +kernel
theorem dX7_puts_45 : decode cX7_puts 45 = .ok (.aload_n 0, 1) := by decide +kernel
theorem dX7_puts_46 : decode cX7_puts 46 = .ok (.getfield 22, 3) := by decide +kernel
theorem dX7_puts_49 : decode cX7_puts 49 = .ok (.bipush 8, 2) := by decide +kernel
theorem dX7_puts_51 : decode cX7_puts 51 = .ok (.aload_n 0, 1) := by decide +kernel
theorem dX7_puts_52 : decode cX7_puts 52 = .ok (.getfield 13, 3) := by decide +kernel
theorem dX7_puts_55 : decode cX7_puts 55 = .ok (.iload_n 1, 1) := by decide +kernel
theorem dX7_puts_56 : decode cX7_puts 56 = .ok (.iaload, 1) := by decide +kernel
theorem dX7_puts_57 : decode cX7_puts 57 = .ok (.imul, 1) := by decide +kernel
theorem dX7_puts_58 : decode cX7_puts 58 = .ok (.iload_n 2, 1) := by decide +kernel
theorem dX7_puts_59 : decode cX7_puts 59 = .ok (.iadd, 1) := by decide +kernel
theorem dX7_puts_60 : decode cX7_puts 60 = .ok (.dup2, 1) := by decide +kernel
theorem dX7_puts_61 : decode cX7_puts 61 = .ok (.iaload, 1) := by decide +kernel
theorem dX7_puts_62 : decode cX7_puts 62 = .ok (.iload_n 3, 1) := by decide +kernel
theorem dX7_puts_63 : decode cX7_puts 63 = .ok (.iadd, 1) := by decide +kernel
theorem dX7_puts_64 : decode cX7_puts 64 = .ok (.iastore, 1) := by decide +kernel
theorem dX7_puts_65 : decode cX7_puts 65 = .ok (.aload_n 0, 1) := by decide +kernel
theorem dX7_puts_66 : decode cX7_puts 66 = .ok (.dup, 1) := by decide +kernel
theorem dX7_puts_67 : decode cX7_puts 67 = .ok (.getfield 64, 3) := by decide +kernel
theorem dX7_puts_70 : decode cX7_puts 70 = .ok (.iload_n 3, 1) := by decide +kernel
theorem dX7_puts_71 : decode cX7_puts 71 = .ok (.iadd, 1) := by decide +kernel
theorem dX7_puts_72 : decode cX7_puts 72 = .ok (.putfield 64, 3) := by decide +kernel
theorem dX7_puts_75 : decode cX7_puts 75 = .ok (.return_, 1) := by decide +kernel
set_option maxHeartbeats 4000000 in
set_option maxRecDepth 100000 in
theorem uX7_puts_14 (C : CX D [(cA, .int), (cZ, .boolean)] p s m args meth c A cX7_puts 4 RX7 none) (v1 v2 v3 t0 t1 : Int32) (S : St) : RU D (wM a cA cZ) p l e 1 s m args below meth c A 4 (QV D (wM a cA cZ) [(cA, .int), (cZ, .boolean)] A) (fX7_puts_14 v1 v2 v3 t0 t1 S) 14 [.int t0, .int t1, .ref (a 3)] [(0, .ref (a 0)), (1, .int v1), (2, .int v2), (3, .int v3)] S := by
  unfold fX7_puts_14
  refine svM2 C dX7_puts_14 ?_
  refine R_letS (fun S1 => ?_)
  refine R_aload_n C dX7_puts_15 rfl 0 rfl ?_
  refine gtM_X7_loads C wd_3_9 dX7_puts_16 ?_
  refine R_iload_n C dX7_puts_19 rfl 2 rfl ?_
  refine R_dup2 C dX7_puts_20 rfl rfl ?_
  refine ldM3 C dX7_puts_21 ?_
  refine R_iload_n C dX7_puts_22 rfl 3 rfl ?_
  refine R_iadd C dX7_puts_23 ?_
  refine svM3 C dX7_puts_24 ?_
  refine R_letS (fun S2 => ?_)
  refine R_aload_n C dX7_puts_25 rfl 0 rfl ?_
  refine gtM_X7_ends C wd_3_10 dX7_puts_26 ?_
  refine R_bipush (v := (8 : Int32)) C dX7_puts_29 (by decide) ?_
  refine R_aload_n C dX7_puts_31 rfl 0 rfl ?_
  refine gtM_X7_one C wd_3_6 dX7_puts_32 ?_
  refine R_iload_n C dX7_puts_35 rfl 1 rfl ?_
  refine ldM0 C dX7_puts_36 ?_
  refine R_imul C dX7_puts_37 ?_
  refine R_iload_n C dX7_puts_38 rfl 2 rfl ?_
  refine R_iadd C dX7_puts_39 ?_
  refine R_dup2 C dX7_puts_40 rfl rfl ?_
  refine ldM4 C dX7_puts_41 ?_
  refine R_iload_n C dX7_puts_42 rfl 3 rfl ?_
  refine R_iadd C dX7_puts_43 ?_
  refine svM4 C dX7_puts_44 ?_
  refine R_letS (fun S3 => ?_)
  refine R_aload_n C dX7_puts_45 rfl 0 rfl ?_
  refine gtM_X7_ends C wd_3_10 dX7_puts_46 ?_
  refine R_bipush (v := (8 : Int32)) C dX7_puts_49 (by decide) ?_
  refine R_aload_n C dX7_puts_51 rfl 0 rfl ?_
  refine gtM_X7_other C wd_3_7 dX7_puts_52 ?_
  refine R_iload_n C dX7_puts_55 rfl 1 rfl ?_
  refine ldM1 C dX7_puts_56 ?_
  refine R_imul C dX7_puts_57 ?_
  refine R_iload_n C dX7_puts_58 rfl 2 rfl ?_
  refine R_iadd C dX7_puts_59 ?_
  refine R_dup2 C dX7_puts_60 rfl rfl ?_
  refine ldM4 C dX7_puts_61 ?_
  refine R_iload_n C dX7_puts_62 rfl 3 rfl ?_
  refine R_iadd C dX7_puts_63 ?_
  refine svM4 C dX7_puts_64 ?_
  refine R_letS (fun S4 => ?_)
  refine R_aload_n C dX7_puts_65 rfl 0 rfl ?_
  refine R_dup C dX7_puts_66 rfl ?_
  refine gtM_X7_live C wd_3_11 dX7_puts_67 ?_
  refine R_iload_n C dX7_puts_70 rfl 3 rfl ?_
  refine R_iadd C dX7_puts_71 ?_
  refine ptM_X7_live C wd_3_11 dX7_puts_72 ?_
  refine R_letS (fun S5 => ?_)
  exact R_retv C dX7_puts_75
set_option maxHeartbeats 4000000 in
set_option maxRecDepth 100000 in
theorem uX7_puts (C : CX D [(cA, .int), (cZ, .boolean)] p s m args meth c A cX7_puts 4 RX7 none) (v1 v2 v3 : Int32) (S : St) : RU D (wM a cA cZ) p l e 1 s m args below meth c A 4 (QV D (wM a cA cZ) [(cA, .int), (cZ, .boolean)] A) (fX7_puts v1 v2 v3 S) 0 [] [(0, .ref (a 0)), (1, .int v1), (2, .int v2), (3, .int v3)] S := by
  unfold fX7_puts
  refine R_aload_n C dX7_puts_0 rfl 0 rfl ?_
  refine gtM_X7_hostOf C wd_3_8 dX7_puts_1 ?_
  refine R_iload_n C dX7_puts_4 rfl 1 rfl ?_
  refine R_iload_n C dX7_puts_5 rfl 3 rfl ?_
  refine R_if_le (tgt := 13) C dX7_puts_6 (by decide) ?_ ?_
  · refine R_iconst (v := (-1 : Int32)) C dX7_puts_13 (by decide) ?_
    exact uX7_puts_14 C v1 v2 v3 (-1 : Int32) v1 S
  · refine R_iload_n C dX7_puts_9 rfl 2 rfl ?_
    refine R_goto (tgt := 14) C dX7_puts_10 (by decide) ?_
    exact uX7_puts_14 C v1 v2 v3 v2 v1 S
set_option maxHeartbeats 4000000 in
set_option maxRecDepth 100000 in
theorem kX7_puts (l : Launch) (D : va_G) (a : Nat → Nat) (cA cZ : ClassId) (S : St) (v1 v2 v3 : Int32) : CV l D (wM a cA cZ) [(cA, .int), (cZ, .boolean)] yX7_puts (.code yX7_puts cX7_puts 4 none) 1 [.ref (a 0), .int v1, .int v2, .int v3] (fX7_puts v1 v2 v3 S) S := CV_of rfl (Nat.le_of_ble_eq_true rfl) (fun p e s m args below meth c A C => uX7_puts C v1 v2 v3 S)
theorem dX7_greatest_0 : decode cX7_greatest 0 = .ok (.iconst 0, 1) := by decide +kernel
theorem dX7_greatest_1 : decode cX7_greatest 1 = .ok (.istore_n 1, 1) := by decide +kernel
theorem dX7_greatest_2 : decode cX7_greatest 2 = .ok (.iconst 0, 1) := by decide +kernel
theorem dX7_greatest_3 : decode cX7_greatest 3 = .ok (.istore_n 2, 1) := by decide +kernel
theorem dX7_greatest_4 : decode cX7_greatest 4 = .ok (.iload_n 2, 1) := by decide +kernel
theorem dX7_greatest_5 : decode cX7_greatest 5 = .ok (.aload_n 0, 1) := by decide +kernel
theorem dX7_greatest_6 : decode cX7_greatest 6 = .ok (.getfield 54, 3) := by decide +kernel
theorem dX7_greatest_9 : decode cX7_greatest 9 = .ok (.if_icmp .ge 26, 3) := by decide +kernel
theorem dX7_greatest_12 : decode cX7_greatest 12 = .ok (.aload_n 0, 1) := by decide +kernel
theorem dX7_greatest_13 : decode cX7_greatest 13 = .ok (.getfield 19, 3) := by decide +kernel
theorem dX7_greatest_16 : decode cX7_greatest 16 = .ok (.iload_n 2, 1) := by decide +kernel
theorem dX7_greatest_17 : decode cX7_greatest 17 = .ok (.iaload, 1) := by decide +kernel
theorem dX7_greatest_18 : decode cX7_greatest 18 = .ok (.iload_n 1, 1) := by decide +kernel
theorem dX7_greatest_19 : decode cX7_greatest 19 = .ok (.if_icmp .le 10, 3) := by decide +kernel
theorem dX7_greatest_22 : decode cX7_greatest 22 = .ok (.aload_n 0, 1) := by decide +kernel
theorem dX7_greatest_23 : decode cX7_greatest 23 = .ok (.getfield 19, 3) := by decide +kernel
theorem dX7_greatest_26 : decode cX7_greatest 26 = .ok (.iload_n 2, 1) := by decide +kernel
theorem dX7_greatest_27 : decode cX7_greatest 27 = .ok (.iaload, 1) := by decide +kernel
theorem dX7_greatest_28 : decode cX7_greatest 28 = .ok (.istore_n 1, 1) := by decide +kernel
theorem dX7_greatest_29 : decode cX7_greatest 29 = .ok (.iinc 2 1, 3) := by decide +kernel
theorem dX7_greatest_32 : decode cX7_greatest 32 = .ok (.goto (-28), 3) := by decide +kernel
theorem dX7_greatest_35 : decode cX7_greatest 35 = .ok (.iload_n 1, 1) := by decide +kernel
theorem dX7_greatest_36 : decode cX7_greatest 36 = .ok (.ireturn, 1) := by decide +kernel
set_option maxHeartbeats 4000000 in
set_option maxRecDepth 100000 in
theorem uX7_greatest_29 (C : CX D [(cA, .int), (cZ, .boolean)] p s m args meth c A cX7_greatest 3 RX7 (some .int)) (k4 : Int32 → Int32 → St → Rs) (h4 : ∀ (v1 v2 : Int32) (S : St), RU D (wM a cA cZ) p l e 1 s m args below meth c A 3 (QI D (wM a cA cZ) [(cA, .int), (cZ, .boolean)] A) (k4 v1 v2 S) 4 [] [(0, .ref (a 0)), (1, .int v1), (2, .int v2)] S) (v1 v2 : Int32) (S : St) : RU D (wM a cA cZ) p l e 1 s m args below meth c A 3 (QI D (wM a cA cZ) [(cA, .int), (cZ, .boolean)] A) (fX7_greatest_29 k4 v1 v2 S) 29 [] [(0, .ref (a 0)), (1, .int v1), (2, .int v2)] S := by
  unfold fX7_greatest_29
  refine R_iinc (v := v2 + 1) (lv' := [(2, .int (v2 + 1)), (0, .ref (a 0)), (1, .int v1)]) C dX7_greatest_29 2 rfl rfl (by decide) rfl ?_
  refine R_goto (tgt := 4) C dX7_greatest_32 (by decide) ?_
  refine R_sub [1, 2, 0] rfl ?_
  exact h4 v1 (v2 + 1) S
set_option maxHeartbeats 4000000 in
set_option maxRecDepth 100000 in
theorem uX7_greatest_4_b (C : CX D [(cA, .int), (cZ, .boolean)] p s m args meth c A cX7_greatest 3 RX7 (some .int)) (k4 : Int32 → Int32 → St → Rs) (h4 : ∀ (v1 v2 : Int32) (S : St), RU D (wM a cA cZ) p l e 1 s m args below meth c A 3 (QI D (wM a cA cZ) [(cA, .int), (cZ, .boolean)] A) (k4 v1 v2 S) 4 [] [(0, .ref (a 0)), (1, .int v1), (2, .int v2)] S) (v1 v2 : Int32) (S : St) : RU D (wM a cA cZ) p l e 1 s m args below meth c A 3 (QI D (wM a cA cZ) [(cA, .int), (cZ, .boolean)] A) (fX7_greatest_4_b k4 v1 v2 S) 4 [] [(0, .ref (a 0)), (1, .int v1), (2, .int v2)] S := by
  unfold fX7_greatest_4_b
  refine R_iload_n C dX7_greatest_4 rfl 2 rfl ?_
  refine R_aload_n C dX7_greatest_5 rfl 0 rfl ?_
  refine gtM_X7_hosts C wd_3_4 dX7_greatest_6 ?_
  refine R_icmp_ge (tgt := 35) C dX7_greatest_9 (by decide) ?_ ?_
  · refine R_iload_n C dX7_greatest_35 rfl 1 rfl ?_
    exact R_reti C dX7_greatest_36
  · refine R_aload_n C dX7_greatest_12 rfl 0 rfl ?_
    refine gtM_X7_loads C wd_3_9 dX7_greatest_13 ?_
    refine R_iload_n C dX7_greatest_16 rfl 2 rfl ?_
    refine ldM3 C dX7_greatest_17 ?_
    refine R_iload_n C dX7_greatest_18 rfl 1 rfl ?_
    refine R_icmp_le (tgt := 29) C dX7_greatest_19 (by decide) ?_ ?_
    · exact uX7_greatest_29 C k4 h4 v1 v2 S
    · refine R_aload_n C dX7_greatest_22 rfl 0 rfl ?_
      refine gtM_X7_loads C wd_3_9 dX7_greatest_23 ?_
      refine R_iload_n C dX7_greatest_26 rfl 2 rfl ?_
      refine ldM3 C dX7_greatest_27 ?_
      refine R_let (fun x1 => ?_)
      refine R_istore_n (lv' := [(1, .int x1), (0, .ref (a 0)), (2, .int v2)]) C dX7_greatest_28 rfl (by decide) rfl ?_
      refine R_sub [1, 0, 2] rfl ?_
      exact uX7_greatest_29 C k4 h4 x1 v2 S
set_option maxHeartbeats 4000000 in
set_option maxRecDepth 100000 in
theorem uX7_greatest_4 (C : CX D [(cA, .int), (cZ, .boolean)] p s m args meth c A cX7_greatest 3 RX7 (some .int)) : ∀ (n : Nat) (v1 v2 : Int32) (S : St), RU D (wM a cA cZ) p l e 1 s m args below meth c A 3 (QI D (wM a cA cZ) [(cA, .int), (cZ, .boolean)] A) (fX7_greatest_4 n v1 v2 S) 4 [] [(0, .ref (a 0)), (1, .int v1), (2, .int v2)] S := by
  intro n
  induction n with
  | zero => intro v1 v2 S; exact R_none
  | succ n ih => intro v1 v2 S; exact uX7_greatest_4_b C _ ih v1 v2 S
set_option maxHeartbeats 4000000 in
set_option maxRecDepth 100000 in
theorem uX7_greatest (C : CX D [(cA, .int), (cZ, .boolean)] p s m args meth c A cX7_greatest 3 RX7 (some .int)) (S : St) : RU D (wM a cA cZ) p l e 1 s m args below meth c A 3 (QI D (wM a cA cZ) [(cA, .int), (cZ, .boolean)] A) (fX7_greatest S) 0 [] [(0, .ref (a 0))] S := by
  unfold fX7_greatest
  refine R_iconst (v := (0 : Int32)) C dX7_greatest_0 (by decide) ?_
  refine R_istore_n (lv' := [(1, .int (0 : Int32)), (0, .ref (a 0))]) C dX7_greatest_1 rfl (by decide) rfl ?_
  refine R_iconst (v := (0 : Int32)) C dX7_greatest_2 (by decide) ?_
  refine R_istore_n (lv' := [(2, .int (0 : Int32)), (1, .int (0 : Int32)), (0, .ref (a 0))]) C dX7_greatest_3 rfl (by decide) rfl ?_
  refine R_sub [2, 1, 0] rfl ?_
  exact uX7_greatest_4 C FU (0 : Int32) (0 : Int32) S
set_option maxHeartbeats 4000000 in
set_option maxRecDepth 100000 in
theorem kX7_greatest (l : Launch) (D : va_G) (a : Nat → Nat) (cA cZ : ClassId) (S : St) : CI l D (wM a cA cZ) [(cA, .int), (cZ, .boolean)] yX7_greatest (.code yX7_greatest cX7_greatest 3 (some .int)) 1 [.ref (a 0)] (fX7_greatest S) S := CI_of rfl (Nat.le_of_ble_eq_true rfl) (fun p e s m args below meth c A C => uX7_greatest C S)
theorem dX7_degree_0 : decode cX7_degree 0 = .ok (.iload_n 1, 1) := by decide +kernel
theorem dX7_degree_1 : decode cX7_degree 1 = .ok (.invokestatic 86, 3) := by decide +kernel
theorem dX7_degree_4 : decode cX7_degree 4 = .ok (.ifCond .ne 5, 3) := by decide +kernel
theorem dX7_degree_7 : decode cX7_degree 7 = .ok (.iconst (-1), 1) := by decide +kernel
theorem dX7_degree_8 : decode cX7_degree 8 = .ok (.ireturn, 1) := by decide +kernel
theorem dX7_degree_9 : decode cX7_degree 9 = .ok (.iconst 0, 1) := by decide +kernel
theorem dX7_degree_10 : decode cX7_degree 10 = .ok (.istore_n 2, 1) := by decide +kernel
theorem dX7_degree_11 : decode cX7_degree 11 = .ok (.iconst 0, 1) := by decide +kernel
theorem dX7_degree_12 : decode cX7_degree 12 = .ok (.istore_n 3, 1) := by decide +kernel
theorem dX7_degree_13 : decode cX7_degree 13 = .ok (.iload_n 3, 1) := by decide +kernel
theorem dX7_degree_14 : decode cX7_degree 14 = .ok (.aload_n 0, 1) := by decide +kernel
theorem dX7_degree_15 : decode cX7_degree 15 = .ok (.getfield 54, 3) := by decide +kernel
theorem dX7_degree_18 : decode cX7_degree 18 = .ok (.if_icmp .ge 23, 3) := by decide +kernel
theorem dX7_degree_21 : decode cX7_degree 21 = .ok (.iload_n 2, 1) := by decide +kernel
theorem dX7_degree_22 : decode cX7_degree 22 = .ok (.aload_n 0, 1) := by decide +kernel
theorem dX7_degree_23 : decode cX7_degree 23 = .ok (.getfield 22, 3) := by decide +kernel
theorem dX7_degree_26 : decode cX7_degree 26 = .ok (.bipush 8, 2) := by decide +kernel
theorem dX7_degree_28 : decode cX7_degree 28 = .ok (.iload_n 1, 1) := by decide +kernel
theorem dX7_degree_29 : decode cX7_degree 29 = .ok (.imul, 1) := by decide +kernel
theorem dX7_degree_30 : decode cX7_degree 30 = .ok (.iload_n 3, 1) := by decide +kernel
theorem dX7_degree_31 : decode cX7_degree 31 = .ok (.iadd, 1) := by decide +kernel
theorem dX7_degree_32 : decode cX7_degree 32 = .ok (.iaload, 1) := by decide +kernel
theorem dX7_degree_33 : decode cX7_degree 33 = .ok (.iadd, 1) := by decide +kernel
theorem dX7_degree_34 : decode cX7_degree 34 = .ok (.istore_n 2, 1) := by decide +kernel
theorem dX7_degree_35 : decode cX7_degree 35 = .ok (.iinc 3 1, 3) := by decide +kernel
theorem dX7_degree_38 : decode cX7_degree 38 = .ok (.goto (-25), 3) := by decide +kernel
theorem dX7_degree_41 : decode cX7_degree 41 = .ok (.iload_n 2, 1) := by decide +kernel
theorem dX7_degree_42 : decode cX7_degree 42 = .ok (.ireturn, 1) := by decide +kernel
set_option maxHeartbeats 4000000 in
set_option maxRecDepth 100000 in
theorem uX7_degree_13_b (C : CX D [(cA, .int), (cZ, .boolean)] p s m args meth c A cX7_degree 4 RX7 (some .int)) (k13 : Int32 → Int32 → Int32 → St → Rs) (h13 : ∀ (v1 v2 v3 : Int32) (S : St), RU D (wM a cA cZ) p l e 3 s m args below meth c A 4 (QI D (wM a cA cZ) [(cA, .int), (cZ, .boolean)] A) (k13 v1 v2 v3 S) 13 [] [(0, .ref (a 0)), (1, .int v1), (2, .int v2), (3, .int v3)] S) (v1 v2 v3 : Int32) (S : St) : RU D (wM a cA cZ) p l e 3 s m args below meth c A 4 (QI D (wM a cA cZ) [(cA, .int), (cZ, .boolean)] A) (fX7_degree_13_b k13 v1 v2 v3 S) 13 [] [(0, .ref (a 0)), (1, .int v1), (2, .int v2), (3, .int v3)] S := by
  unfold fX7_degree_13_b
  refine R_iload_n C dX7_degree_13 rfl 3 rfl ?_
  refine R_aload_n C dX7_degree_14 rfl 0 rfl ?_
  refine gtM_X7_hosts C wd_3_4 dX7_degree_15 ?_
  refine R_icmp_ge (tgt := 41) C dX7_degree_18 (by decide) ?_ ?_
  · refine R_iload_n C dX7_degree_41 rfl 2 rfl ?_
    exact R_reti C dX7_degree_42
  · refine R_iload_n C dX7_degree_21 rfl 2 rfl ?_
    refine R_aload_n C dX7_degree_22 rfl 0 rfl ?_
    refine gtM_X7_ends C wd_3_10 dX7_degree_23 ?_
    refine R_bipush (v := (8 : Int32)) C dX7_degree_26 (by decide) ?_
    refine R_iload_n C dX7_degree_28 rfl 1 rfl ?_
    refine R_imul C dX7_degree_29 ?_
    refine R_iload_n C dX7_degree_30 rfl 3 rfl ?_
    refine R_iadd C dX7_degree_31 ?_
    refine ldM4 C dX7_degree_32 ?_
    refine R_iadd C dX7_degree_33 ?_
    refine R_let (fun x1 => ?_)
    refine R_istore_n (lv' := [(2, .int x1), (0, .ref (a 0)), (1, .int v1), (3, .int v3)]) C dX7_degree_34 rfl (by decide) rfl ?_
    refine R_iinc (v := v3 + 1) (lv' := [(3, .int (v3 + 1)), (2, .int x1), (0, .ref (a 0)), (1, .int v1)]) C dX7_degree_35 3 rfl rfl (by decide) rfl ?_
    refine R_goto (tgt := 13) C dX7_degree_38 (by decide) ?_
    refine R_sub [2, 3, 1, 0] rfl ?_
    exact h13 v1 x1 (v3 + 1) S
set_option maxHeartbeats 4000000 in
set_option maxRecDepth 100000 in
theorem uX7_degree_13 (C : CX D [(cA, .int), (cZ, .boolean)] p s m args meth c A cX7_degree 4 RX7 (some .int)) : ∀ (n : Nat) (v1 v2 v3 : Int32) (S : St), RU D (wM a cA cZ) p l e 3 s m args below meth c A 4 (QI D (wM a cA cZ) [(cA, .int), (cZ, .boolean)] A) (fX7_degree_13 n v1 v2 v3 S) 13 [] [(0, .ref (a 0)), (1, .int v1), (2, .int v2), (3, .int v3)] S := by
  intro n
  induction n with
  | zero => intro v1 v2 v3 S; exact R_none
  | succ n ih => intro v1 v2 v3 S; exact uX7_degree_13_b C _ ih v1 v2 v3 S
set_option maxHeartbeats 4000000 in
set_option maxRecDepth 100000 in
theorem uX7_degree (C : CX D [(cA, .int), (cZ, .boolean)] p s m args meth c A cX7_degree 4 RX7 (some .int)) (v1 : Int32) (S : St) : RU D (wM a cA cZ) p l e 3 s m args below meth c A 4 (QI D (wM a cA cZ) [(cA, .int), (cZ, .boolean)] A) (fX7_degree v1 S) 0 [] [(0, .ref (a 0)), (1, .int v1)] S := by
  unfold fX7_degree
  refine R_iload_n C dX7_degree_0 rfl 1 rfl ?_
  refine R_calls (As := [.int v1]) (st := []) C (kX7_isPoint l D a cA cZ S v1) (by decide) (by decide) wd_3_67 kwX7_isPoint rfl rfl (Nat.le_of_ble_eq_true rfl) dX7_degree_1 (fun r1 S2 => ?_)
  refine R_if_ne (tgt := 9) C dX7_degree_4 (by decide) ?_ ?_
  · refine R_iconst (v := (-1 : Int32)) C dX7_degree_7 (by decide) ?_
    exact R_reti C dX7_degree_8
  · refine R_iconst (v := (0 : Int32)) C dX7_degree_9 (by decide) ?_
    refine R_istore_n (lv' := [(2, .int (0 : Int32)), (0, .ref (a 0)), (1, .int v1)]) C dX7_degree_10 rfl (by decide) rfl ?_
    refine R_iconst (v := (0 : Int32)) C dX7_degree_11 (by decide) ?_
    refine R_istore_n (lv' := [(3, .int (0 : Int32)), (2, .int (0 : Int32)), (0, .ref (a 0)), (1, .int v1)]) C dX7_degree_12 rfl (by decide) rfl ?_
    refine R_sub [2, 3, 1, 0] rfl ?_
    exact uX7_degree_13 C FU v1 (0 : Int32) (0 : Int32) S2
set_option maxHeartbeats 4000000 in
set_option maxRecDepth 100000 in
theorem kX7_degree (l : Launch) (D : va_G) (a : Nat → Nat) (cA cZ : ClassId) (S : St) (v1 : Int32) : CI l D (wM a cA cZ) [(cA, .int), (cZ, .boolean)] yX7_degree (.code yX7_degree cX7_degree 4 (some .int)) 3 [.ref (a 0), .int v1] (fX7_degree v1 S) S := CI_of rfl (Nat.le_of_ble_eq_true rfl) (fun p e s m args below meth c A C => uX7_degree C v1 S)
theorem dX7_scoreOf_0 : decode cX7_scoreOf 0 = .ok (.aload_n 0, 1) := by decide +kernel
theorem dX7_scoreOf_1 : decode cX7_scoreOf 1 = .ok (.invokevirtual 67, 3) := by decide +kernel
theorem dX7_scoreOf_4 : decode cX7_scoreOf 4 = .ok (.aload_n 0, 1) := by decide +kernel
theorem dX7_scoreOf_5 : decode cX7_scoreOf 5 = .ok (.getfield 19, 3) := by decide +kernel
theorem dX7_scoreOf_8 : decode cX7_scoreOf 8 = .ok (.iload_n 3, 1) := by decide +kernel
theorem dX7_scoreOf_9 : decode cX7_scoreOf 9 = .ok (.iaload, 1) := by decide +kernel
theorem dX7_scoreOf_10 : decode cX7_scoreOf 10 = .ok (.isub, 1) := by decide +kernel
theorem dX7_scoreOf_11 : decode cX7_scoreOf 11 = .ok (.istore 4, 2) := by decide +kernel
theorem dX7_scoreOf_13 : decode cX7_scoreOf 13 = .ok (.aload_n 0, 1) := by decide +kernel
theorem dX7_scoreOf_14 : decode cX7_scoreOf 14 = .ok (.getfield 32, 3) := by decide +kernel
theorem dX7_scoreOf_17 : decode cX7_scoreOf 17 = .ok (.ifCond .ne 6, 3) := by decide +kernel
theorem dX7_scoreOf_20 : decode cX7_scoreOf 20 = .ok (.iload 4, 2) := by decide +kernel
theorem dX7_scoreOf_22 : decode cX7_scoreOf 22 = .ok (.ireturn, 1) := by decide +kernel
theorem dX7_scoreOf_23 : decode cX7_scoreOf 23 = .ok (.aload_n 0, 1) := by decide +kernel
theorem dX7_scoreOf_24 : decode cX7_scoreOf 24 = .ok (.getfield 32, 3) := by decide +kernel
theorem dX7_scoreOf_27 : decode cX7_scoreOf 27 = .ok (.iconst 1, 1) := by decide +kernel
theorem dX7_scoreOf_28 : decode cX7_scoreOf 28 = .ok (.if_icmp .ne 21, 3) := by decide +kernel
theorem dX7_scoreOf_31 : decode cX7_scoreOf 31 = .ok (.iload_n 1, 1) := by decide +kernel
theorem dX7_scoreOf_32 : decode cX7_scoreOf 32 = .ok (.iload_n 2, 1) := by decide +kernel
theorem dX7_scoreOf_33 : decode cX7_scoreOf 33 = .ok (.iadd, 1) := by decide +kernel
theorem dX7_scoreOf_34 : decode cX7_scoreOf 34 = .ok (.aload_n 0, 1) := by decide +kernel
theorem dX7_scoreOf_35 : decode cX7_scoreOf 35 = .ok (.getfield 54, 3) := by decide +kernel
theorem dX7_scoreOf_38 : decode cX7_scoreOf 38 = .ok (.irem, 1) := by decide +kernel
theorem dX7_scoreOf_39 : decode cX7_scoreOf 39 = .ok (.iload_n 3, 1) := by decide +kernel
theorem dX7_scoreOf_40 : decode cX7_scoreOf 40 = .ok (.if_icmp .ne 7, 3) := by decide +kernel
theorem dX7_scoreOf_43 : decode cX7_scoreOf 43 = .ok (.iconst 1, 1) := by decide +kernel
theorem dX7_scoreOf_44 : decode cX7_scoreOf 44 = .ok (.goto 4, 3) := by decide +kernel
theorem dX7_scoreOf_47 : decode cX7_scoreOf 47 = .ok (.iconst 0, 1) := by decide +kernel
theorem dX7_scoreOf_48 : decode cX7_scoreOf 48 = .ok (.ireturn, 1) := by decide +kernel
theorem dX7_scoreOf_49 : decode cX7_scoreOf 49 = .ok (.aload_n 0, 1) := by decide +kernel
theorem dX7_scoreOf_50 : decode cX7_scoreOf 50 = .ok (.iload_n 1, 1) := by decide +kernel
theorem dX7_scoreOf_51 : decode cX7_scoreOf 51 = .ok (.invokevirtual 71, 3) := by decide +kernel
theorem dX7_scoreOf_54 : decode cX7_scoreOf 54 = .ok (.iconst 1, 1) := by decide +kernel
theorem dX7_scoreOf_55 : decode cX7_scoreOf 55 = .ok (.iadd, 1) := by decide +kernel
theorem dX7_scoreOf_56 : decode cX7_scoreOf 56 = .ok (.istore 5, 2) := by decide +kernel
theorem dX7_scoreOf_58 : decode cX7_scoreOf 58 = .ok (.aload_n 0, 1) := by decide +kernel
theorem dX7_scoreOf_59 : decode cX7_scoreOf 59 = .ok (.iload_n 2, 1) := by decide +kernel
theorem dX7_scoreOf_60 : decode cX7_scoreOf 60 = .ok (.invokevirtual 71, 3) := by decide +kernel
theorem dX7_scoreOf_63 : decode cX7_scoreOf 63 = .ok (.iconst 1, 1) := by decide +kernel
theorem dX7_scoreOf_64 : decode cX7_scoreOf 64 = .ok (.iadd, 1) := by decide +kernel
theorem dX7_scoreOf_65 : decode cX7_scoreOf 65 = .ok (.istore 6, 2) := by decide +kernel
theorem dX7_scoreOf_67 : decode cX7_scoreOf 67 = .ok (.aload_n 0, 1) := by decide +kernel
theorem dX7_scoreOf_68 : decode cX7_scoreOf 68 = .ok (.getfield 22, 3) := by decide +kernel
theorem dX7_scoreOf_71 : decode cX7_scoreOf 71 = .ok (.bipush 8, 2) := by decide +kernel
theorem dX7_scoreOf_73 : decode cX7_scoreOf 73 = .ok (.iload_n 1, 1) := by decide +kernel
theorem dX7_scoreOf_74 : decode cX7_scoreOf 74 = .ok (.imul, 1) := by decide +kernel
theorem dX7_scoreOf_75 : decode cX7_scoreOf 75 = .ok (.iload_n 3, 1) := by decide +kernel
theorem dX7_scoreOf_76 : decode cX7_scoreOf 76 = .ok (.iadd, 1) := by decide +kernel
theorem dX7_scoreOf_77 : decode cX7_scoreOf 77 = .ok (.iaload, 1) := by decide +kernel
theorem dX7_scoreOf_78 : decode cX7_scoreOf 78 = .ok (.ifCond .le 16, 3) := by decide +kernel
theorem dX7_scoreOf_81 : decode cX7_scoreOf 81 = .ok (.iconst 2, 1) := by decide +kernel
theorem dX7_scoreOf_82 : decode cX7_scoreOf 82 = .ok (.iload 5, 2) := by decide +kernel
theorem dX7_scoreOf_84 : decode cX7_scoreOf 84 = .ok (.iload 6, 2) := by decide +kernel
theorem dX7_scoreOf_86 : decode cX7_scoreOf 86 = .ok (.iadd, 1) := by decide +kernel
theorem dX7_scoreOf_87 : decode cX7_scoreOf 87 = .ok (.imul, 1) := by decide +kernel
theorem dX7_scoreOf_88 : decode cX7_scoreOf 88 = .ok (.iload 5, 2) := by decide +kernel
theorem dX7_scoreOf_90 : decode cX7_scoreOf 90 = .ok (.isub, 1) := by decide +kernel
theorem dX7_scoreOf_91 : decode cX7_scoreOf 91 = .ok (.goto 4, 3) := by decide +kernel
theorem dX7_scoreOf_94 : decode cX7_scoreOf 94 = .ok (.iconst 0, 1) := by decide +kernel
theorem dX7_scoreOf_95 : decode cX7_scoreOf 95 = .ok (.istore 7, 2) := by decide +kernel
theorem dX7_scoreOf_97 : decode cX7_scoreOf 97 = .ok (.iload 7, 2) := by decide +kernel
theorem dX7_scoreOf_99 : decode cX7_scoreOf 99 = .ok (.aload_n 0, 1) := by decide +kernel
theorem dX7_scoreOf_100 : decode cX7_scoreOf 100 = .ok (.getfield 22, 3) := by decide +kernel
theorem dX7_scoreOf_103 : decode cX7_scoreOf 103 = .ok (.bipush 8, 2) := by decide +kernel
theorem dX7_scoreOf_105 : decode cX7_scoreOf 105 = .ok (.iload_n 2, 1) := by decide +kernel
theorem dX7_scoreOf_106 : decode cX7_scoreOf 106 = .ok (.imul, 1) := by decide +kernel
theorem dX7_scoreOf_107 : decode cX7_scoreOf 107 = .ok (.iload_n 3, 1) := by decide +kernel
theorem dX7_scoreOf_108 : decode cX7_scoreOf 108 = .ok (.iadd, 1) := by decide +kernel
theorem dX7_scoreOf_109 : decode cX7_scoreOf 109 = .ok (.iaload, 1) := by decide +kernel
theorem dX7_scoreOf_110 : decode cX7_scoreOf 110 = .ok (.ifCond .le 16, 3) := by decide +kernel
theorem dX7_scoreOf_113 : decode cX7_scoreOf 113 = .ok (.iconst 2, 1) := by decide +kernel
theorem dX7_scoreOf_114 : decode cX7_scoreOf 114 = .ok (.iload 5, 2) := by decide +kernel
theorem dX7_scoreOf_116 : decode cX7_scoreOf 116 = .ok (.iload 6, 2) := by decide +kernel
theorem dX7_scoreOf_118 : decode cX7_scoreOf 118 = .ok (.iadd, 1) := by decide +kernel
theorem dX7_scoreOf_119 : decode cX7_scoreOf 119 = .ok (.imul, 1) := by decide +kernel
theorem dX7_scoreOf_120 : decode cX7_scoreOf 120 = .ok (.iload 6, 2) := by decide +kernel
theorem dX7_scoreOf_122 : decode cX7_scoreOf 122 = .ok (.isub, 1) := by decide +kernel
theorem dX7_scoreOf_123 : decode cX7_scoreOf 123 = .ok (.goto 4, 3) := by decide +kernel
theorem dX7_scoreOf_126 : decode cX7_scoreOf 126 = .ok (.iconst 0, 1) := by decide +kernel
theorem dX7_scoreOf_127 : decode cX7_scoreOf 127 = .ok (.iadd, 1) := by decide +kernel
theorem dX7_scoreOf_128 : decode cX7_scoreOf 128 = .ok (.istore 7, 2) := by decide +kernel
theorem dX7_scoreOf_130 : decode cX7_scoreOf 130 = .ok (.bipush 10, 2) := by decide +kernel
theorem dX7_scoreOf_132 : decode cX7_scoreOf 132 = .ok (.iload 7, 2) := by decide +kernel
theorem dX7_scoreOf_134 : decode cX7_scoreOf 134 = .ok (.imul, 1) := by decide +kernel
theorem dX7_scoreOf_135 : decode cX7_scoreOf 135 = .ok (.aload_n 0, 1) := by decide +kernel
theorem dX7_scoreOf_136 : decode cX7_scoreOf 136 = .ok (.getfield 29, 3) := by decide +kernel
theorem dX7_scoreOf_139 : decode cX7_scoreOf 139 = .ok (.iload 4, 2) := by decide +kernel
theorem dX7_scoreOf_141 : decode cX7_scoreOf 141 = .ok (.imul, 1) := by decide +kernel
theorem dX7_scoreOf_142 : decode cX7_scoreOf 142 = .ok (.iadd, 1) := by decide +kernel
theorem dX7_scoreOf_143 : decode cX7_scoreOf 143 = .ok (.ireturn, 1) := by decide +kernel
set_option maxHeartbeats 4000000 in
set_option maxRecDepth 100000 in
theorem uX7_scoreOf_48 (C : CX D [(cA, .int), (cZ, .boolean)] p s m args meth c A cX7_scoreOf 8 RX7 (some .int)) (t0 : Int32) (S : St) : RU D (wM a cA cZ) p l e 4 s m args below meth c A 8 (QI D (wM a cA cZ) [(cA, .int), (cZ, .boolean)] A) (fX7_scoreOf_48 t0 S) 48 [.int t0] [] S := by
  unfold fX7_scoreOf_48
  exact R_reti C dX7_scoreOf_48
set_option maxHeartbeats 4000000 in
set_option maxRecDepth 100000 in
theorem uX7_scoreOf_127 (C : CX D [(cA, .int), (cZ, .boolean)] p s m args meth c A cX7_scoreOf 8 RX7 (some .int)) (v4 t0 t1 : Int32) (S : St) : RU D (wM a cA cZ) p l e 4 s m args below meth c A 8 (QI D (wM a cA cZ) [(cA, .int), (cZ, .boolean)] A) (fX7_scoreOf_127 v4 t0 t1 S) 127 [.int t0, .int t1] [(0, .ref (a 0)), (4, .int v4)] S := by
  unfold fX7_scoreOf_127
  refine R_iadd C dX7_scoreOf_127 ?_
  refine R_let (fun x1 => ?_)
  refine R_istore (lv' := [(7, .int x1), (0, .ref (a 0)), (4, .int v4)]) C dX7_scoreOf_128 (by decide) rfl ?_
  refine R_bipush (v := (10 : Int32)) C dX7_scoreOf_130 (by decide) ?_
  refine R_iload C dX7_scoreOf_132 0 rfl ?_
  refine R_imul C dX7_scoreOf_134 ?_
  refine R_aload_n C dX7_scoreOf_135 rfl 1 rfl ?_
  refine gtM_X7_lean C wd_3_14 dX7_scoreOf_136 ?_
  refine R_iload C dX7_scoreOf_139 2 rfl ?_
  refine R_imul C dX7_scoreOf_141 ?_
  refine R_iadd C dX7_scoreOf_142 ?_
  exact R_reti C dX7_scoreOf_143
set_option maxHeartbeats 4000000 in
set_option maxRecDepth 100000 in
theorem uX7_scoreOf_95 (C : CX D [(cA, .int), (cZ, .boolean)] p s m args meth c A cX7_scoreOf 8 RX7 (some .int)) (v2 v3 v4 v5 v6 t0 : Int32) (S : St) : RU D (wM a cA cZ) p l e 4 s m args below meth c A 8 (QI D (wM a cA cZ) [(cA, .int), (cZ, .boolean)] A) (fX7_scoreOf_95 v2 v3 v4 v5 v6 t0 S) 95 [.int t0] [(0, .ref (a 0)), (2, .int v2), (3, .int v3), (4, .int v4), (5, .int v5), (6, .int v6)] S := by
  unfold fX7_scoreOf_95
  refine R_istore (lv' := [(7, .int t0), (0, .ref (a 0)), (2, .int v2), (3, .int v3), (4, .int v4), (5, .int v5), (6, .int v6)]) C dX7_scoreOf_95 (by decide) rfl ?_
  refine R_iload C dX7_scoreOf_97 0 rfl ?_
  refine R_aload_n C dX7_scoreOf_99 rfl 1 rfl ?_
  refine gtM_X7_ends C wd_3_10 dX7_scoreOf_100 ?_
  refine R_bipush (v := (8 : Int32)) C dX7_scoreOf_103 (by decide) ?_
  refine R_iload_n C dX7_scoreOf_105 rfl 2 rfl ?_
  refine R_imul C dX7_scoreOf_106 ?_
  refine R_iload_n C dX7_scoreOf_107 rfl 3 rfl ?_
  refine R_iadd C dX7_scoreOf_108 ?_
  refine ldM4 C dX7_scoreOf_109 ?_
  refine R_if_le (tgt := 126) C dX7_scoreOf_110 (by decide) ?_ ?_
  · refine R_iconst (v := (0 : Int32)) C dX7_scoreOf_126 (by decide) ?_
    refine R_sub [1, 4] rfl ?_
    exact uX7_scoreOf_127 C v4 (0 : Int32) t0 S
  · refine R_iconst (v := (2 : Int32)) C dX7_scoreOf_113 (by decide) ?_
    refine R_iload C dX7_scoreOf_114 5 rfl ?_
    refine R_iload C dX7_scoreOf_116 6 rfl ?_
    refine R_iadd C dX7_scoreOf_118 ?_
    refine R_imul C dX7_scoreOf_119 ?_
    refine R_iload C dX7_scoreOf_120 6 rfl ?_
    refine R_isub C dX7_scoreOf_122 ?_
    refine R_goto (tgt := 127) C dX7_scoreOf_123 (by decide) ?_
    refine R_sub [1, 4] rfl ?_
    exact uX7_scoreOf_127 C v4 (((2 : Int32) * (v5 + v6)) - v6) t0 S
set_option maxHeartbeats 4000000 in
set_option maxRecDepth 100000 in
theorem uX7_scoreOf (C : CX D [(cA, .int), (cZ, .boolean)] p s m args meth c A cX7_scoreOf 8 RX7 (some .int)) (v1 v2 v3 : Int32) (S : St) : RU D (wM a cA cZ) p l e 4 s m args below meth c A 8 (QI D (wM a cA cZ) [(cA, .int), (cZ, .boolean)] A) (fX7_scoreOf v1 v2 v3 S) 0 [] [(0, .ref (a 0)), (1, .int v1), (2, .int v2), (3, .int v3)] S := by
  unfold fX7_scoreOf
  refine R_aload_n C dX7_scoreOf_0 rfl 0 rfl ?_
  refine R_calli (As := []) (st := []) C (kX7_greatest l D a cA cZ S) (by decide) (by decide) wd_3_85 kwX7_greatest 0 rfl rfl rfl rfl (Nat.le_of_ble_eq_true rfl) dX7_scoreOf_1 (fun r1 S2 => ?_)
  refine R_aload_n C dX7_scoreOf_4 rfl 0 rfl ?_
  refine gtM_X7_loads C wd_3_9 dX7_scoreOf_5 ?_
  refine R_iload_n C dX7_scoreOf_8 rfl 3 rfl ?_
  refine ldM3 C dX7_scoreOf_9 ?_
  refine R_isub C dX7_scoreOf_10 ?_
  refine R_let (fun x3 => ?_)
  refine R_istore (lv' := [(4, .int x3), (0, .ref (a 0)), (1, .int v1), (2, .int v2), (3, .int v3)]) C dX7_scoreOf_11 (by decide) rfl ?_
  refine R_aload_n C dX7_scoreOf_13 rfl 1 rfl ?_
  refine gtM_X7_rule C wd_3_15 dX7_scoreOf_14 ?_
  refine R_if_ne (tgt := 23) C dX7_scoreOf_17 (by decide) ?_ ?_
  · refine R_iload C dX7_scoreOf_20 0 rfl ?_
    exact R_reti C dX7_scoreOf_22
  · refine R_aload_n C dX7_scoreOf_23 rfl 1 rfl ?_
    refine gtM_X7_rule C wd_3_15 dX7_scoreOf_24 ?_
    refine R_iconst (v := (1 : Int32)) C dX7_scoreOf_27 (by decide) ?_
    refine R_icmp_ne (tgt := 49) C dX7_scoreOf_28 (by decide) ?_ ?_
    · refine R_iload_n C dX7_scoreOf_31 rfl 2 rfl ?_
      refine R_iload_n C dX7_scoreOf_32 rfl 3 rfl ?_
      refine R_iadd C dX7_scoreOf_33 ?_
      refine R_aload_n C dX7_scoreOf_34 rfl 1 rfl ?_
      refine gtM_X7_hosts C wd_3_4 dX7_scoreOf_35 ?_
      refine R_irem C dX7_scoreOf_38 ?_
      refine R_iload_n C dX7_scoreOf_39 rfl 4 rfl ?_
      refine R_icmp_ne (tgt := 47) C dX7_scoreOf_40 (by decide) ?_ ?_
      · refine R_iconst (v := (1 : Int32)) C dX7_scoreOf_43 (by decide) ?_
        refine R_goto (tgt := 48) C dX7_scoreOf_44 (by decide) ?_
        refine R_sub [] rfl ?_
        exact uX7_scoreOf_48 C (1 : Int32) S2
      · refine R_iconst (v := (0 : Int32)) C dX7_scoreOf_47 (by decide) ?_
        refine R_sub [] rfl ?_
        exact uX7_scoreOf_48 C (0 : Int32) S2
    · refine R_aload_n C dX7_scoreOf_49 rfl 1 rfl ?_
      refine R_iload_n C dX7_scoreOf_50 rfl 2 rfl ?_
      refine R_calli (As := [.int v1]) (st := []) C (kX7_degree l D a cA cZ S2 v1) (by decide) (by decide) wd_3_89 kwX7_degree 0 rfl rfl rfl rfl (Nat.le_of_ble_eq_true rfl) dX7_scoreOf_51 (fun r4 S5 => ?_)
      refine R_iconst (v := (1 : Int32)) C dX7_scoreOf_54 (by decide) ?_
      refine R_iadd C dX7_scoreOf_55 ?_
      refine R_let (fun x6 => ?_)
      refine R_istore (lv' := [(5, .int x6), (4, .int x3), (0, .ref (a 0)), (1, .int v1), (2, .int v2), (3, .int v3)]) C dX7_scoreOf_56 (by decide) rfl ?_
      refine R_aload_n C dX7_scoreOf_58 rfl 2 rfl ?_
      refine R_iload_n C dX7_scoreOf_59 rfl 4 rfl ?_
      refine R_calli (As := [.int v2]) (st := []) C (kX7_degree l D a cA cZ S5 v2) (by decide) (by decide) wd_3_89 kwX7_degree 0 rfl rfl rfl rfl (Nat.le_of_ble_eq_true rfl) dX7_scoreOf_60 (fun r7 S8 => ?_)
      refine R_iconst (v := (1 : Int32)) C dX7_scoreOf_63 (by decide) ?_
      refine R_iadd C dX7_scoreOf_64 ?_
      refine R_let (fun x9 => ?_)
      refine R_istore (lv' := [(6, .int x9), (5, .int x6), (4, .int x3), (0, .ref (a 0)), (1, .int v1), (2, .int v2), (3, .int v3)]) C dX7_scoreOf_65 (by decide) rfl ?_
      refine R_aload_n C dX7_scoreOf_67 rfl 3 rfl ?_
      refine gtM_X7_ends C wd_3_10 dX7_scoreOf_68 ?_
      refine R_bipush (v := (8 : Int32)) C dX7_scoreOf_71 (by decide) ?_
      refine R_iload_n C dX7_scoreOf_73 rfl 4 rfl ?_
      refine R_imul C dX7_scoreOf_74 ?_
      refine R_iload_n C dX7_scoreOf_75 rfl 6 rfl ?_
      refine R_iadd C dX7_scoreOf_76 ?_
      refine ldM4 C dX7_scoreOf_77 ?_
      refine R_if_le (tgt := 94) C dX7_scoreOf_78 (by decide) ?_ ?_
      · refine R_iconst (v := (0 : Int32)) C dX7_scoreOf_94 (by decide) ?_
        refine R_sub [3, 5, 6, 2, 1, 0] rfl ?_
        exact uX7_scoreOf_95 C v2 v3 x3 x6 x9 (0 : Int32) S8
      · refine R_iconst (v := (2 : Int32)) C dX7_scoreOf_81 (by decide) ?_
        refine R_iload C dX7_scoreOf_82 1 rfl ?_
        refine R_iload C dX7_scoreOf_84 0 rfl ?_
        refine R_iadd C dX7_scoreOf_86 ?_
        refine R_imul C dX7_scoreOf_87 ?_
        refine R_iload C dX7_scoreOf_88 1 rfl ?_
        refine R_isub C dX7_scoreOf_90 ?_
        refine R_goto (tgt := 95) C dX7_scoreOf_91 (by decide) ?_
        refine R_sub [3, 5, 6, 2, 1, 0] rfl ?_
        exact uX7_scoreOf_95 C v2 v3 x3 x6 x9 (((2 : Int32) * (x6 + x9)) - x6) S8
set_option maxHeartbeats 4000000 in
set_option maxRecDepth 100000 in
theorem kX7_scoreOf (l : Launch) (D : va_G) (a : Nat → Nat) (cA cZ : ClassId) (S : St) (v1 v2 v3 : Int32) : CI l D (wM a cA cZ) [(cA, .int), (cZ, .boolean)] yX7_scoreOf (.code yX7_scoreOf cX7_scoreOf 8 (some .int)) 4 [.ref (a 0), .int v1, .int v2, .int v3] (fX7_scoreOf v1 v2 v3 S) S := CI_of rfl (Nat.le_of_ble_eq_true rfl) (fun p e s m args below meth c A C => uX7_scoreOf C v1 v2 v3 S)
theorem dX7_deals_0 : decode cX7_deals 0 = .ok (.iconst (-1), 1) := by decide +kernel
theorem dX7_deals_1 : decode cX7_deals 1 = .ok (.istore_n 2, 1) := by decide +kernel
theorem dX7_deals_2 : decode cX7_deals 2 = .ok (.iconst 0, 1) := by decide +kernel
theorem dX7_deals_3 : decode cX7_deals 3 = .ok (.istore_n 3, 1) := by decide +kernel
theorem dX7_deals_4 : decode cX7_deals 4 = .ok (.aload_n 0, 1) := by decide +kernel
theorem dX7_deals_5 : decode cX7_deals 5 = .ok (.aload_n 0, 1) := by decide +kernel
theorem dX7_deals_6 : decode cX7_deals 6 = .ok (.getfield 64, 3) := by decide +kernel
theorem dX7_deals_9 : decode cX7_deals 9 = .ok (.iconst 1, 1) := by decide +kernel
theorem dX7_deals_10 : decode cX7_deals 10 = .ok (.iadd, 1) := by decide +kernel
theorem dX7_deals_11 : decode cX7_deals 11 = .ok (.invokevirtual 75, 3) := by decide +kernel
theorem dX7_deals_14 : decode cX7_deals 14 = .ok (.istore 4, 2) := by decide +kernel
theorem dX7_deals_16 : decode cX7_deals 16 = .ok (.iconst 0, 1) := by decide +kernel
theorem dX7_deals_17 : decode cX7_deals 17 = .ok (.istore 5, 2) := by decide +kernel
theorem dX7_deals_19 : decode cX7_deals 19 = .ok (.iload 5, 2) := by decide +kernel
theorem dX7_deals_21 : decode cX7_deals 21 = .ok (.aload_n 0, 1) := by decide +kernel
theorem dX7_deals_22 : decode cX7_deals 22 = .ok (.getfield 54, 3) := by decide +kernel
theorem dX7_deals_25 : decode cX7_deals 25 = .ok (.if_icmp .ge 64, 3) := by decide +kernel
theorem dX7_deals_28 : decode cX7_deals 28 = .ok (.aload_n 0, 1) := by decide +kernel
theorem dX7_deals_29 : decode cX7_deals 29 = .ok (.getfield 19, 3) := by decide +kernel
theorem dX7_deals_32 : decode cX7_deals 32 = .ok (.iload 5, 2) := by decide +kernel
theorem dX7_deals_34 : decode cX7_deals 34 = .ok (.iaload, 1) := by decide +kernel
theorem dX7_deals_35 : decode cX7_deals 35 = .ok (.iload 4, 2) := by decide +kernel
theorem dX7_deals_37 : decode cX7_deals 37 = .ok (.if_icmp .lt 6, 3) := by decide +kernel
theorem dX7_deals_40 : decode cX7_deals 40 = .ok (.goto 43, 3) := by decide +kernel
theorem dX7_deals_43 : decode cX7_deals 43 = .ok (.aload_n 0, 1) := by decide +kernel
theorem dX7_deals_44 : decode cX7_deals 44 = .ok (.aload_n 0, 1) := by decide +kernel
theorem dX7_deals_45 : decode cX7_deals 45 = .ok (.getfield 9, 3) := by decide +kernel
theorem dX7_deals_48 : decode cX7_deals 48 = .ok (.iload_n 1, 1) := by decide +kernel
theorem dX7_deals_49 : decode cX7_deals 49 = .ok (.iaload, 1) := by decide +kernel
theorem dX7_deals_50 : decode cX7_deals 50 = .ok (.aload_n 0, 1) := by decide +kernel
theorem dX7_deals_51 : decode cX7_deals 51 = .ok (.getfield 13, 3) := by decide +kernel
theorem dX7_deals_54 : decode cX7_deals 54 = .ok (.iload_n 1, 1) := by decide +kernel
theorem dX7_deals_55 : decode cX7_deals 55 = .ok (.iaload, 1) := by decide +kernel
theorem dX7_deals_56 : decode cX7_deals 56 = .ok (.iload 5, 2) := by decide +kernel
theorem dX7_deals_58 : decode cX7_deals 58 = .ok (.invokevirtual 78, 3) := by decide +kernel
theorem dX7_deals_61 : decode cX7_deals 61 = .ok (.istore 6, 2) := by decide +kernel
theorem dX7_deals_63 : decode cX7_deals 63 = .ok (.iload_n 2, 1) := by decide +kernel
theorem dX7_deals_64 : decode cX7_deals 64 = .ok (.iconst (-1), 1) := by decide +kernel
theorem dX7_deals_65 : decode cX7_deals 65 = .ok (.if_icmp .eq 12, 3) := by decide +kernel
theorem dX7_deals_68 : decode cX7_deals 68 = .ok (.iload 6, 2) := by decide +kernel
theorem dX7_deals_70 : decode cX7_deals 70 = .ok (.iload_n 3, 1) := by decide +kernel
theorem dX7_deals_71 : decode cX7_deals 71 = .ok (.if_icmp .gt 6, 3) := by decide +kernel
theorem dX7_deals_74 : decode cX7_deals 74 = .ok (.goto 9, 3) := by decide +kernel
theorem dX7_deals_77 : decode cX7_deals 77 = .ok (.iload 5, 2) := by decide +kernel
theorem dX7_deals_79 : decode cX7_deals 79 = .ok (.istore_n 2, 1) := by decide +kernel
theorem dX7_deals_80 : decode cX7_deals 80 = .ok (.iload 6, 2) := by decide +kernel
theorem dX7_deals_82 : decode cX7_deals 82 = .ok (.istore_n 3, 1) := by decide +kernel
theorem dX7_deals_83 : decode cX7_deals 83 = .ok (.iinc 5 1, 3) := by decide +kernel
theorem dX7_deals_86 : decode cX7_deals 86 = .ok (.goto (-67), 3) := by decide +kernel
theorem dX7_deals_89 : decode cX7_deals 89 = .ok (.aload_n 0, 1) := by decide +kernel
theorem dX7_deals_90 : decode cX7_deals 90 = .ok (.iload_n 1, 1) := by decide +kernel
theorem dX7_deals_91 : decode cX7_deals 91 = .ok (.iload_n 2, 1) := by decide +kernel
theorem dX7_deals_92 : decode cX7_deals 92 = .ok (.iconst 1, 1) := by decide +kernel
theorem dX7_deals_93 : decode cX7_deals 93 = .ok (.invokevirtual 82, 3) := by decide +kernel
theorem dX7_deals_96 : decode cX7_deals 96 = .ok (.iload_n 2, 1) := by decide +kernel
theorem dX7_deals_97 : decode cX7_deals 97 = .ok (.ireturn, 1) := by decide +kernel
set_option maxHeartbeats 4000000 in
set_option maxRecDepth 100000 in
theorem uX7_deals_83 (C : CX D [(cA, .int), (cZ, .boolean)] p s m args meth c A cX7_deals 7 RX7 (some .int)) (k19 : Int32 → Int32 → Int32 → Int32 → Int32 → St → Rs) (h19 : ∀ (v1 v2 v3 v4 v5 : Int32) (S : St), RU D (wM a cA cZ) p l e 5 s m args below meth c A 7 (QI D (wM a cA cZ) [(cA, .int), (cZ, .boolean)] A) (k19 v1 v2 v3 v4 v5 S) 19 [] [(0, .ref (a 0)), (1, .int v1), (2, .int v2), (3, .int v3), (4, .int v4), (5, .int v5)] S) (v1 v2 v3 v4 v5 : Int32) (S : St) : RU D (wM a cA cZ) p l e 5 s m args below meth c A 7 (QI D (wM a cA cZ) [(cA, .int), (cZ, .boolean)] A) (fX7_deals_83 k19 v1 v2 v3 v4 v5 S) 83 [] [(0, .ref (a 0)), (1, .int v1), (2, .int v2), (3, .int v3), (4, .int v4), (5, .int v5)] S := by
  unfold fX7_deals_83
  refine R_iinc (v := v5 + 1) (lv' := [(5, .int (v5 + 1)), (0, .ref (a 0)), (1, .int v1), (2, .int v2), (3, .int v3), (4, .int v4)]) C dX7_deals_83 5 rfl rfl (by decide) rfl ?_
  refine R_goto (tgt := 19) C dX7_deals_86 (by decide) ?_
  refine R_sub [1, 2, 3, 4, 5, 0] rfl ?_
  exact h19 v1 v2 v3 v4 (v5 + 1) S
set_option maxHeartbeats 4000000 in
set_option maxRecDepth 100000 in
theorem uX7_deals_77 (C : CX D [(cA, .int), (cZ, .boolean)] p s m args meth c A cX7_deals 7 RX7 (some .int)) (k19 : Int32 → Int32 → Int32 → Int32 → Int32 → St → Rs) (h19 : ∀ (v1 v2 v3 v4 v5 : Int32) (S : St), RU D (wM a cA cZ) p l e 5 s m args below meth c A 7 (QI D (wM a cA cZ) [(cA, .int), (cZ, .boolean)] A) (k19 v1 v2 v3 v4 v5 S) 19 [] [(0, .ref (a 0)), (1, .int v1), (2, .int v2), (3, .int v3), (4, .int v4), (5, .int v5)] S) (v1 v4 v5 v6 : Int32) (S : St) : RU D (wM a cA cZ) p l e 5 s m args below meth c A 7 (QI D (wM a cA cZ) [(cA, .int), (cZ, .boolean)] A) (fX7_deals_77 k19 v1 v4 v5 v6 S) 77 [] [(0, .ref (a 0)), (1, .int v1), (4, .int v4), (5, .int v5), (6, .int v6)] S := by
  unfold fX7_deals_77
  refine R_iload C dX7_deals_77 3 rfl ?_
  refine R_istore_n (lv' := [(2, .int v5), (0, .ref (a 0)), (1, .int v1), (4, .int v4), (5, .int v5), (6, .int v6)]) C dX7_deals_79 rfl (by decide) rfl ?_
  refine R_iload C dX7_deals_80 5 rfl ?_
  refine R_istore_n (lv' := [(3, .int v6), (2, .int v5), (0, .ref (a 0)), (1, .int v1), (4, .int v4), (5, .int v5), (6, .int v6)]) C dX7_deals_82 rfl (by decide) rfl ?_
  refine R_sub [2, 3, 1, 0, 4, 5] rfl ?_
  exact uX7_deals_83 C k19 h19 v1 v5 v6 v4 v5 S
set_option maxHeartbeats 4000000 in
set_option maxRecDepth 100000 in
theorem uX7_deals_19_b (C : CX D [(cA, .int), (cZ, .boolean)] p s m args meth c A cX7_deals 7 RX7 (some .int)) (k19 : Int32 → Int32 → Int32 → Int32 → Int32 → St → Rs) (h19 : ∀ (v1 v2 v3 v4 v5 : Int32) (S : St), RU D (wM a cA cZ) p l e 5 s m args below meth c A 7 (QI D (wM a cA cZ) [(cA, .int), (cZ, .boolean)] A) (k19 v1 v2 v3 v4 v5 S) 19 [] [(0, .ref (a 0)), (1, .int v1), (2, .int v2), (3, .int v3), (4, .int v4), (5, .int v5)] S) (v1 v2 v3 v4 v5 : Int32) (S : St) : RU D (wM a cA cZ) p l e 5 s m args below meth c A 7 (QI D (wM a cA cZ) [(cA, .int), (cZ, .boolean)] A) (fX7_deals_19_b k19 v1 v2 v3 v4 v5 S) 19 [] [(0, .ref (a 0)), (1, .int v1), (2, .int v2), (3, .int v3), (4, .int v4), (5, .int v5)] S := by
  unfold fX7_deals_19_b
  refine R_iload C dX7_deals_19 5 rfl ?_
  refine R_aload_n C dX7_deals_21 rfl 0 rfl ?_
  refine gtM_X7_hosts C wd_3_4 dX7_deals_22 ?_
  refine R_icmp_ge (tgt := 89) C dX7_deals_25 (by decide) ?_ ?_
  · refine R_aload_n C dX7_deals_89 rfl 0 rfl ?_
    refine R_iload_n C dX7_deals_90 rfl 1 rfl ?_
    refine R_iload_n C dX7_deals_91 rfl 2 rfl ?_
    refine R_iconst (v := (1 : Int32)) C dX7_deals_92 (by decide) ?_
    refine R_callv (As := [.int v1, .int v2, .int (1 : Int32)]) (st := []) C (kX7_puts l D a cA cZ S v1 v2 (1 : Int32)) (by decide) (by decide) wd_3_93 kwX7_puts 0 rfl rfl rfl rfl (Nat.le_of_ble_eq_true rfl) dX7_deals_93 (fun r1 S2 => ?_)
    refine R_iload_n C dX7_deals_96 rfl 2 rfl ?_
    exact R_reti C dX7_deals_97
  · refine R_aload_n C dX7_deals_28 rfl 0 rfl ?_
    refine gtM_X7_loads C wd_3_9 dX7_deals_29 ?_
    refine R_iload C dX7_deals_32 5 rfl ?_
    refine ldM3 C dX7_deals_34 ?_
    refine R_iload C dX7_deals_35 4 rfl ?_
    refine R_icmp_lt (tgt := 43) C dX7_deals_37 (by decide) ?_ ?_
    · refine R_aload_n C dX7_deals_43 rfl 0 rfl ?_
      refine R_aload_n C dX7_deals_44 rfl 0 rfl ?_
      refine gtM_X7_one C wd_3_6 dX7_deals_45 ?_
      refine R_iload_n C dX7_deals_48 rfl 1 rfl ?_
      refine ldM0 C dX7_deals_49 ?_
      refine R_aload_n C dX7_deals_50 rfl 0 rfl ?_
      refine gtM_X7_other C wd_3_7 dX7_deals_51 ?_
      refine R_iload_n C dX7_deals_54 rfl 1 rfl ?_
      refine ldM1 C dX7_deals_55 ?_
      refine R_iload C dX7_deals_56 5 rfl ?_
      refine R_calli (As := [.int (S.2 0 (ix v1)), .int (S.2 1 (ix v1)), .int v5]) (st := []) C (kX7_scoreOf l D a cA cZ S (S.2 0 (ix v1)) (S.2 1 (ix v1)) v5) (by decide) (by decide) wd_3_81 kwX7_scoreOf 0 rfl rfl rfl rfl (Nat.le_of_ble_eq_true rfl) dX7_deals_58 (fun r3 S4 => ?_)
      refine R_istore (lv' := [(6, .int r3), (0, .ref (a 0)), (1, .int v1), (2, .int v2), (3, .int v3), (4, .int v4), (5, .int v5)]) C dX7_deals_61 (by decide) rfl ?_
      refine R_iload_n C dX7_deals_63 rfl 3 rfl ?_
      refine R_iconst (v := (-1 : Int32)) C dX7_deals_64 (by decide) ?_
      refine R_icmp_eq (tgt := 77) C dX7_deals_65 (by decide) ?_ ?_
      · refine R_sub [1, 2, 5, 6, 0] rfl ?_
        exact uX7_deals_77 C k19 h19 v1 v4 v5 r3 S4
      · refine R_iload C dX7_deals_68 0 rfl ?_
        refine R_iload_n C dX7_deals_70 rfl 4 rfl ?_
        refine R_icmp_gt (tgt := 77) C dX7_deals_71 (by decide) ?_ ?_
        · refine R_sub [1, 2, 5, 6, 0] rfl ?_
          exact uX7_deals_77 C k19 h19 v1 v4 v5 r3 S4
        · refine R_goto (tgt := 83) C dX7_deals_74 (by decide) ?_
          refine R_sub [1, 2, 3, 4, 5, 6] rfl ?_
          exact uX7_deals_83 C k19 h19 v1 v2 v3 v4 v5 S4
    · refine R_goto (tgt := 83) C dX7_deals_40 (by decide) ?_
      exact uX7_deals_83 C k19 h19 v1 v2 v3 v4 v5 S
set_option maxHeartbeats 4000000 in
set_option maxRecDepth 100000 in
theorem uX7_deals_19 (C : CX D [(cA, .int), (cZ, .boolean)] p s m args meth c A cX7_deals 7 RX7 (some .int)) : ∀ (n : Nat) (v1 v2 v3 v4 v5 : Int32) (S : St), RU D (wM a cA cZ) p l e 5 s m args below meth c A 7 (QI D (wM a cA cZ) [(cA, .int), (cZ, .boolean)] A) (fX7_deals_19 n v1 v2 v3 v4 v5 S) 19 [] [(0, .ref (a 0)), (1, .int v1), (2, .int v2), (3, .int v3), (4, .int v4), (5, .int v5)] S := by
  intro n
  induction n with
  | zero => intro v1 v2 v3 v4 v5 S; exact R_none
  | succ n ih => intro v1 v2 v3 v4 v5 S; exact uX7_deals_19_b C _ ih v1 v2 v3 v4 v5 S
set_option maxHeartbeats 4000000 in
set_option maxRecDepth 100000 in
theorem uX7_deals (C : CX D [(cA, .int), (cZ, .boolean)] p s m args meth c A cX7_deals 7 RX7 (some .int)) (v1 : Int32) (S : St) : RU D (wM a cA cZ) p l e 5 s m args below meth c A 7 (QI D (wM a cA cZ) [(cA, .int), (cZ, .boolean)] A) (fX7_deals v1 S) 0 [] [(0, .ref (a 0)), (1, .int v1)] S := by
  unfold fX7_deals
  refine R_iconst (v := (-1 : Int32)) C dX7_deals_0 (by decide) ?_
  refine R_istore_n (lv' := [(2, .int (-1 : Int32)), (0, .ref (a 0)), (1, .int v1)]) C dX7_deals_1 rfl (by decide) rfl ?_
  refine R_iconst (v := (0 : Int32)) C dX7_deals_2 (by decide) ?_
  refine R_istore_n (lv' := [(3, .int (0 : Int32)), (2, .int (-1 : Int32)), (0, .ref (a 0)), (1, .int v1)]) C dX7_deals_3 rfl (by decide) rfl ?_
  refine R_aload_n C dX7_deals_4 rfl 2 rfl ?_
  refine R_aload_n C dX7_deals_5 rfl 2 rfl ?_
  refine gtM_X7_live C wd_3_11 dX7_deals_6 ?_
  refine R_iconst (v := (1 : Int32)) C dX7_deals_9 (by decide) ?_
  refine R_iadd C dX7_deals_10 ?_
  refine R_calli (As := [.int ((S.1 2) + (1 : Int32))]) (st := []) C (kX7_roomFor l D a cA cZ S ((S.1 2) + (1 : Int32))) (by decide) (by decide) wd_3_77 kwX7_roomFor 0 rfl rfl rfl rfl (Nat.le_of_ble_eq_true rfl) dX7_deals_11 (fun r1 S2 => ?_)
  refine R_istore (lv' := [(4, .int r1), (3, .int (0 : Int32)), (2, .int (-1 : Int32)), (0, .ref (a 0)), (1, .int v1)]) C dX7_deals_14 (by decide) rfl ?_
  refine R_iconst (v := (0 : Int32)) C dX7_deals_16 (by decide) ?_
  refine R_istore (lv' := [(5, .int (0 : Int32)), (4, .int r1), (3, .int (0 : Int32)), (2, .int (-1 : Int32)), (0, .ref (a 0)), (1, .int v1)]) C dX7_deals_17 (by decide) rfl ?_
  refine R_sub [4, 5, 3, 2, 1, 0] rfl ?_
  exact uX7_deals_19 C FU v1 (-1 : Int32) (0 : Int32) r1 (0 : Int32) S2
set_option maxHeartbeats 4000000 in
set_option maxRecDepth 100000 in
theorem kX7_deals (l : Launch) (D : va_G) (a : Nat → Nat) (cA cZ : ClassId) (S : St) (v1 : Int32) : CI l D (wM a cA cZ) [(cA, .int), (cZ, .boolean)] yX7_deals (.code yX7_deals cX7_deals 7 (some .int)) 5 [.ref (a 0), .int v1] (fX7_deals v1 S) S := CI_of rfl (Nat.le_of_ble_eq_true rfl) (fun p e s m args below meth c A C => uX7_deals C v1 S)
theorem dX7_shuts_0 : decode cX7_shuts 0 = .ok (.iconst 0, 1) := by decide +kernel
theorem dX7_shuts_1 : decode cX7_shuts 1 = .ok (.istore_n 1, 1) := by decide +kernel
theorem dX7_shuts_2 : decode cX7_shuts 2 = .ok (.iload_n 1, 1) := by decide +kernel
theorem dX7_shuts_3 : decode cX7_shuts 3 = .ok (.aload_n 0, 1) := by decide +kernel
theorem dX7_shuts_4 : decode cX7_shuts 4 = .ok (.getfield 61, 3) := by decide +kernel
theorem dX7_shuts_7 : decode cX7_shuts 7 = .ok (.if_icmp .ge 49, 3) := by decide +kernel
theorem dX7_shuts_10 : decode cX7_shuts 10 = .ok (.aload_n 0, 1) := by decide +kernel
theorem dX7_shuts_11 : decode cX7_shuts 11 = .ok (.getfield 96, 3) := by decide +kernel
theorem dX7_shuts_14 : decode cX7_shuts 14 = .ok (.ifCond .le 42, 3) := by decide +kernel
theorem dX7_shuts_17 : decode cX7_shuts 17 = .ok (.aload_n 0, 1) := by decide +kernel
theorem dX7_shuts_18 : decode cX7_shuts 18 = .ok (.getfield 64, 3) := by decide +kernel
theorem dX7_shuts_21 : decode cX7_shuts 21 = .ok (.aload_n 0, 1) := by decide +kernel
theorem dX7_shuts_22 : decode cX7_shuts 22 = .ok (.getfield 96, 3) := by decide +kernel
theorem dX7_shuts_25 : decode cX7_shuts 25 = .ok (.if_icmp .le 31, 3) := by decide +kernel
theorem dX7_shuts_28 : decode cX7_shuts 28 = .ok (.aload_n 0, 1) := by decide +kernel
theorem dX7_shuts_29 : decode cX7_shuts 29 = .ok (.getfield 16, 3) := by decide +kernel
theorem dX7_shuts_32 : decode cX7_shuts 32 = .ok (.iload_n 1, 1) := by decide +kernel
theorem dX7_shuts_33 : decode cX7_shuts 33 = .ok (.iaload, 1) := by decide +kernel
theorem dX7_shuts_34 : decode cX7_shuts 34 = .ok (.iconst (-1), 1) := by decide +kernel
theorem dX7_shuts_35 : decode cX7_shuts 35 = .ok (.if_icmp .eq 15, 3) := by decide +kernel
theorem dX7_shuts_38 : decode cX7_shuts 38 = .ok (.aload_n 0, 1) := by decide +kernel
theorem dX7_shuts_39 : decode cX7_shuts 39 = .ok (.iload_n 1, 1) := by decide +kernel
theorem dX7_shuts_40 : decode cX7_shuts 40 = .ok (.aload_n 0, 1) := by decide +kernel
theorem dX7_shuts_41 : decode cX7_shuts 41 = .ok (.getfield 16, 3) := by decide +kernel
theorem dX7_shuts_44 : decode cX7_shuts 44 = .ok (.iload_n 1, 1) := by decide +kernel
theorem dX7_shuts_45 : decode cX7_shuts 45 = .ok (.iaload, 1) := by decide +kernel
theorem dX7_shuts_46 : decode cX7_shuts 46 = .ok (.iconst (-1), 1) := by decide +kernel
theorem dX7_shuts_47 : decode cX7_shuts 47 = .ok (.invokevirtual 82, 3) := by decide +kernel
theorem dX7_shuts_50 : decode cX7_shuts 50 = .ok (.iinc 1 1, 3) := by decide +kernel
theorem dX7_shuts_53 : decode cX7_shuts 53 = .ok (.goto (-51), 3) := by decide +kernel
theorem dX7_shuts_56 : decode cX7_shuts 56 = .ok (.return_, 1) := by decide +kernel
set_option maxHeartbeats 4000000 in
set_option maxRecDepth 100000 in
theorem uX7_shuts_56 (C : CX D [(cA, .int), (cZ, .boolean)] p s m args meth c A cX7_shuts 2 RX7 none) (S : St) : RU D (wM a cA cZ) p l e 2 s m args below meth c A 2 (QV D (wM a cA cZ) [(cA, .int), (cZ, .boolean)] A) (fX7_shuts_56 S) 56 [] [] S := by
  unfold fX7_shuts_56
  exact R_retv C dX7_shuts_56
set_option maxHeartbeats 4000000 in
set_option maxRecDepth 100000 in
theorem uX7_shuts_50 (C : CX D [(cA, .int), (cZ, .boolean)] p s m args meth c A cX7_shuts 2 RX7 none) (k2 : Int32 → St → Rs) (h2 : ∀ (v1 : Int32) (S : St), RU D (wM a cA cZ) p l e 2 s m args below meth c A 2 (QV D (wM a cA cZ) [(cA, .int), (cZ, .boolean)] A) (k2 v1 S) 2 [] [(0, .ref (a 0)), (1, .int v1)] S) (v1 : Int32) (S : St) : RU D (wM a cA cZ) p l e 2 s m args below meth c A 2 (QV D (wM a cA cZ) [(cA, .int), (cZ, .boolean)] A) (fX7_shuts_50 k2 v1 S) 50 [] [(0, .ref (a 0)), (1, .int v1)] S := by
  unfold fX7_shuts_50
  refine R_iinc (v := v1 + 1) (lv' := [(1, .int (v1 + 1)), (0, .ref (a 0))]) C dX7_shuts_50 1 rfl rfl (by decide) rfl ?_
  refine R_goto (tgt := 2) C dX7_shuts_53 (by decide) ?_
  refine R_sub [1, 0] rfl ?_
  exact h2 (v1 + 1) S
set_option maxHeartbeats 4000000 in
set_option maxRecDepth 100000 in
theorem uX7_shuts_2_b (C : CX D [(cA, .int), (cZ, .boolean)] p s m args meth c A cX7_shuts 2 RX7 none) (k2 : Int32 → St → Rs) (h2 : ∀ (v1 : Int32) (S : St), RU D (wM a cA cZ) p l e 2 s m args below meth c A 2 (QV D (wM a cA cZ) [(cA, .int), (cZ, .boolean)] A) (k2 v1 S) 2 [] [(0, .ref (a 0)), (1, .int v1)] S) (v1 : Int32) (S : St) : RU D (wM a cA cZ) p l e 2 s m args below meth c A 2 (QV D (wM a cA cZ) [(cA, .int), (cZ, .boolean)] A) (fX7_shuts_2_b k2 v1 S) 2 [] [(0, .ref (a 0)), (1, .int v1)] S := by
  unfold fX7_shuts_2_b
  refine R_iload_n C dX7_shuts_2 rfl 1 rfl ?_
  refine R_aload_n C dX7_shuts_3 rfl 0 rfl ?_
  refine gtM_X7_lines C wd_3_5 dX7_shuts_4 ?_
  refine R_icmp_ge (tgt := 56) C dX7_shuts_7 (by decide) ?_ ?_
  · refine R_sub [] rfl ?_
    exact uX7_shuts_56 C S
  · refine R_aload_n C dX7_shuts_10 rfl 0 rfl ?_
    refine gtM_X7_window C wd_3_12 dX7_shuts_11 ?_
    refine R_if_le (tgt := 56) C dX7_shuts_14 (by decide) ?_ ?_
    · refine R_sub [] rfl ?_
      exact uX7_shuts_56 C S
    · refine R_aload_n C dX7_shuts_17 rfl 0 rfl ?_
      refine gtM_X7_live C wd_3_11 dX7_shuts_18 ?_
      refine R_aload_n C dX7_shuts_21 rfl 0 rfl ?_
      refine gtM_X7_window C wd_3_12 dX7_shuts_22 ?_
      refine R_icmp_le (tgt := 56) C dX7_shuts_25 (by decide) ?_ ?_
      · refine R_sub [] rfl ?_
        exact uX7_shuts_56 C S
      · refine R_aload_n C dX7_shuts_28 rfl 0 rfl ?_
        refine gtM_X7_hostOf C wd_3_8 dX7_shuts_29 ?_
        refine R_iload_n C dX7_shuts_32 rfl 1 rfl ?_
        refine ldM2 C dX7_shuts_33 ?_
        refine R_iconst (v := (-1 : Int32)) C dX7_shuts_34 (by decide) ?_
        refine R_icmp_eq (tgt := 50) C dX7_shuts_35 (by decide) ?_ ?_
        · exact uX7_shuts_50 C k2 h2 v1 S
        · refine R_aload_n C dX7_shuts_38 rfl 0 rfl ?_
          refine R_iload_n C dX7_shuts_39 rfl 1 rfl ?_
          refine R_aload_n C dX7_shuts_40 rfl 0 rfl ?_
          refine gtM_X7_hostOf C wd_3_8 dX7_shuts_41 ?_
          refine R_iload_n C dX7_shuts_44 rfl 1 rfl ?_
          refine ldM2 C dX7_shuts_45 ?_
          refine R_iconst (v := (-1 : Int32)) C dX7_shuts_46 (by decide) ?_
          refine R_callv (As := [.int v1, .int (S.2 2 (ix v1)), .int (-1 : Int32)]) (st := []) C (kX7_puts l D a cA cZ S v1 (S.2 2 (ix v1)) (-1 : Int32)) (by decide) (by decide) wd_3_93 kwX7_puts 0 rfl rfl rfl rfl (Nat.le_of_ble_eq_true rfl) dX7_shuts_47 (fun r1 S2 => ?_)
          exact uX7_shuts_50 C k2 h2 v1 S2
set_option maxHeartbeats 4000000 in
set_option maxRecDepth 100000 in
theorem uX7_shuts_2 (C : CX D [(cA, .int), (cZ, .boolean)] p s m args meth c A cX7_shuts 2 RX7 none) : ∀ (n : Nat) (v1 : Int32) (S : St), RU D (wM a cA cZ) p l e 2 s m args below meth c A 2 (QV D (wM a cA cZ) [(cA, .int), (cZ, .boolean)] A) (fX7_shuts_2 n v1 S) 2 [] [(0, .ref (a 0)), (1, .int v1)] S := by
  intro n
  induction n with
  | zero => intro v1 S; exact R_none
  | succ n ih => intro v1 S; exact uX7_shuts_2_b C _ ih v1 S
set_option maxHeartbeats 4000000 in
set_option maxRecDepth 100000 in
theorem uX7_shuts (C : CX D [(cA, .int), (cZ, .boolean)] p s m args meth c A cX7_shuts 2 RX7 none) (S : St) : RU D (wM a cA cZ) p l e 2 s m args below meth c A 2 (QV D (wM a cA cZ) [(cA, .int), (cZ, .boolean)] A) (fX7_shuts S) 0 [] [(0, .ref (a 0))] S := by
  unfold fX7_shuts
  refine R_iconst (v := (0 : Int32)) C dX7_shuts_0 (by decide) ?_
  refine R_istore_n (lv' := [(1, .int (0 : Int32)), (0, .ref (a 0))]) C dX7_shuts_1 rfl (by decide) rfl ?_
  refine R_sub [1, 0] rfl ?_
  exact uX7_shuts_2 C FU (0 : Int32) S
set_option maxHeartbeats 4000000 in
set_option maxRecDepth 100000 in
theorem kX7_shuts (l : Launch) (D : va_G) (a : Nat → Nat) (cA cZ : ClassId) (S : St) : CV l D (wM a cA cZ) [(cA, .int), (cZ, .boolean)] yX7_shuts (.code yX7_shuts cX7_shuts 2 none) 2 [.ref (a 0)] (fX7_shuts S) S := CV_of rfl (Nat.le_of_ble_eq_true rfl) (fun p e s m args below meth c A C => uX7_shuts C S)
theorem dX7_line_0 : decode cX7_line 0 = .ok (.iload_n 1, 1) := by decide +kernel
theorem dX7_line_1 : decode cX7_line 1 = .ok (.invokestatic 86, 3) := by decide +kernel
theorem dX7_line_4 : decode cX7_line 4 = .ok (.ifCond .eq 25, 3) := by decide +kernel
theorem dX7_line_7 : decode cX7_line 7 = .ok (.iload_n 2, 1) := by decide +kernel
theorem dX7_line_8 : decode cX7_line 8 = .ok (.invokestatic 86, 3) := by decide +kernel
theorem dX7_line_11 : decode cX7_line 11 = .ok (.ifCond .eq 18, 3) := by decide +kernel
theorem dX7_line_14 : decode cX7_line 14 = .ok (.iload_n 1, 1) := by decide +kernel
theorem dX7_line_15 : decode cX7_line 15 = .ok (.iload_n 2, 1) := by decide +kernel
theorem dX7_line_16 : decode cX7_line 16 = .ok (.if_icmp .eq 13, 3) := by decide +kernel
theorem dX7_line_19 : decode cX7_line 19 = .ok (.aload_n 0, 1) := by decide +kernel
theorem dX7_line_20 : decode cX7_line 20 = .ok (.getfield 61, 3) := by decide +kernel
theorem dX7_line_23 : decode cX7_line 23 = .ok (.sipush 300, 3) := by decide +kernel
theorem dX7_line_26 : decode cX7_line 26 = .ok (.if_icmp .ne 5, 3) := by decide +kernel
theorem dX7_line_29 : decode cX7_line 29 = .ok (.iconst (-1), 1) := by decide +kernel
theorem dX7_line_30 : decode cX7_line 30 = .ok (.ireturn, 1) := by decide +kernel
theorem dX7_line_31 : decode cX7_line 31 = .ok (.aload_n 0, 1) := by decide +kernel
theorem dX7_line_32 : decode cX7_line 32 = .ok (.getfield 9, 3) := by decide +kernel
theorem dX7_line_35 : decode cX7_line 35 = .ok (.aload_n 0, 1) := by decide +kernel
theorem dX7_line_36 : decode cX7_line 36 = .ok (.getfield 61, 3) := by decide +kernel
theorem dX7_line_39 : decode cX7_line 39 = .ok (.iload_n 1, 1) := by decide +kernel
theorem dX7_line_40 : decode cX7_line 40 = .ok (.iastore, 1) := by decide +kernel
theorem dX7_line_41 : decode cX7_line 41 = .ok (.aload_n 0, 1) := by decide +kernel
theorem dX7_line_42 : decode cX7_line 42 = .ok (.getfield 13, 3) := by decide +kernel
theorem dX7_line_45 : decode cX7_line 45 = .ok (.aload_n 0, 1) := by decide +kernel
theorem dX7_line_46 : decode cX7_line 46 = .ok (.getfield 61, 3) := by decide +kernel
theorem dX7_line_49 : decode cX7_line 49 = .ok (.iload_n 2, 1) := by decide +kernel
theorem dX7_line_50 : decode cX7_line 50 = .ok (.iastore, 1) := by decide +kernel
theorem dX7_line_51 : decode cX7_line 51 = .ok (.aload_n 0, 1) := by decide +kernel
theorem dX7_line_52 : decode cX7_line 52 = .ok (.dup, 1) := by decide +kernel
theorem dX7_line_53 : decode cX7_line 53 = .ok (.getfield 61, 3) := by decide +kernel
theorem dX7_line_56 : decode cX7_line 56 = .ok (.iconst 1, 1) := by decide +kernel
theorem dX7_line_57 : decode cX7_line 57 = .ok (.iadd, 1) := by decide +kernel
theorem dX7_line_58 : decode cX7_line 58 = .ok (.putfield 61, 3) := by decide +kernel
theorem dX7_line_61 : decode cX7_line 61 = .ok (.aload_n 0, 1) := by decide +kernel
theorem dX7_line_62 : decode cX7_line 62 = .ok (.aload_n 0, 1) := by decide +kernel
theorem dX7_line_63 : decode cX7_line 63 = .ok (.getfield 61, 3) := by decide +kernel
theorem dX7_line_66 : decode cX7_line 66 = .ok (.iconst 1, 1) := by decide +kernel
theorem dX7_line_67 : decode cX7_line 67 = .ok (.isub, 1) := by decide +kernel
theorem dX7_line_68 : decode cX7_line 68 = .ok (.invokevirtual 90, 3) := by decide +kernel
theorem dX7_line_71 : decode cX7_line 71 = .ok (.istore_n 3, 1) := by decide +kernel
theorem dX7_line_72 : decode cX7_line 72 = .ok (.aload_n 0, 1) := by decide +kernel
theorem dX7_line_73 : decode cX7_line 73 = .ok (.invokevirtual 93, 3) := by decide +kernel
theorem dX7_line_76 : decode cX7_line 76 = .ok (.iload_n 3, 1) := by decide +kernel
theorem dX7_line_77 : decode cX7_line 77 = .ok (.ireturn, 1) := by decide +kernel
set_option maxHeartbeats 4000000 in
set_option maxRecDepth 100000 in
theorem uX7_line_29 (C : CX D [(cA, .int), (cZ, .boolean)] p s m args meth c A cX7_line 4 RX7 (some .int)) (S : St) : RU D (wM a cA cZ) p l e 6 s m args below meth c A 4 (QI D (wM a cA cZ) [(cA, .int), (cZ, .boolean)] A) (fX7_line_29 S) 29 [] [] S := by
  unfold fX7_line_29
  refine R_iconst (v := (-1 : Int32)) C dX7_line_29 (by decide) ?_
  exact R_reti C dX7_line_30
set_option maxHeartbeats 4000000 in
set_option maxRecDepth 100000 in
theorem uX7_line (C : CX D [(cA, .int), (cZ, .boolean)] p s m args meth c A cX7_line 4 RX7 (some .int)) (v1 v2 : Int32) (S : St) : RU D (wM a cA cZ) p l e 6 s m args below meth c A 4 (QI D (wM a cA cZ) [(cA, .int), (cZ, .boolean)] A) (fX7_line v1 v2 S) 0 [] [(0, .ref (a 0)), (1, .int v1), (2, .int v2)] S := by
  unfold fX7_line
  refine R_iload_n C dX7_line_0 rfl 1 rfl ?_
  refine R_calls (As := [.int v1]) (st := []) C (kX7_isPoint l D a cA cZ S v1) (by decide) (by decide) wd_3_67 kwX7_isPoint rfl rfl (Nat.le_of_ble_eq_true rfl) dX7_line_1 (fun r1 S2 => ?_)
  refine R_if_eq (tgt := 29) C dX7_line_4 (by decide) ?_ ?_
  · refine R_sub [] rfl ?_
    exact uX7_line_29 C S2
  · refine R_iload_n C dX7_line_7 rfl 2 rfl ?_
    refine R_calls (As := [.int v2]) (st := []) C (kX7_isPoint l D a cA cZ S2 v2) (by decide) (by decide) wd_3_67 kwX7_isPoint rfl rfl (Nat.le_of_ble_eq_true rfl) dX7_line_8 (fun r3 S4 => ?_)
    refine R_if_eq (tgt := 29) C dX7_line_11 (by decide) ?_ ?_
    · refine R_sub [] rfl ?_
      exact uX7_line_29 C S4
    · refine R_iload_n C dX7_line_14 rfl 1 rfl ?_
      refine R_iload_n C dX7_line_15 rfl 2 rfl ?_
      refine R_icmp_eq (tgt := 29) C dX7_line_16 (by decide) ?_ ?_
      · refine R_sub [] rfl ?_
        exact uX7_line_29 C S4
      · refine R_aload_n C dX7_line_19 rfl 0 rfl ?_
        refine gtM_X7_lines C wd_3_5 dX7_line_20 ?_
        refine R_sipush (v := (300 : Int32)) C dX7_line_23 (by decide) ?_
        refine R_icmp_ne (tgt := 31) C dX7_line_26 (by decide) ?_ ?_
        · refine R_sub [] rfl ?_
          exact uX7_line_29 C S4
        · refine R_aload_n C dX7_line_31 rfl 0 rfl ?_
          refine gtM_X7_one C wd_3_6 dX7_line_32 ?_
          refine R_aload_n C dX7_line_35 rfl 0 rfl ?_
          refine gtM_X7_lines C wd_3_5 dX7_line_36 ?_
          refine R_iload_n C dX7_line_39 rfl 1 rfl ?_
          refine svM0 C dX7_line_40 ?_
          refine R_letS (fun S5 => ?_)
          refine R_aload_n C dX7_line_41 rfl 0 rfl ?_
          refine gtM_X7_other C wd_3_7 dX7_line_42 ?_
          refine R_aload_n C dX7_line_45 rfl 0 rfl ?_
          refine gtM_X7_lines C wd_3_5 dX7_line_46 ?_
          refine R_iload_n C dX7_line_49 rfl 2 rfl ?_
          refine svM1 C dX7_line_50 ?_
          refine R_letS (fun S6 => ?_)
          refine R_aload_n C dX7_line_51 rfl 0 rfl ?_
          refine R_dup C dX7_line_52 rfl ?_
          refine gtM_X7_lines C wd_3_5 dX7_line_53 ?_
          refine R_iconst (v := (1 : Int32)) C dX7_line_56 (by decide) ?_
          refine R_iadd C dX7_line_57 ?_
          refine ptM_X7_lines C wd_3_5 dX7_line_58 ?_
          refine R_letS (fun S7 => ?_)
          refine R_aload_n C dX7_line_61 rfl 0 rfl ?_
          refine R_aload_n C dX7_line_62 rfl 0 rfl ?_
          refine gtM_X7_lines C wd_3_5 dX7_line_63 ?_
          refine R_iconst (v := (1 : Int32)) C dX7_line_66 (by decide) ?_
          refine R_isub C dX7_line_67 ?_
          refine R_calli (As := [.int ((S7.1 1) - (1 : Int32))]) (st := []) C (kX7_deals l D a cA cZ S7 ((S7.1 1) - (1 : Int32))) (by decide) (by decide) wd_3_73 kwX7_deals 0 rfl rfl rfl rfl (Nat.le_of_ble_eq_true rfl) dX7_line_68 (fun r8 S9 => ?_)
          refine R_istore_n (lv' := [(3, .int r8), (0, .ref (a 0)), (1, .int v1), (2, .int v2)]) C dX7_line_71 rfl (by decide) rfl ?_
          refine R_aload_n C dX7_line_72 rfl 1 rfl ?_
          refine R_callv (As := []) (st := []) C (kX7_shuts l D a cA cZ S9) (by decide) (by decide) wd_3_97 kwX7_shuts 0 rfl rfl rfl rfl (Nat.le_of_ble_eq_true rfl) dX7_line_73 (fun r10 S11 => ?_)
          refine R_iload_n C dX7_line_76 rfl 0 rfl ?_
          exact R_reti C dX7_line_77
set_option maxHeartbeats 4000000 in
set_option maxRecDepth 100000 in
theorem kX7_line (l : Launch) (D : va_G) (a : Nat → Nat) (cA cZ : ClassId) (S : St) (v1 v2 : Int32) : CI l D (wM a cA cZ) [(cA, .int), (cZ, .boolean)] yX7_line (.code yX7_line cX7_line 4 (some .int)) 6 [.ref (a 0), .int v1, .int v2] (fX7_line v1 v2 S) S := CI_of rfl (Nat.le_of_ble_eq_true rfl) (fun p e s m args below meth c A C => uX7_line C v1 v2 S)
theorem dX7_rule_0 : decode cX7_rule 0 = .ok (.iload_n 1, 1) := by decide +kernel
theorem dX7_rule_1 : decode cX7_rule 1 = .ok (.iconst 0, 1) := by decide +kernel
theorem dX7_rule_2 : decode cX7_rule 2 = .ok (.iconst 2, 1) := by decide +kernel
theorem dX7_rule_3 : decode cX7_rule 3 = .ok (.invokestatic 57, 3) := by decide +kernel
theorem dX7_rule_6 : decode cX7_rule 6 = .ok (.ifCond .ne 5, 3) := by decide +kernel
theorem dX7_rule_9 : decode cX7_rule 9 = .ok (.iconst 0, 1) := by decide +kernel
theorem dX7_rule_10 : decode cX7_rule 10 = .ok (.ireturn, 1) := by decide +kernel
theorem dX7_rule_11 : decode cX7_rule 11 = .ok (.aload_n 0, 1) := by decide +kernel
theorem dX7_rule_12 : decode cX7_rule 12 = .ok (.iload_n 1, 1) := by decide +kernel
theorem dX7_rule_13 : decode cX7_rule 13 = .ok (.putfield 32, 3) := by decide +kernel
theorem dX7_rule_16 : decode cX7_rule 16 = .ok (.iconst 1, 1) := by decide +kernel
theorem dX7_rule_17 : decode cX7_rule 17 = .ok (.ireturn, 1) := by decide +kernel
set_option maxHeartbeats 4000000 in
set_option maxRecDepth 100000 in
theorem uX7_rule (C : CX D [(cA, .int), (cZ, .boolean)] p s m args meth c A cX7_rule 2 RX7 (some .boolean)) (v1 : Int32) (S : St) : RU D (wM a cA cZ) p l e 2 s m args below meth c A 2 (QI D (wM a cA cZ) [(cA, .int), (cZ, .boolean)] A) (fX7_rule v1 S) 0 [] [(0, .ref (a 0)), (1, .int v1)] S := by
  unfold fX7_rule
  refine R_iload_n C dX7_rule_0 rfl 1 rfl ?_
  refine R_iconst (v := (0 : Int32)) C dX7_rule_1 (by decide) ?_
  refine R_iconst (v := (2 : Int32)) C dX7_rule_2 (by decide) ?_
  refine R_calls (As := [.int v1, .int (0 : Int32), .int (2 : Int32)]) (st := []) C (kX7_in l D a cA cZ S v1 (0 : Int32) (2 : Int32)) (by decide) (by decide) wd_3_70 kwX7_in rfl rfl (Nat.le_of_ble_eq_true rfl) dX7_rule_3 (fun r1 S2 => ?_)
  refine R_if_ne (tgt := 11) C dX7_rule_6 (by decide) ?_ ?_
  · refine R_iconst (v := (0 : Int32)) C dX7_rule_9 (by decide) ?_
    exact R_retz C dX7_rule_10
  · refine R_aload_n C dX7_rule_11 rfl 0 rfl ?_
    refine R_iload_n C dX7_rule_12 rfl 1 rfl ?_
    refine ptM_X7_rule C wd_3_15 dX7_rule_13 ?_
    refine R_letS (fun S3 => ?_)
    refine R_iconst (v := (1 : Int32)) C dX7_rule_16 (by decide) ?_
    exact R_retz C dX7_rule_17
set_option maxHeartbeats 4000000 in
set_option maxRecDepth 100000 in
theorem kX7_rule (l : Launch) (D : va_G) (a : Nat → Nat) (cA cZ : ClassId) (S : St) (v1 : Int32) : CI l D (wM a cA cZ) [(cA, .int), (cZ, .boolean)] yX7_rule (.code yX7_rule cX7_rule 2 (some .boolean)) 2 [.ref (a 0), .int v1] (fX7_rule v1 S) S := CI_of rfl (Nat.le_of_ble_eq_true rfl) (fun p e s m args below meth c A C => uX7_rule C v1 S)
theorem dX7_weights_0 : decode cX7_weights 0 = .ok (.iload_n 1, 1) := by decide +kernel
theorem dX7_weights_1 : decode cX7_weights 1 = .ok (.iconst 0, 1) := by decide +kernel
theorem dX7_weights_2 : decode cX7_weights 2 = .ok (.bipush 100, 2) := by decide +kernel
theorem dX7_weights_4 : decode cX7_weights 4 = .ok (.invokestatic 57, 3) := by decide +kernel
theorem dX7_weights_7 : decode cX7_weights 7 = .ok (.ifCond .eq 13, 3) := by decide +kernel
theorem dX7_weights_10 : decode cX7_weights 10 = .ok (.iload_n 2, 1) := by decide +kernel
theorem dX7_weights_11 : decode cX7_weights 11 = .ok (.iconst 0, 1) := by decide +kernel
theorem dX7_weights_12 : decode cX7_weights 12 = .ok (.bipush 100, 2) := by decide +kernel
theorem dX7_weights_14 : decode cX7_weights 14 = .ok (.invokestatic 57, 3) := by decide +kernel
theorem dX7_weights_17 : decode cX7_weights 17 = .ok (.ifCond .ne 5, 3) := by decide +kernel
theorem dX7_weights_20 : decode cX7_weights 20 = .ok (.iconst 0, 1) := by decide +kernel
theorem dX7_weights_21 : decode cX7_weights 21 = .ok (.ireturn, 1) := by decide +kernel
theorem dX7_weights_22 : decode cX7_weights 22 = .ok (.aload_n 0, 1) := by decide +kernel
theorem dX7_weights_23 : decode cX7_weights 23 = .ok (.iload_n 1, 1) := by decide +kernel
theorem dX7_weights_24 : decode cX7_weights 24 = .ok (.putfield 25, 3) := by decide +kernel
theorem dX7_weights_27 : decode cX7_weights 27 = .ok (.aload_n 0, 1) := by decide +kernel
theorem dX7_weights_28 : decode cX7_weights 28 = .ok (.iload_n 2, 1) := by decide +kernel
theorem dX7_weights_29 : decode cX7_weights 29 = .ok (.putfield 29, 3) := by decide +kernel
theorem dX7_weights_32 : decode cX7_weights 32 = .ok (.iconst 1, 1) := by decide +kernel
theorem dX7_weights_33 : decode cX7_weights 33 = .ok (.ireturn, 1) := by decide +kernel
set_option maxHeartbeats 4000000 in
set_option maxRecDepth 100000 in
theorem uX7_weights_20 (C : CX D [(cA, .int), (cZ, .boolean)] p s m args meth c A cX7_weights 3 RX7 (some .boolean)) (S : St) : RU D (wM a cA cZ) p l e 2 s m args below meth c A 3 (QI D (wM a cA cZ) [(cA, .int), (cZ, .boolean)] A) (fX7_weights_20 S) 20 [] [] S := by
  unfold fX7_weights_20
  refine R_iconst (v := (0 : Int32)) C dX7_weights_20 (by decide) ?_
  exact R_retz C dX7_weights_21
set_option maxHeartbeats 4000000 in
set_option maxRecDepth 100000 in
theorem uX7_weights (C : CX D [(cA, .int), (cZ, .boolean)] p s m args meth c A cX7_weights 3 RX7 (some .boolean)) (v1 v2 : Int32) (S : St) : RU D (wM a cA cZ) p l e 2 s m args below meth c A 3 (QI D (wM a cA cZ) [(cA, .int), (cZ, .boolean)] A) (fX7_weights v1 v2 S) 0 [] [(0, .ref (a 0)), (1, .int v1), (2, .int v2)] S := by
  unfold fX7_weights
  refine R_iload_n C dX7_weights_0 rfl 1 rfl ?_
  refine R_iconst (v := (0 : Int32)) C dX7_weights_1 (by decide) ?_
  refine R_bipush (v := (100 : Int32)) C dX7_weights_2 (by decide) ?_
  refine R_calls (As := [.int v1, .int (0 : Int32), .int (100 : Int32)]) (st := []) C (kX7_in l D a cA cZ S v1 (0 : Int32) (100 : Int32)) (by decide) (by decide) wd_3_70 kwX7_in rfl rfl (Nat.le_of_ble_eq_true rfl) dX7_weights_4 (fun r1 S2 => ?_)
  refine R_if_eq (tgt := 20) C dX7_weights_7 (by decide) ?_ ?_
  · refine R_sub [] rfl ?_
    exact uX7_weights_20 C S2
  · refine R_iload_n C dX7_weights_10 rfl 2 rfl ?_
    refine R_iconst (v := (0 : Int32)) C dX7_weights_11 (by decide) ?_
    refine R_bipush (v := (100 : Int32)) C dX7_weights_12 (by decide) ?_
    refine R_calls (As := [.int v2, .int (0 : Int32), .int (100 : Int32)]) (st := []) C (kX7_in l D a cA cZ S2 v2 (0 : Int32) (100 : Int32)) (by decide) (by decide) wd_3_70 kwX7_in rfl rfl (Nat.le_of_ble_eq_true rfl) dX7_weights_14 (fun r3 S4 => ?_)
    refine R_if_ne (tgt := 22) C dX7_weights_17 (by decide) ?_ ?_
    · refine R_sub [] rfl ?_
      exact uX7_weights_20 C S4
    · refine R_aload_n C dX7_weights_22 rfl 0 rfl ?_
      refine R_iload_n C dX7_weights_23 rfl 1 rfl ?_
      refine ptM_X7_slack C wd_3_13 dX7_weights_24 ?_
      refine R_letS (fun S5 => ?_)
      refine R_aload_n C dX7_weights_27 rfl 0 rfl ?_
      refine R_iload_n C dX7_weights_28 rfl 2 rfl ?_
      refine ptM_X7_lean C wd_3_14 dX7_weights_29 ?_
      refine R_letS (fun S6 => ?_)
      refine R_iconst (v := (1 : Int32)) C dX7_weights_32 (by decide) ?_
      exact R_retz C dX7_weights_33
set_option maxHeartbeats 4000000 in
set_option maxRecDepth 100000 in
theorem kX7_weights (l : Launch) (D : va_G) (a : Nat → Nat) (cA cZ : ClassId) (S : St) (v1 v2 : Int32) : CI l D (wM a cA cZ) [(cA, .int), (cZ, .boolean)] yX7_weights (.code yX7_weights cX7_weights 3 (some .boolean)) 2 [.ref (a 0), .int v1, .int v2] (fX7_weights v1 v2 S) S := CI_of rfl (Nat.le_of_ble_eq_true rfl) (fun p e s m args below meth c A C => uX7_weights C v1 v2 S)
theorem dX7_window_0 : decode cX7_window 0 = .ok (.iload_n 1, 1) := by decide +kernel
theorem dX7_window_1 : decode cX7_window 1 = .ok (.iconst 0, 1) := by decide +kernel
theorem dX7_window_2 : decode cX7_window 2 = .ok (.sipush 300, 3) := by decide +kernel
theorem dX7_window_5 : decode cX7_window 5 = .ok (.invokestatic 57, 3) := by decide +kernel
theorem dX7_window_8 : decode cX7_window 8 = .ok (.ifCond .ne 5, 3) := by decide +kernel
theorem dX7_window_11 : decode cX7_window 11 = .ok (.iconst 0, 1) := by decide +kernel
theorem dX7_window_12 : decode cX7_window 12 = .ok (.ireturn, 1) := by decide +kernel
theorem dX7_window_13 : decode cX7_window 13 = .ok (.aload_n 0, 1) := by decide +kernel
theorem dX7_window_14 : decode cX7_window 14 = .ok (.iload_n 1, 1) := by decide +kernel
theorem dX7_window_15 : decode cX7_window 15 = .ok (.putfield 96, 3) := by decide +kernel
theorem dX7_window_18 : decode cX7_window 18 = .ok (.aload_n 0, 1) := by decide +kernel
theorem dX7_window_19 : decode cX7_window 19 = .ok (.invokevirtual 93, 3) := by decide +kernel
theorem dX7_window_22 : decode cX7_window 22 = .ok (.iconst 1, 1) := by decide +kernel
theorem dX7_window_23 : decode cX7_window 23 = .ok (.ireturn, 1) := by decide +kernel
set_option maxHeartbeats 4000000 in
set_option maxRecDepth 100000 in
theorem uX7_window (C : CX D [(cA, .int), (cZ, .boolean)] p s m args meth c A cX7_window 2 RX7 (some .boolean)) (v1 : Int32) (S : St) : RU D (wM a cA cZ) p l e 3 s m args below meth c A 2 (QI D (wM a cA cZ) [(cA, .int), (cZ, .boolean)] A) (fX7_window v1 S) 0 [] [(0, .ref (a 0)), (1, .int v1)] S := by
  unfold fX7_window
  refine R_iload_n C dX7_window_0 rfl 1 rfl ?_
  refine R_iconst (v := (0 : Int32)) C dX7_window_1 (by decide) ?_
  refine R_sipush (v := (300 : Int32)) C dX7_window_2 (by decide) ?_
  refine R_calls (As := [.int v1, .int (0 : Int32), .int (300 : Int32)]) (st := []) C (kX7_in l D a cA cZ S v1 (0 : Int32) (300 : Int32)) (by decide) (by decide) wd_3_70 kwX7_in rfl rfl (Nat.le_of_ble_eq_true rfl) dX7_window_5 (fun r1 S2 => ?_)
  refine R_if_ne (tgt := 13) C dX7_window_8 (by decide) ?_ ?_
  · refine R_iconst (v := (0 : Int32)) C dX7_window_11 (by decide) ?_
    exact R_retz C dX7_window_12
  · refine R_aload_n C dX7_window_13 rfl 0 rfl ?_
    refine R_iload_n C dX7_window_14 rfl 1 rfl ?_
    refine ptM_X7_window C wd_3_12 dX7_window_15 ?_
    refine R_letS (fun S3 => ?_)
    refine R_aload_n C dX7_window_18 rfl 0 rfl ?_
    refine R_callv (As := []) (st := []) C (kX7_shuts l D a cA cZ S3) (by decide) (by decide) wd_3_97 kwX7_shuts 0 rfl rfl rfl rfl (Nat.le_of_ble_eq_true rfl) dX7_window_19 (fun r4 S5 => ?_)
    refine R_iconst (v := (1 : Int32)) C dX7_window_22 (by decide) ?_
    exact R_retz C dX7_window_23
set_option maxHeartbeats 4000000 in
set_option maxRecDepth 100000 in
theorem kX7_window (l : Launch) (D : va_G) (a : Nat → Nat) (cA cZ : ClassId) (S : St) (v1 : Int32) : CI l D (wM a cA cZ) [(cA, .int), (cZ, .boolean)] yX7_window (.code yX7_window cX7_window 2 (some .boolean)) 3 [.ref (a 0), .int v1] (fX7_window v1 S) S := CI_of rfl (Nat.le_of_ble_eq_true rfl) (fun p e s m args below meth c A C => uX7_window C v1 S)
theorem dX7_leave_0 : decode cX7_leave 0 = .ok (.aload_n 0, 1) := by decide +kernel
theorem dX7_leave_1 : decode cX7_leave 1 = .ok (.iload_n 1, 1) := by decide +kernel
theorem dX7_leave_2 : decode cX7_leave 2 = .ok (.invokevirtual 99, 3) := by decide +kernel
theorem dX7_leave_5 : decode cX7_leave 5 = .ok (.ifCond .ne 5, 3) := by decide +kernel
theorem dX7_leave_8 : decode cX7_leave 8 = .ok (.iconst 0, 1) := by decide +kernel
theorem dX7_leave_9 : decode cX7_leave 9 = .ok (.ireturn, 1) := by decide +kernel
theorem dX7_leave_10 : decode cX7_leave 10 = .ok (.aload_n 0, 1) := by decide +kernel
theorem dX7_leave_11 : decode cX7_leave 11 = .ok (.iload_n 1, 1) := by decide +kernel
theorem dX7_leave_12 : decode cX7_leave 12 = .ok (.aload_n 0, 1) := by decide +kernel
theorem dX7_leave_13 : decode cX7_leave 13 = .ok (.getfield 16, 3) := by decide +kernel
theorem dX7_leave_16 : decode cX7_leave 16 = .ok (.iload_n 1, 1) := by decide +kernel
theorem dX7_leave_17 : decode cX7_leave 17 = .ok (.iaload, 1) := by decide +kernel
theorem dX7_leave_18 : decode cX7_leave 18 = .ok (.iconst (-1), 1) := by decide +kernel
theorem dX7_leave_19 : decode cX7_leave 19 = .ok (.invokevirtual 82, 3) := by decide +kernel
theorem dX7_leave_22 : decode cX7_leave 22 = .ok (.iconst 1, 1) := by decide +kernel
theorem dX7_leave_23 : decode cX7_leave 23 = .ok (.ireturn, 1) := by decide +kernel
set_option maxHeartbeats 4000000 in
set_option maxRecDepth 100000 in
theorem uX7_leave (C : CX D [(cA, .int), (cZ, .boolean)] p s m args meth c A cX7_leave 2 RX7 (some .boolean)) (v1 : Int32) (S : St) : RU D (wM a cA cZ) p l e 3 s m args below meth c A 2 (QI D (wM a cA cZ) [(cA, .int), (cZ, .boolean)] A) (fX7_leave v1 S) 0 [] [(0, .ref (a 0)), (1, .int v1)] S := by
  unfold fX7_leave
  refine R_aload_n C dX7_leave_0 rfl 0 rfl ?_
  refine R_iload_n C dX7_leave_1 rfl 1 rfl ?_
  refine R_calli (As := [.int v1]) (st := []) C (kX7_isLive l D a cA cZ S v1) (by decide) (by decide) wd_3_117 kwX7_isLive 0 rfl rfl rfl rfl (Nat.le_of_ble_eq_true rfl) dX7_leave_2 (fun r1 S2 => ?_)
  refine R_if_ne (tgt := 10) C dX7_leave_5 (by decide) ?_ ?_
  · refine R_iconst (v := (0 : Int32)) C dX7_leave_8 (by decide) ?_
    exact R_retz C dX7_leave_9
  · refine R_aload_n C dX7_leave_10 rfl 0 rfl ?_
    refine R_iload_n C dX7_leave_11 rfl 1 rfl ?_
    refine R_aload_n C dX7_leave_12 rfl 0 rfl ?_
    refine gtM_X7_hostOf C wd_3_8 dX7_leave_13 ?_
    refine R_iload_n C dX7_leave_16 rfl 1 rfl ?_
    refine ldM2 C dX7_leave_17 ?_
    refine R_iconst (v := (-1 : Int32)) C dX7_leave_18 (by decide) ?_
    refine R_callv (As := [.int v1, .int (S2.2 2 (ix v1)), .int (-1 : Int32)]) (st := []) C (kX7_puts l D a cA cZ S2 v1 (S2.2 2 (ix v1)) (-1 : Int32)) (by decide) (by decide) wd_3_93 kwX7_puts 0 rfl rfl rfl rfl (Nat.le_of_ble_eq_true rfl) dX7_leave_19 (fun r3 S4 => ?_)
    refine R_iconst (v := (1 : Int32)) C dX7_leave_22 (by decide) ?_
    exact R_retz C dX7_leave_23
set_option maxHeartbeats 4000000 in
set_option maxRecDepth 100000 in
theorem kX7_leave (l : Launch) (D : va_G) (a : Nat → Nat) (cA cZ : ClassId) (S : St) (v1 : Int32) : CI l D (wM a cA cZ) [(cA, .int), (cZ, .boolean)] yX7_leave (.code yX7_leave cX7_leave 2 (some .boolean)) 3 [.ref (a 0), .int v1] (fX7_leave v1 S) S := CI_of rfl (Nat.le_of_ble_eq_true rfl) (fun p e s m args below meth c A C => uX7_leave C v1 S)
end
