/-! walks of the class -/
section
variable {D : va_G} {a : Nat → Nat} {cA cZ : ClassId} {p : Program} {l : Launch} {e : Env} {s : State} {m : MethodId} {args : Array Value} {below : List Frame} {meth : Method} {c : Code} {A : Nat → Prop}

theorem dX4_takeOff_0 : decode cX4_takeOff 0 = .ok (.aload_n 0, 1) := by decide +kernel
theorem dX4_takeOff_1 : decode cX4_takeOff 1 = .ok (.iload_n 1, 1) := by decide +kernel
theorem dX4_takeOff_2 : decode cX4_takeOff 2 = .ok (.invokevirtual 51, 3) := by decide +kernel
theorem dX4_takeOff_5 : decode cX4_takeOff 5 = .ok (.ifCond .ne 5, 3) := by decide +kernel
theorem dX4_takeOff_8 : decode cX4_takeOff 8 = .ok (.iconst 0, 1) := by decide +kernel
theorem dX4_takeOff_9 : decode cX4_takeOff 9 = .ok (.ireturn, 1) := by decide +kernel
theorem dX4_takeOff_10 : decode cX4_takeOff 10 = .ok (.aload_n 0, 1) := by decide +kernel
theorem dX4_takeOff_11 : decode cX4_takeOff 11 = .ok (.getfield 18, 3) := by decide +kernel
theorem dX4_takeOff_14 : decode cX4_takeOff 14 = .ok (.iload_n 1, 1) := by decide +kernel
theorem dX4_takeOff_15 : decode cX4_takeOff 15 = .ok (.iaload, 1) := by decide +kernel
theorem dX4_takeOff_16 : decode cX4_takeOff 16 = .ok (.istore_n 2, 1) := by decide +kernel
theorem dX4_takeOff_17 : decode cX4_takeOff 17 = .ok (.aload_n 0, 1) := by decide +kernel
theorem dX4_takeOff_18 : decode cX4_takeOff 18 = .ok (.getfield 18, 3) := by decide +kernel
theorem dX4_takeOff_21 : decode cX4_takeOff 21 = .ok (.iload_n 1, 1) := by decide +kernel
theorem dX4_takeOff_22 : decode cX4_takeOff 22 = .ok (.iconst (-1), 1) := by decide +kernel
theorem dX4_takeOff_23 : decode cX4_takeOff 23 = .ok (.iastore, 1) := by decide +kernel
theorem dX4_takeOff_24 : decode cX4_takeOff 24 = .ok (.aload_n 0, 1) := by decide +kernel
theorem dX4_takeOff_25 : decode cX4_takeOff 25 = .ok (.getfield 21, 3) := by decide +kernel
theorem dX4_takeOff_28 : decode cX4_takeOff 28 = .ok (.iload_n 2, 1) := by decide +kernel
theorem dX4_takeOff_29 : decode cX4_takeOff 29 = .ok (.dup2, 1) := by decide +kernel
theorem dX4_takeOff_30 : decode cX4_takeOff 30 = .ok (.iaload, 1) := by decide +kernel
theorem dX4_takeOff_31 : decode cX4_takeOff 31 = .ok (.iconst 1, 1) := by decide +kernel
theorem dX4_takeOff_32 : decode cX4_takeOff 32 = .ok (.isub, 1) := by decide +kernel
theorem dX4_takeOff_33 : decode cX4_takeOff 33 = .ok (.iastore, 1) := by decide +kernel
theorem dX4_takeOff_34 : decode cX4_takeOff 34 = .ok (.aload_n 0, 1) := by decide +kernel
theorem dX4_takeOff_35 : decode cX4_takeOff 35 = .ok (.dup, 1) := by decide +kernel
theorem dX4_takeOff_36 : decode cX4_takeOff 36 = .ok (.getfield 44, 3) := by decide +kernel
theorem dX4_takeOff_39 : decode cX4_takeOff 39 = .ok (.iconst 1, 1) := by decide +kernel
theorem dX4_takeOff_40 : decode cX4_takeOff 40 = .ok (.isub, 1) := by decide +kernel
theorem dX4_takeOff_41 : decode cX4_takeOff 41 = .ok (.putfield 44, 3) := by decide +kernel
theorem dX4_takeOff_44 : decode cX4_takeOff 44 = .ok (.aload_n 0, 1) := by decide +kernel
theorem dX4_takeOff_45 : decode cX4_takeOff 45 = .ok (.aload_n 0, 1) := by decide +kernel
theorem dX4_takeOff_46 : decode cX4_takeOff 46 = .ok (.getfield 9, 3) := by decide +kernel
theorem dX4_takeOff_49 : decode cX4_takeOff 49 = .ok (.iload_n 1, 1) := by decide +kernel
theorem dX4_takeOff_50 : decode cX4_takeOff 50 = .ok (.iaload, 1) := by decide +kernel
theorem dX4_takeOff_51 : decode cX4_takeOff 51 = .ok (.iload_n 2, 1) := by decide +kernel
theorem dX4_takeOff_52 : decode cX4_takeOff 52 = .ok (.invokevirtual 54, 3) := by decide +kernel
theorem dX4_takeOff_55 : decode cX4_takeOff 55 = .ok (.aload_n 0, 1) := by decide +kernel
theorem dX4_takeOff_56 : decode cX4_takeOff 56 = .ok (.aload_n 0, 1) := by decide +kernel
theorem dX4_takeOff_57 : decode cX4_takeOff 57 = .ok (.getfield 15, 3) := by decide +kernel
theorem dX4_takeOff_60 : decode cX4_takeOff 60 = .ok (.iload_n 1, 1) := by decide +kernel
theorem dX4_takeOff_61 : decode cX4_takeOff 61 = .ok (.iaload, 1) := by decide +kernel
theorem dX4_takeOff_62 : decode cX4_takeOff 62 = .ok (.iload_n 2, 1) := by decide +kernel
theorem dX4_takeOff_63 : decode cX4_takeOff 63 = .ok (.invokevirtual 54, 3) := by decide +kernel
theorem dX4_takeOff_66 : decode cX4_takeOff 66 = .ok (.iconst 1, 1) := by decide +kernel
theorem dX4_takeOff_67 : decode cX4_takeOff 67 = .ok (.ireturn, 1) := by decide +kernel
set_option maxHeartbeats 4000000 in
set_option maxRecDepth 100000 in
theorem uX4_takeOff (C : CX D [(cA, .int)] p s m args meth c A cX4_takeOff 3 RX4 (some .boolean)) (v1 : Int32) (S : St) : RU D (wX a cA) p l e 2 s m args below meth c A 3 (QI D (wX a cA) [(cA, .int)] A) (fX4_takeOff v1 S) 0 [] [(0, .ref (a 1)), (1, .int v1)] S := by
  unfold fX4_takeOff
  refine R_aload_n C dX4_takeOff_0 rfl 0 rfl ?_
  refine R_iload_n C dX4_takeOff_1 rfl 1 rfl ?_
  refine R_calli (As := [.int v1]) (st := []) C (kX4_isLive l D a cA S v1) (by decide) (by decide) wd_2_53 kwX4_isLive 1 rfl rfl rfl rfl (Nat.le_of_ble_eq_true rfl) dX4_takeOff_2 (fun r1 S2 => ?_)
  refine R_if_ne (tgt := 10) C dX4_takeOff_5 (by decide) ?_ ?_
  · refine R_iconst (v := (0 : Int32)) C dX4_takeOff_8 (by decide) ?_
    exact R_retz C dX4_takeOff_9
  · refine R_aload_n C dX4_takeOff_10 rfl 0 rfl ?_
    refine gtX_X4_hostOf C wd_1_42 dX4_takeOff_11 ?_
    refine R_iload_n C dX4_takeOff_14 rfl 1 rfl ?_
    refine ldX3 C dX4_takeOff_15 ?_
    refine R_let (fun x3 => ?_)
    refine R_istore_n (lv' := [(2, .int x3), (0, .ref (a 1)), (1, .int v1)]) C dX4_takeOff_16 rfl (by decide) rfl ?_
    refine R_aload_n C dX4_takeOff_17 rfl 1 rfl ?_
    refine gtX_X4_hostOf C wd_1_42 dX4_takeOff_18 ?_
    refine R_iload_n C dX4_takeOff_21 rfl 2 rfl ?_
    refine R_iconst (v := (-1 : Int32)) C dX4_takeOff_22 (by decide) ?_
    refine svX3 C dX4_takeOff_23 ?_
    refine R_letS (fun S4 => ?_)
    refine R_aload_n C dX4_takeOff_24 rfl 1 rfl ?_
    refine gtX_X4_loads C wd_1_45 dX4_takeOff_25 ?_
    refine R_iload_n C dX4_takeOff_28 rfl 0 rfl ?_
    refine R_dup2 C dX4_takeOff_29 rfl rfl ?_
    refine ldX4 C dX4_takeOff_30 ?_
    refine R_iconst (v := (1 : Int32)) C dX4_takeOff_31 (by decide) ?_
    refine R_isub C dX4_takeOff_32 ?_
    refine svX4 C dX4_takeOff_33 ?_
    refine R_letS (fun S5 => ?_)
    refine R_aload_n C dX4_takeOff_34 rfl 1 rfl ?_
    refine R_dup C dX4_takeOff_35 rfl ?_
    refine gtX_X4_live C wd_1_68 dX4_takeOff_36 ?_
    refine R_iconst (v := (1 : Int32)) C dX4_takeOff_39 (by decide) ?_
    refine R_isub C dX4_takeOff_40 ?_
    refine ptX_X4_live C wd_1_68 dX4_takeOff_41 ?_
    refine R_letS (fun S6 => ?_)
    refine R_aload_n C dX4_takeOff_44 rfl 1 rfl ?_
    refine R_aload_n C dX4_takeOff_45 rfl 1 rfl ?_
    refine gtX_X4_firstEnd C wd_1_32 dX4_takeOff_46 ?_
    refine R_iload_n C dX4_takeOff_49 rfl 2 rfl ?_
    refine ldX1 C dX4_takeOff_50 ?_
    refine R_iload_n C dX4_takeOff_51 rfl 0 rfl ?_
    refine R_callv (As := [.int (S6.2 1 (ix v1)), .int x3]) (st := []) C (kX4_takeEnd l D a cA S6 (S6.2 1 (ix v1)) x3) (by decide) (by decide) wd_2_57 kwX4_takeEnd 1 rfl rfl rfl rfl (Nat.le_of_ble_eq_true rfl) dX4_takeOff_52 (fun r7 S8 => ?_)
    refine R_aload_n C dX4_takeOff_55 rfl 1 rfl ?_
    refine R_aload_n C dX4_takeOff_56 rfl 1 rfl ?_
    refine gtX_X4_secondEnd C wd_1_37 dX4_takeOff_57 ?_
    refine R_iload_n C dX4_takeOff_60 rfl 2 rfl ?_
    refine ldX2 C dX4_takeOff_61 ?_
    refine R_iload_n C dX4_takeOff_62 rfl 0 rfl ?_
    refine R_callv (As := [.int (S8.2 2 (ix v1)), .int x3]) (st := []) C (kX4_takeEnd l D a cA S8 (S8.2 2 (ix v1)) x3) (by decide) (by decide) wd_2_57 kwX4_takeEnd 1 rfl rfl rfl rfl (Nat.le_of_ble_eq_true rfl) dX4_takeOff_63 (fun r9 S10 => ?_)
    refine R_iconst (v := (1 : Int32)) C dX4_takeOff_66 (by decide) ?_
    exact R_retz C dX4_takeOff_67
set_option maxHeartbeats 4000000 in
set_option maxRecDepth 100000 in
theorem kX4_takeOff (l : Launch) (D : va_G) (a : Nat → Nat) (cA : ClassId) (S : St) (v1 : Int32) : CI l D (wX a cA) [(cA, .int)] yX4_takeOff (.code yX4_takeOff cX4_takeOff 3 (some .boolean)) 2 [.ref (a 1), .int v1] (fX4_takeOff v1 S) S := CI_of rfl (Nat.le_of_ble_eq_true rfl) (fun p e s m args below meth c A C => uX4_takeOff C v1 S)
theorem dX6_keepWindow_0 : decode cX6_keepWindow 0 = .ok (.aload_n 0, 1) := by decide +kernel
theorem dX6_keepWindow_1 : decode cX6_keepWindow 1 = .ok (.getfield 98, 3) := by decide +kernel
theorem dX6_keepWindow_4 : decode cX6_keepWindow 4 = .ok (.ifCond .ne 4, 3) := by decide +kernel
theorem dX6_keepWindow_7 : decode cX6_keepWindow 7 = .ok (.return_, 1) := by decide +kernel
theorem dX6_keepWindow_8 : decode cX6_keepWindow 8 = .ok (.iconst 0, 1) := by decide +kernel
theorem dX6_keepWindow_9 : decode cX6_keepWindow 9 = .ok (.istore_n 1, 1) := by decide +kernel
theorem dX6_keepWindow_10 : decode cX6_keepWindow 10 = .ok (.iload_n 1, 1) := by decide +kernel
theorem dX6_keepWindow_11 : decode cX6_keepWindow 11 = .ok (.aload_n 0, 1) := by decide +kernel
theorem dX6_keepWindow_12 : decode cX6_keepWindow 12 = .ok (.getfield 23, 3) := by decide +kernel
theorem dX6_keepWindow_15 : decode cX6_keepWindow 15 = .ok (.getfield 72, 3) := by decide +kernel
theorem dX6_keepWindow_18 : decode cX6_keepWindow 18 = .ok (.if_icmp .ge 32, 3) := by decide +kernel
theorem dX6_keepWindow_21 : decode cX6_keepWindow 21 = .ok (.aload_n 0, 1) := by decide +kernel
theorem dX6_keepWindow_22 : decode cX6_keepWindow 22 = .ok (.getfield 23, 3) := by decide +kernel
theorem dX6_keepWindow_25 : decode cX6_keepWindow 25 = .ok (.getfield 139, 3) := by decide +kernel
theorem dX6_keepWindow_28 : decode cX6_keepWindow 28 = .ok (.aload_n 0, 1) := by decide +kernel
theorem dX6_keepWindow_29 : decode cX6_keepWindow 29 = .ok (.getfield 98, 3) := by decide +kernel
theorem dX6_keepWindow_32 : decode cX6_keepWindow 32 = .ok (.if_icmp .le 18, 3) := by decide +kernel
theorem dX6_keepWindow_35 : decode cX6_keepWindow 35 = .ok (.aload_n 0, 1) := by decide +kernel
theorem dX6_keepWindow_36 : decode cX6_keepWindow 36 = .ok (.getfield 23, 3) := by decide +kernel
theorem dX6_keepWindow_39 : decode cX6_keepWindow 39 = .ok (.iload_n 1, 1) := by decide +kernel
theorem dX6_keepWindow_40 : decode cX6_keepWindow 40 = .ok (.invokevirtual 101, 3) := by decide +kernel
theorem dX6_keepWindow_43 : decode cX6_keepWindow 43 = .ok (.pop, 1) := by decide +kernel
theorem dX6_keepWindow_44 : decode cX6_keepWindow 44 = .ok (.iinc 1 1, 3) := by decide +kernel
theorem dX6_keepWindow_47 : decode cX6_keepWindow 47 = .ok (.goto (-37), 3) := by decide +kernel
theorem dX6_keepWindow_50 : decode cX6_keepWindow 50 = .ok (.return_, 1) := by decide +kernel
set_option maxHeartbeats 4000000 in
set_option maxRecDepth 100000 in
theorem uX6_keepWindow_50 (C : CX D [(cA, .int)] p s m args meth c A cX6_keepWindow 2 RX6 none) (S : St) : RU D (wX a cA) p l e 3 s m args below meth c A 2 (QV D (wX a cA) [(cA, .int)] A) (fX6_keepWindow_50 S) 50 [] [] S := by
  unfold fX6_keepWindow_50
  exact R_retv C dX6_keepWindow_50
set_option maxHeartbeats 4000000 in
set_option maxRecDepth 100000 in
theorem uX6_keepWindow_10_b (C : CX D [(cA, .int)] p s m args meth c A cX6_keepWindow 2 RX6 none) (k10 : Int32 → St → Rs) (h10 : ∀ (v1 : Int32) (S : St), RU D (wX a cA) p l e 3 s m args below meth c A 2 (QV D (wX a cA) [(cA, .int)] A) (k10 v1 S) 10 [] [(0, .ref (a 0)), (1, .int v1)] S) (v1 : Int32) (S : St) : RU D (wX a cA) p l e 3 s m args below meth c A 2 (QV D (wX a cA) [(cA, .int)] A) (fX6_keepWindow_10_b k10 v1 S) 10 [] [(0, .ref (a 0)), (1, .int v1)] S := by
  unfold fX6_keepWindow_10_b
  refine R_iload_n C dX6_keepWindow_10 rfl 1 rfl ?_
  refine R_aload_n C dX6_keepWindow_11 rfl 0 rfl ?_
  refine gtX_X6_net C wd_1_205 dX6_keepWindow_12 ?_
  refine gtX_X4_came C wd_1_62 dX6_keepWindow_15 ?_
  refine R_icmp_ge (tgt := 50) C dX6_keepWindow_18 (by decide) ?_ ?_
  · refine R_sub [] rfl ?_
    exact uX6_keepWindow_50 C S
  · refine R_aload_n C dX6_keepWindow_21 rfl 0 rfl ?_
    refine gtX_X6_net C wd_1_205 dX6_keepWindow_22 ?_
    refine gtX_X4_live C wd_1_69 dX6_keepWindow_25 ?_
    refine R_aload_n C dX6_keepWindow_28 rfl 0 rfl ?_
    refine gtX_X6_windowSize C wd_1_212 dX6_keepWindow_29 ?_
    refine R_icmp_le (tgt := 50) C dX6_keepWindow_32 (by decide) ?_ ?_
    · refine R_sub [] rfl ?_
      exact uX6_keepWindow_50 C S
    · refine R_aload_n C dX6_keepWindow_35 rfl 0 rfl ?_
      refine gtX_X6_net C wd_1_205 dX6_keepWindow_36 ?_
      refine R_iload_n C dX6_keepWindow_39 rfl 1 rfl ?_
      refine R_calli (As := [.int v1]) (st := []) C (kX4_takeOff l D a cA S v1) (by decide) (by decide) wd_2_49 kwX4_takeOff 1 rfl rfl rfl rfl (Nat.le_of_ble_eq_true rfl) dX6_keepWindow_40 (fun r1 S2 => ?_)
      refine R_pop C dX6_keepWindow_43 rfl ?_
      refine R_iinc (v := v1 + 1) (lv' := [(1, .int (v1 + 1)), (0, .ref (a 0))]) C dX6_keepWindow_44 1 rfl rfl (by decide) rfl ?_
      refine R_goto (tgt := 10) C dX6_keepWindow_47 (by decide) ?_
      refine R_sub [1, 0] rfl ?_
      exact h10 (v1 + 1) S2
set_option maxHeartbeats 4000000 in
set_option maxRecDepth 100000 in
theorem uX6_keepWindow_10 (C : CX D [(cA, .int)] p s m args meth c A cX6_keepWindow 2 RX6 none) : ∀ (n : Nat) (v1 : Int32) (S : St), RU D (wX a cA) p l e 3 s m args below meth c A 2 (QV D (wX a cA) [(cA, .int)] A) (fX6_keepWindow_10 n v1 S) 10 [] [(0, .ref (a 0)), (1, .int v1)] S := by
  intro n
  induction n with
  | zero => intro v1 S; exact R_none
  | succ n ih => intro v1 S; exact uX6_keepWindow_10_b C _ ih v1 S
set_option maxHeartbeats 4000000 in
set_option maxRecDepth 100000 in
theorem uX6_keepWindow (C : CX D [(cA, .int)] p s m args meth c A cX6_keepWindow 2 RX6 none) (S : St) : RU D (wX a cA) p l e 3 s m args below meth c A 2 (QV D (wX a cA) [(cA, .int)] A) (fX6_keepWindow S) 0 [] [(0, .ref (a 0))] S := by
  unfold fX6_keepWindow
  refine R_aload_n C dX6_keepWindow_0 rfl 0 rfl ?_
  refine gtX_X6_windowSize C wd_1_212 dX6_keepWindow_1 ?_
  refine R_if_ne (tgt := 8) C dX6_keepWindow_4 (by decide) ?_ ?_
  · exact R_retv C dX6_keepWindow_7
  · refine R_iconst (v := (0 : Int32)) C dX6_keepWindow_8 (by decide) ?_
    refine R_istore_n (lv' := [(1, .int (0 : Int32)), (0, .ref (a 0))]) C dX6_keepWindow_9 rfl (by decide) rfl ?_
    refine R_sub [1, 0] rfl ?_
    exact uX6_keepWindow_10 C FU (0 : Int32) S
set_option maxHeartbeats 4000000 in
set_option maxRecDepth 100000 in
theorem kX6_keepWindow (l : Launch) (D : va_G) (a : Nat → Nat) (cA : ClassId) (S : St) : CV l D (wX a cA) [(cA, .int)] yX6_keepWindow (.code yX6_keepWindow cX6_keepWindow 2 none) 3 [.ref (a 0)] (fX6_keepWindow S) S := CV_of rfl (Nat.le_of_ble_eq_true rfl) (fun p e s m args below meth c A C => uX6_keepWindow C S)
theorem dX6_line_0 : decode cX6_line 0 = .ok (.iload_n 1, 1) := by decide +kernel
theorem dX6_line_1 : decode cX6_line 1 = .ok (.invokestatic 68, 3) := by decide +kernel
theorem dX6_line_4 : decode cX6_line 4 = .ok (.ifCond .eq 28, 3) := by decide +kernel
theorem dX6_line_7 : decode cX6_line 7 = .ok (.iload_n 2, 1) := by decide +kernel
theorem dX6_line_8 : decode cX6_line 8 = .ok (.invokestatic 68, 3) := by decide +kernel
theorem dX6_line_11 : decode cX6_line 11 = .ok (.ifCond .eq 21, 3) := by decide +kernel
theorem dX6_line_14 : decode cX6_line 14 = .ok (.iload_n 1, 1) := by decide +kernel
theorem dX6_line_15 : decode cX6_line 15 = .ok (.iload_n 2, 1) := by decide +kernel
theorem dX6_line_16 : decode cX6_line 16 = .ok (.if_icmp .eq 16, 3) := by decide +kernel
theorem dX6_line_19 : decode cX6_line 19 = .ok (.aload_n 0, 1) := by decide +kernel
theorem dX6_line_20 : decode cX6_line 20 = .ok (.getfield 23, 3) := by decide +kernel
theorem dX6_line_23 : decode cX6_line 23 = .ok (.getfield 72, 3) := by decide +kernel
theorem dX6_line_26 : decode cX6_line 26 = .ok (.sipush 300, 3) := by decide +kernel
theorem dX6_line_29 : decode cX6_line 29 = .ok (.if_icmp .lt 5, 3) := by decide +kernel
theorem dX6_line_32 : decode cX6_line 32 = .ok (.iconst (-1), 1) := by decide +kernel
theorem dX6_line_33 : decode cX6_line 33 = .ok (.ireturn, 1) := by decide +kernel
theorem dX6_line_34 : decode cX6_line 34 = .ok (.aload_n 0, 1) := by decide +kernel
theorem dX6_line_35 : decode cX6_line 35 = .ok (.getfield 32, 3) := by decide +kernel
theorem dX6_line_38 : decode cX6_line 38 = .ok (.aload_n 0, 1) := by decide +kernel
theorem dX6_line_39 : decode cX6_line 39 = .ok (.getfield 23, 3) := by decide +kernel
theorem dX6_line_42 : decode cX6_line 42 = .ok (.iload_n 1, 1) := by decide +kernel
theorem dX6_line_43 : decode cX6_line 43 = .ok (.iload_n 2, 1) := by decide +kernel
theorem dX6_line_44 : decode cX6_line 44 = .ok (.invokevirtual 76, 3) := by decide +kernel
theorem dX6_line_47 : decode cX6_line 47 = .ok (.invokevirtual 79, 3) := by decide +kernel
theorem dX6_line_50 : decode cX6_line 50 = .ok (.istore_n 3, 1) := by decide +kernel
theorem dX6_line_51 : decode cX6_line 51 = .ok (.aload_n 0, 1) := by decide +kernel
theorem dX6_line_52 : decode cX6_line 52 = .ok (.invokevirtual 83, 3) := by decide +kernel
theorem dX6_line_55 : decode cX6_line 55 = .ok (.iload_n 3, 1) := by decide +kernel
theorem dX6_line_56 : decode cX6_line 56 = .ok (.ireturn, 1) := by decide +kernel
set_option maxHeartbeats 4000000 in
set_option maxRecDepth 100000 in
theorem uX6_line_32 (C : CX D [(cA, .int)] p s m args meth c A cX6_line 4 RX6 (some .int)) (S : St) : RU D (wX a cA) p l e 6 s m args below meth c A 4 (QI D (wX a cA) [(cA, .int)] A) (fX6_line_32 S) 32 [] [] S := by
  unfold fX6_line_32
  refine R_iconst (v := (-1 : Int32)) C dX6_line_32 (by decide) ?_
  exact R_reti C dX6_line_33
set_option maxHeartbeats 4000000 in
set_option maxRecDepth 100000 in
theorem uX6_line (C : CX D [(cA, .int)] p s m args meth c A cX6_line 4 RX6 (some .int)) (v1 v2 : Int32) (S : St) : RU D (wX a cA) p l e 6 s m args below meth c A 4 (QI D (wX a cA) [(cA, .int)] A) (fX6_line v1 v2 S) 0 [] [(0, .ref (a 0)), (1, .int v1), (2, .int v2)] S := by
  unfold fX6_line
  refine R_iload_n C dX6_line_0 rfl 1 rfl ?_
  refine R_calls (As := [.int v1]) (st := []) C (kX6_isPoint l D a cA S v1) (by decide) (by decide) wd_1_237 kwX6_isPoint rfl rfl (Nat.le_of_ble_eq_true rfl) dX6_line_1 (fun r1 S2 => ?_)
  refine R_if_eq (tgt := 32) C dX6_line_4 (by decide) ?_ ?_
  · refine R_sub [] rfl ?_
    exact uX6_line_32 C S2
  · refine R_iload_n C dX6_line_7 rfl 2 rfl ?_
    refine R_calls (As := [.int v2]) (st := []) C (kX6_isPoint l D a cA S2 v2) (by decide) (by decide) wd_1_237 kwX6_isPoint rfl rfl (Nat.le_of_ble_eq_true rfl) dX6_line_8 (fun r3 S4 => ?_)
    refine R_if_eq (tgt := 32) C dX6_line_11 (by decide) ?_ ?_
    · refine R_sub [] rfl ?_
      exact uX6_line_32 C S4
    · refine R_iload_n C dX6_line_14 rfl 1 rfl ?_
      refine R_iload_n C dX6_line_15 rfl 2 rfl ?_
      refine R_icmp_eq (tgt := 32) C dX6_line_16 (by decide) ?_ ?_
      · refine R_sub [] rfl ?_
        exact uX6_line_32 C S4
      · refine R_aload_n C dX6_line_19 rfl 0 rfl ?_
        refine gtX_X6_net C wd_1_205 dX6_line_20 ?_
        refine gtX_X4_came C wd_1_62 dX6_line_23 ?_
        refine R_sipush (v := (300 : Int32)) C dX6_line_26 (by decide) ?_
        refine R_icmp_lt (tgt := 34) C dX6_line_29 (by decide) ?_ ?_
        · refine R_aload_n C dX6_line_34 rfl 0 rfl ?_
          refine gtX_X6_dealing C wd_1_206 dX6_line_35 ?_
          refine R_aload_n C dX6_line_38 rfl 0 rfl ?_
          refine gtX_X6_net C wd_1_205 dX6_line_39 ?_
          refine R_iload_n C dX6_line_42 rfl 1 rfl ?_
          refine R_iload_n C dX6_line_43 rfl 2 rfl ?_
          refine R_calli (As := [.int v1, .int v2]) (st := [.ref (a 2)]) C (kX4_addLine l D a cA S4 v1 v2) (by decide) (by decide) wd_2_0 kwX4_addLine 1 rfl rfl rfl rfl (Nat.le_of_ble_eq_true rfl) dX6_line_44 (fun r5 S6 => ?_)
          refine R_calli (As := [.int r5]) (st := []) C (kX1_dealLine l D a cA S6 r5) (by decide) (by decide) wd_2_4 kwX1_dealLine 2 rfl rfl rfl rfl (Nat.le_of_ble_eq_true rfl) dX6_line_47 (fun r7 S8 => ?_)
          refine R_istore_n (lv' := [(3, .int r7), (0, .ref (a 0)), (1, .int v1), (2, .int v2)]) C dX6_line_50 rfl (by decide) rfl ?_
          refine R_aload_n C dX6_line_51 rfl 1 rfl ?_
          refine R_callv (As := []) (st := []) C (kX6_keepWindow l D a cA S8) (by decide) (by decide) wd_2_45 kwX6_keepWindow 0 rfl rfl rfl rfl (Nat.le_of_ble_eq_true rfl) dX6_line_52 (fun r9 S10 => ?_)
          refine R_iload_n C dX6_line_55 rfl 0 rfl ?_
          exact R_reti C dX6_line_56
        · refine R_sub [] rfl ?_
          exact uX6_line_32 C S4
set_option maxHeartbeats 4000000 in
set_option maxRecDepth 100000 in
theorem kX6_line (l : Launch) (D : va_G) (a : Nat → Nat) (cA : ClassId) (S : St) (v1 v2 : Int32) : CI l D (wX a cA) [(cA, .int)] yX6_line (.code yX6_line cX6_line 4 (some .int)) 6 [.ref (a 0), .int v1, .int v2] (fX6_line v1 v2 S) S := CI_of rfl (Nat.le_of_ble_eq_true rfl) (fun p e s m args below meth c A C => uX6_line C v1 v2 S)
theorem dX6_rule_0 : decode cX6_rule 0 = .ok (.iload_n 1, 1) := by decide +kernel
theorem dX6_rule_1 : decode cX6_rule 1 = .ok (.ifCond .lt 8, 3) := by decide +kernel
theorem dX6_rule_4 : decode cX6_rule 4 = .ok (.iload_n 1, 1) := by decide +kernel
theorem dX6_rule_5 : decode cX6_rule 5 = .ok (.iconst 2, 1) := by decide +kernel
theorem dX6_rule_6 : decode cX6_rule 6 = .ok (.if_icmp .le 5, 3) := by decide +kernel
theorem dX6_rule_9 : decode cX6_rule 9 = .ok (.iconst 0, 1) := by decide +kernel
theorem dX6_rule_10 : decode cX6_rule 10 = .ok (.ireturn, 1) := by decide +kernel
theorem dX6_rule_11 : decode cX6_rule 11 = .ok (.aload_n 0, 1) := by decide +kernel
theorem dX6_rule_12 : decode cX6_rule 12 = .ok (.getfield 32, 3) := by decide +kernel
theorem dX6_rule_15 : decode cX6_rule 15 = .ok (.iload_n 1, 1) := by decide +kernel
theorem dX6_rule_16 : decode cX6_rule 16 = .ok (.putfield 86, 3) := by decide +kernel
theorem dX6_rule_19 : decode cX6_rule 19 = .ok (.iconst 1, 1) := by decide +kernel
theorem dX6_rule_20 : decode cX6_rule 20 = .ok (.ireturn, 1) := by decide +kernel
set_option maxHeartbeats 4000000 in
set_option maxRecDepth 100000 in
theorem uX6_rule_9 (C : CX D [(cA, .int)] p s m args meth c A cX6_rule 2 RX6 (some .boolean)) (S : St) : RU D (wX a cA) p l e 1 s m args below meth c A 2 (QI D (wX a cA) [(cA, .int)] A) (fX6_rule_9 S) 9 [] [] S := by
  unfold fX6_rule_9
  refine R_iconst (v := (0 : Int32)) C dX6_rule_9 (by decide) ?_
  exact R_retz C dX6_rule_10
set_option maxHeartbeats 4000000 in
set_option maxRecDepth 100000 in
theorem uX6_rule (C : CX D [(cA, .int)] p s m args meth c A cX6_rule 2 RX6 (some .boolean)) (v1 : Int32) (S : St) : RU D (wX a cA) p l e 1 s m args below meth c A 2 (QI D (wX a cA) [(cA, .int)] A) (fX6_rule v1 S) 0 [] [(0, .ref (a 0)), (1, .int v1)] S := by
  unfold fX6_rule
  refine R_iload_n C dX6_rule_0 rfl 1 rfl ?_
  refine R_if_lt (tgt := 9) C dX6_rule_1 (by decide) ?_ ?_
  · refine R_sub [] rfl ?_
    exact uX6_rule_9 C S
  · refine R_iload_n C dX6_rule_4 rfl 1 rfl ?_
    refine R_iconst (v := (2 : Int32)) C dX6_rule_5 (by decide) ?_
    refine R_icmp_le (tgt := 11) C dX6_rule_6 (by decide) ?_ ?_
    · refine R_aload_n C dX6_rule_11 rfl 0 rfl ?_
      refine gtX_X6_dealing C wd_1_206 dX6_rule_12 ?_
      refine R_iload_n C dX6_rule_15 rfl 1 rfl ?_
      refine ptX_X1_ruleNow C wd_1_105 dX6_rule_16 ?_
      refine R_letS (fun S1 => ?_)
      refine R_iconst (v := (1 : Int32)) C dX6_rule_19 (by decide) ?_
      exact R_retz C dX6_rule_20
    · refine R_sub [] rfl ?_
      exact uX6_rule_9 C S
set_option maxHeartbeats 4000000 in
set_option maxRecDepth 100000 in
theorem kX6_rule (l : Launch) (D : va_G) (a : Nat → Nat) (cA : ClassId) (S : St) (v1 : Int32) : CI l D (wX a cA) [(cA, .int)] yX6_rule (.code yX6_rule cX6_rule 2 (some .boolean)) 1 [.ref (a 0), .int v1] (fX6_rule v1 S) S := CI_of rfl (Nat.le_of_ble_eq_true rfl) (fun p e s m args below meth c A C => uX6_rule C v1 S)
theorem dX6_isWeight_0 : decode cX6_isWeight 0 = .ok (.iload_n 0, 1) := by decide +kernel
theorem dX6_isWeight_1 : decode cX6_isWeight 1 = .ok (.ifCond .lt 13, 3) := by decide +kernel
theorem dX6_isWeight_4 : decode cX6_isWeight 4 = .ok (.iload_n 0, 1) := by decide +kernel
theorem dX6_isWeight_5 : decode cX6_isWeight 5 = .ok (.bipush 100, 2) := by decide +kernel
theorem dX6_isWeight_7 : decode cX6_isWeight 7 = .ok (.if_icmp .gt 7, 3) := by decide +kernel
theorem dX6_isWeight_10 : decode cX6_isWeight 10 = .ok (.iconst 1, 1) := by decide +kernel
theorem dX6_isWeight_11 : decode cX6_isWeight 11 = .ok (.goto 4, 3) := by decide +kernel
theorem dX6_isWeight_14 : decode cX6_isWeight 14 = .ok (.iconst 0, 1) := by decide +kernel
theorem dX6_isWeight_15 : decode cX6_isWeight 15 = .ok (.ireturn, 1) := by decide +kernel
set_option maxHeartbeats 4000000 in
set_option maxRecDepth 100000 in
theorem uX6_isWeight_15 (C : CX D [(cA, .int)] p s m args meth c A cX6_isWeight 1 RX6 (some .boolean)) (t0 : Int32) (S : St) : RU D (wX a cA) p l e 1 s m args below meth c A 1 (QI D (wX a cA) [(cA, .int)] A) (fX6_isWeight_15 t0 S) 15 [.int t0] [] S := by
  unfold fX6_isWeight_15
  exact R_retz C dX6_isWeight_15
set_option maxHeartbeats 4000000 in
set_option maxRecDepth 100000 in
theorem uX6_isWeight_14 (C : CX D [(cA, .int)] p s m args meth c A cX6_isWeight 1 RX6 (some .boolean)) (S : St) : RU D (wX a cA) p l e 1 s m args below meth c A 1 (QI D (wX a cA) [(cA, .int)] A) (fX6_isWeight_14 S) 14 [] [] S := by
  unfold fX6_isWeight_14
  refine R_iconst (v := (0 : Int32)) C dX6_isWeight_14 (by decide) ?_
  exact uX6_isWeight_15 C (0 : Int32) S
set_option maxHeartbeats 4000000 in
set_option maxRecDepth 100000 in
theorem uX6_isWeight (C : CX D [(cA, .int)] p s m args meth c A cX6_isWeight 1 RX6 (some .boolean)) (v0 : Int32) (S : St) : RU D (wX a cA) p l e 1 s m args below meth c A 1 (QI D (wX a cA) [(cA, .int)] A) (fX6_isWeight v0 S) 0 [] [(0, .int v0)] S := by
  unfold fX6_isWeight
  refine R_iload_n C dX6_isWeight_0 rfl 0 rfl ?_
  refine R_if_lt (tgt := 14) C dX6_isWeight_1 (by decide) ?_ ?_
  · refine R_sub [] rfl ?_
    exact uX6_isWeight_14 C S
  · refine R_iload_n C dX6_isWeight_4 rfl 0 rfl ?_
    refine R_bipush (v := (100 : Int32)) C dX6_isWeight_5 (by decide) ?_
    refine R_icmp_gt (tgt := 14) C dX6_isWeight_7 (by decide) ?_ ?_
    · refine R_sub [] rfl ?_
      exact uX6_isWeight_14 C S
    · refine R_iconst (v := (1 : Int32)) C dX6_isWeight_10 (by decide) ?_
      refine R_goto (tgt := 15) C dX6_isWeight_11 (by decide) ?_
      refine R_sub [] rfl ?_
      exact uX6_isWeight_15 C (1 : Int32) S
set_option maxHeartbeats 4000000 in
set_option maxRecDepth 100000 in
theorem kX6_isWeight (l : Launch) (D : va_G) (a : Nat → Nat) (cA : ClassId) (S : St) (v0 : Int32) : CI l D (wX a cA) [(cA, .int)] yX6_isWeight (.code yX6_isWeight cX6_isWeight 1 (some .boolean)) 1 [.int v0] (fX6_isWeight v0 S) S := CI_of rfl (Nat.le_of_ble_eq_true rfl) (fun p e s m args below meth c A C => uX6_isWeight C v0 S)
theorem dX6_weights_0 : decode cX6_weights 0 = .ok (.iload_n 1, 1) := by decide +kernel
theorem dX6_weights_1 : decode cX6_weights 1 = .ok (.invokestatic 89, 3) := by decide +kernel
theorem dX6_weights_4 : decode cX6_weights 4 = .ok (.ifCond .eq 10, 3) := by decide +kernel
theorem dX6_weights_7 : decode cX6_weights 7 = .ok (.iload_n 2, 1) := by decide +kernel
theorem dX6_weights_8 : decode cX6_weights 8 = .ok (.invokestatic 89, 3) := by decide +kernel
theorem dX6_weights_11 : decode cX6_weights 11 = .ok (.ifCond .ne 5, 3) := by decide +kernel
theorem dX6_weights_14 : decode cX6_weights 14 = .ok (.iconst 0, 1) := by decide +kernel
theorem dX6_weights_15 : decode cX6_weights 15 = .ok (.ireturn, 1) := by decide +kernel
theorem dX6_weights_16 : decode cX6_weights 16 = .ok (.aload_n 0, 1) := by decide +kernel
theorem dX6_weights_17 : decode cX6_weights 17 = .ok (.getfield 32, 3) := by decide +kernel
theorem dX6_weights_20 : decode cX6_weights 20 = .ok (.iload_n 1, 1) := by decide +kernel
theorem dX6_weights_21 : decode cX6_weights 21 = .ok (.putfield 92, 3) := by decide +kernel
theorem dX6_weights_24 : decode cX6_weights 24 = .ok (.aload_n 0, 1) := by decide +kernel
theorem dX6_weights_25 : decode cX6_weights 25 = .ok (.getfield 32, 3) := by decide +kernel
theorem dX6_weights_28 : decode cX6_weights 28 = .ok (.iload_n 2, 1) := by decide +kernel
theorem dX6_weights_29 : decode cX6_weights 29 = .ok (.putfield 95, 3) := by decide +kernel
theorem dX6_weights_32 : decode cX6_weights 32 = .ok (.iconst 1, 1) := by decide +kernel
theorem dX6_weights_33 : decode cX6_weights 33 = .ok (.ireturn, 1) := by decide +kernel
set_option maxHeartbeats 4000000 in
set_option maxRecDepth 100000 in
theorem uX6_weights_14 (C : CX D [(cA, .int)] p s m args meth c A cX6_weights 3 RX6 (some .boolean)) (S : St) : RU D (wX a cA) p l e 2 s m args below meth c A 3 (QI D (wX a cA) [(cA, .int)] A) (fX6_weights_14 S) 14 [] [] S := by
  unfold fX6_weights_14
  refine R_iconst (v := (0 : Int32)) C dX6_weights_14 (by decide) ?_
  exact R_retz C dX6_weights_15
set_option maxHeartbeats 4000000 in
set_option maxRecDepth 100000 in
theorem uX6_weights (C : CX D [(cA, .int)] p s m args meth c A cX6_weights 3 RX6 (some .boolean)) (v1 v2 : Int32) (S : St) : RU D (wX a cA) p l e 2 s m args below meth c A 3 (QI D (wX a cA) [(cA, .int)] A) (fX6_weights v1 v2 S) 0 [] [(0, .ref (a 0)), (1, .int v1), (2, .int v2)] S := by
  unfold fX6_weights
  refine R_iload_n C dX6_weights_0 rfl 1 rfl ?_
  refine R_calls (As := [.int v1]) (st := []) C (kX6_isWeight l D a cA S v1) (by decide) (by decide) wd_2_69 kwX6_isWeight rfl rfl (Nat.le_of_ble_eq_true rfl) dX6_weights_1 (fun r1 S2 => ?_)
  refine R_if_eq (tgt := 14) C dX6_weights_4 (by decide) ?_ ?_
  · refine R_sub [] rfl ?_
    exact uX6_weights_14 C S2
  · refine R_iload_n C dX6_weights_7 rfl 2 rfl ?_
    refine R_calls (As := [.int v2]) (st := []) C (kX6_isWeight l D a cA S2 v2) (by decide) (by decide) wd_2_69 kwX6_isWeight rfl rfl (Nat.le_of_ble_eq_true rfl) dX6_weights_8 (fun r3 S4 => ?_)
    refine R_if_ne (tgt := 16) C dX6_weights_11 (by decide) ?_ ?_
    · refine R_sub [] rfl ?_
      exact uX6_weights_14 C S4
    · refine R_aload_n C dX6_weights_16 rfl 0 rfl ?_
      refine gtX_X6_dealing C wd_1_206 dX6_weights_17 ?_
      refine R_iload_n C dX6_weights_20 rfl 1 rfl ?_
      refine ptX_X1_slack C wd_1_107 dX6_weights_21 ?_
      refine R_letS (fun S5 => ?_)
      refine R_aload_n C dX6_weights_24 rfl 0 rfl ?_
      refine gtX_X6_dealing C wd_1_206 dX6_weights_25 ?_
      refine R_iload_n C dX6_weights_28 rfl 2 rfl ?_
      refine ptX_X1_lean C wd_1_109 dX6_weights_29 ?_
      refine R_letS (fun S6 => ?_)
      refine R_iconst (v := (1 : Int32)) C dX6_weights_32 (by decide) ?_
      exact R_retz C dX6_weights_33
set_option maxHeartbeats 4000000 in
set_option maxRecDepth 100000 in
theorem kX6_weights (l : Launch) (D : va_G) (a : Nat → Nat) (cA : ClassId) (S : St) (v1 v2 : Int32) : CI l D (wX a cA) [(cA, .int)] yX6_weights (.code yX6_weights cX6_weights 3 (some .boolean)) 2 [.ref (a 0), .int v1, .int v2] (fX6_weights v1 v2 S) S := CI_of rfl (Nat.le_of_ble_eq_true rfl) (fun p e s m args below meth c A C => uX6_weights C v1 v2 S)
theorem dX6_window_0 : decode cX6_window 0 = .ok (.iload_n 1, 1) := by decide +kernel
theorem dX6_window_1 : decode cX6_window 1 = .ok (.ifCond .lt 10, 3) := by decide +kernel
theorem dX6_window_4 : decode cX6_window 4 = .ok (.iload_n 1, 1) := by decide +kernel
theorem dX6_window_5 : decode cX6_window 5 = .ok (.sipush 300, 3) := by decide +kernel
theorem dX6_window_8 : decode cX6_window 8 = .ok (.if_icmp .le 5, 3) := by decide +kernel
theorem dX6_window_11 : decode cX6_window 11 = .ok (.iconst 0, 1) := by decide +kernel
theorem dX6_window_12 : decode cX6_window 12 = .ok (.ireturn, 1) := by decide +kernel
theorem dX6_window_13 : decode cX6_window 13 = .ok (.aload_n 0, 1) := by decide +kernel
theorem dX6_window_14 : decode cX6_window 14 = .ok (.iload_n 1, 1) := by decide +kernel
theorem dX6_window_15 : decode cX6_window 15 = .ok (.putfield 98, 3) := by decide +kernel
theorem dX6_window_18 : decode cX6_window 18 = .ok (.aload_n 0, 1) := by decide +kernel
theorem dX6_window_19 : decode cX6_window 19 = .ok (.invokevirtual 83, 3) := by decide +kernel
theorem dX6_window_22 : decode cX6_window 22 = .ok (.iconst 1, 1) := by decide +kernel
theorem dX6_window_23 : decode cX6_window 23 = .ok (.ireturn, 1) := by decide +kernel
set_option maxHeartbeats 4000000 in
set_option maxRecDepth 100000 in
theorem uX6_window_11 (C : CX D [(cA, .int)] p s m args meth c A cX6_window 2 RX6 (some .boolean)) (S : St) : RU D (wX a cA) p l e 4 s m args below meth c A 2 (QI D (wX a cA) [(cA, .int)] A) (fX6_window_11 S) 11 [] [] S := by
  unfold fX6_window_11
  refine R_iconst (v := (0 : Int32)) C dX6_window_11 (by decide) ?_
  exact R_retz C dX6_window_12
set_option maxHeartbeats 4000000 in
set_option maxRecDepth 100000 in
theorem uX6_window (C : CX D [(cA, .int)] p s m args meth c A cX6_window 2 RX6 (some .boolean)) (v1 : Int32) (S : St) : RU D (wX a cA) p l e 4 s m args below meth c A 2 (QI D (wX a cA) [(cA, .int)] A) (fX6_window v1 S) 0 [] [(0, .ref (a 0)), (1, .int v1)] S := by
  unfold fX6_window
  refine R_iload_n C dX6_window_0 rfl 1 rfl ?_
  refine R_if_lt (tgt := 11) C dX6_window_1 (by decide) ?_ ?_
  · refine R_sub [] rfl ?_
    exact uX6_window_11 C S
  · refine R_iload_n C dX6_window_4 rfl 1 rfl ?_
    refine R_sipush (v := (300 : Int32)) C dX6_window_5 (by decide) ?_
    refine R_icmp_le (tgt := 13) C dX6_window_8 (by decide) ?_ ?_
    · refine R_aload_n C dX6_window_13 rfl 0 rfl ?_
      refine R_iload_n C dX6_window_14 rfl 1 rfl ?_
      refine ptX_X6_windowSize C wd_1_212 dX6_window_15 ?_
      refine R_letS (fun S1 => ?_)
      refine R_aload_n C dX6_window_18 rfl 0 rfl ?_
      refine R_callv (As := []) (st := []) C (kX6_keepWindow l D a cA S1) (by decide) (by decide) wd_2_45 kwX6_keepWindow 0 rfl rfl rfl rfl (Nat.le_of_ble_eq_true rfl) dX6_window_19 (fun r2 S3 => ?_)
      refine R_iconst (v := (1 : Int32)) C dX6_window_22 (by decide) ?_
      exact R_retz C dX6_window_23
    · refine R_sub [] rfl ?_
      exact uX6_window_11 C S
set_option maxHeartbeats 4000000 in
set_option maxRecDepth 100000 in
theorem kX6_window (l : Launch) (D : va_G) (a : Nat → Nat) (cA : ClassId) (S : St) (v1 : Int32) : CI l D (wX a cA) [(cA, .int)] yX6_window (.code yX6_window cX6_window 2 (some .boolean)) 4 [.ref (a 0), .int v1] (fX6_window v1 S) S := CI_of rfl (Nat.le_of_ble_eq_true rfl) (fun p e s m args below meth c A C => uX6_window C v1 S)
theorem dX6_leave_0 : decode cX6_leave 0 = .ok (.aload_n 0, 1) := by decide +kernel
theorem dX6_leave_1 : decode cX6_leave 1 = .ok (.getfield 23, 3) := by decide +kernel
theorem dX6_leave_4 : decode cX6_leave 4 = .ok (.iload_n 1, 1) := by decide +kernel
theorem dX6_leave_5 : decode cX6_leave 5 = .ok (.invokevirtual 101, 3) := by decide +kernel
theorem dX6_leave_8 : decode cX6_leave 8 = .ok (.ireturn, 1) := by decide +kernel
set_option maxHeartbeats 4000000 in
set_option maxRecDepth 100000 in
theorem uX6_leave (C : CX D [(cA, .int)] p s m args meth c A cX6_leave 2 RX6 (some .boolean)) (v1 : Int32) (S : St) : RU D (wX a cA) p l e 3 s m args below meth c A 2 (QI D (wX a cA) [(cA, .int)] A) (fX6_leave v1 S) 0 [] [(0, .ref (a 0)), (1, .int v1)] S := by
  unfold fX6_leave
  refine R_aload_n C dX6_leave_0 rfl 0 rfl ?_
  refine gtX_X6_net C wd_1_205 dX6_leave_1 ?_
  refine R_iload_n C dX6_leave_4 rfl 1 rfl ?_
  refine R_calli (As := [.int v1]) (st := []) C (kX4_takeOff l D a cA S v1) (by decide) (by decide) wd_2_49 kwX4_takeOff 1 rfl rfl rfl rfl (Nat.le_of_ble_eq_true rfl) dX6_leave_5 (fun r1 S2 => ?_)
  exact R_retz C dX6_leave_8
set_option maxHeartbeats 4000000 in
set_option maxRecDepth 100000 in
theorem kX6_leave (l : Launch) (D : va_G) (a : Nat → Nat) (cA : ClassId) (S : St) (v1 : Int32) : CI l D (wX a cA) [(cA, .int)] yX6_leave (.code yX6_leave cX6_leave 2 (some .boolean)) 3 [.ref (a 0), .int v1] (fX6_leave v1 S) S := CI_of rfl (Nat.le_of_ble_eq_true rfl) (fun p e s m args below meth c A C => uX6_leave C v1 S)
theorem dX4_hasOneLineAt_0 : decode cX4_hasOneLineAt 0 = .ok (.aload_n 0, 1) := by decide +kernel
theorem dX4_hasOneLineAt_1 : decode cX4_hasOneLineAt 1 = .ok (.getfield 30, 3) := by decide +kernel
theorem dX4_hasOneLineAt_4 : decode cX4_hasOneLineAt 4 = .ok (.iload_n 2, 1) := by decide +kernel
theorem dX4_hasOneLineAt_5 : decode cX4_hasOneLineAt 5 = .ok (.bipush 40, 2) := by decide +kernel
theorem dX4_hasOneLineAt_7 : decode cX4_hasOneLineAt 7 = .ok (.imul, 1) := by decide +kernel
theorem dX4_hasOneLineAt_8 : decode cX4_hasOneLineAt 8 = .ok (.iload_n 1, 1) := by decide +kernel
theorem dX4_hasOneLineAt_9 : decode cX4_hasOneLineAt 9 = .ok (.iadd, 1) := by decide +kernel
theorem dX4_hasOneLineAt_10 : decode cX4_hasOneLineAt 10 = .ok (.iaload, 1) := by decide +kernel
theorem dX4_hasOneLineAt_11 : decode cX4_hasOneLineAt 11 = .ok (.iconst 1, 1) := by decide +kernel
theorem dX4_hasOneLineAt_12 : decode cX4_hasOneLineAt 12 = .ok (.if_icmp .ne 7, 3) := by decide +kernel
theorem dX4_hasOneLineAt_15 : decode cX4_hasOneLineAt 15 = .ok (.iconst 1, 1) := by decide +kernel
theorem dX4_hasOneLineAt_16 : decode cX4_hasOneLineAt 16 = .ok (.goto 4, 3) := by decide +kernel
theorem dX4_hasOneLineAt_19 : decode cX4_hasOneLineAt 19 = .ok (.iconst 0, 1) := by decide +kernel
theorem dX4_hasOneLineAt_20 : decode cX4_hasOneLineAt 20 = .ok (.ireturn, 1) := by decide +kernel
set_option maxHeartbeats 4000000 in
set_option maxRecDepth 100000 in
theorem uX4_hasOneLineAt_20 (C : CX D [(cA, .int)] p s m args meth c A cX4_hasOneLineAt 3 RX4 (some .boolean)) (t0 : Int32) (S : St) : RU D (wX a cA) p l e 1 s m args below meth c A 3 (QI D (wX a cA) [(cA, .int)] A) (fX4_hasOneLineAt_20 t0 S) 20 [.int t0] [] S := by
  unfold fX4_hasOneLineAt_20
  exact R_retz C dX4_hasOneLineAt_20
set_option maxHeartbeats 4000000 in
set_option maxRecDepth 100000 in
theorem uX4_hasOneLineAt (C : CX D [(cA, .int)] p s m args meth c A cX4_hasOneLineAt 3 RX4 (some .boolean)) (v1 v2 : Int32) (S : St) : RU D (wX a cA) p l e 1 s m args below meth c A 3 (QI D (wX a cA) [(cA, .int)] A) (fX4_hasOneLineAt v1 v2 S) 0 [] [(0, .ref (a 1)), (1, .int v1), (2, .int v2)] S := by
  unfold fX4_hasOneLineAt
  refine R_aload_n C dX4_hasOneLineAt_0 rfl 0 rfl ?_
  refine gtX_X4_linesAt C wd_1_55 dX4_hasOneLineAt_1 ?_
  refine R_iload_n C dX4_hasOneLineAt_4 rfl 2 rfl ?_
  refine R_bipush (v := (40 : Int32)) C dX4_hasOneLineAt_5 (by decide) ?_
  refine R_imul C dX4_hasOneLineAt_7 ?_
  refine R_iload_n C dX4_hasOneLineAt_8 rfl 1 rfl ?_
  refine R_iadd C dX4_hasOneLineAt_9 ?_
  refine ldX7 C dX4_hasOneLineAt_10 ?_
  refine R_iconst (v := (1 : Int32)) C dX4_hasOneLineAt_11 (by decide) ?_
  refine R_icmp_ne (tgt := 19) C dX4_hasOneLineAt_12 (by decide) ?_ ?_
  · refine R_iconst (v := (1 : Int32)) C dX4_hasOneLineAt_15 (by decide) ?_
    refine R_goto (tgt := 20) C dX4_hasOneLineAt_16 (by decide) ?_
    refine R_sub [] rfl ?_
    exact uX4_hasOneLineAt_20 C (1 : Int32) S
  · refine R_iconst (v := (0 : Int32)) C dX4_hasOneLineAt_19 (by decide) ?_
    refine R_sub [] rfl ?_
    exact uX4_hasOneLineAt_20 C (0 : Int32) S
set_option maxHeartbeats 4000000 in
set_option maxRecDepth 100000 in
theorem kX4_hasOneLineAt (l : Launch) (D : va_G) (a : Nat → Nat) (cA : ClassId) (S : St) (v1 v2 : Int32) : CI l D (wX a cA) [(cA, .int)] yX4_hasOneLineAt (.code yX4_hasOneLineAt cX4_hasOneLineAt 3 (some .boolean)) 1 [.ref (a 1), .int v1, .int v2] (fX4_hasOneLineAt v1 v2 S) S := CI_of rfl (Nat.le_of_ble_eq_true rfl) (fun p e s m args below meth c A C => uX4_hasOneLineAt C v1 v2 S)
theorem dX3_keepIfBetter_0 : decode cX3_keepIfBetter 0 = .ok (.iload_n 3, 1) := by decide +kernel
theorem dX3_keepIfBetter_1 : decode cX3_keepIfBetter 1 = .ok (.aload_n 0, 1) := by decide +kernel
theorem dX3_keepIfBetter_2 : decode cX3_keepIfBetter 2 = .ok (.getfield 22, 3) := by decide +kernel
theorem dX3_keepIfBetter_5 : decode cX3_keepIfBetter 5 = .ok (.if_icmp .lt 20, 3) := by decide +kernel
theorem dX3_keepIfBetter_8 : decode cX3_keepIfBetter 8 = .ok (.iload_n 3, 1) := by decide +kernel
theorem dX3_keepIfBetter_9 : decode cX3_keepIfBetter 9 = .ok (.aload_n 0, 1) := by decide +kernel
theorem dX3_keepIfBetter_10 : decode cX3_keepIfBetter 10 = .ok (.getfield 22, 3) := by decide +kernel
theorem dX3_keepIfBetter_13 : decode cX3_keepIfBetter 13 = .ok (.if_icmp .ne 33, 3) := by decide +kernel
theorem dX3_keepIfBetter_16 : decode cX3_keepIfBetter 16 = .ok (.iload 4, 2) := by decide +kernel
theorem dX3_keepIfBetter_18 : decode cX3_keepIfBetter 18 = .ok (.aload_n 0, 1) := by decide +kernel
theorem dX3_keepIfBetter_19 : decode cX3_keepIfBetter 19 = .ok (.getfield 25, 3) := by decide +kernel
theorem dX3_keepIfBetter_22 : decode cX3_keepIfBetter 22 = .ok (.if_icmp .ge 24, 3) := by decide +kernel
theorem dX3_keepIfBetter_25 : decode cX3_keepIfBetter 25 = .ok (.aload_n 0, 1) := by decide +kernel
theorem dX3_keepIfBetter_26 : decode cX3_keepIfBetter 26 = .ok (.iload_n 1, 1) := by decide +kernel
theorem dX3_keepIfBetter_27 : decode cX3_keepIfBetter 27 = .ok (.putfield 15, 3) := by decide +kernel
theorem dX3_keepIfBetter_30 : decode cX3_keepIfBetter 30 = .ok (.aload_n 0, 1) := by decide +kernel
theorem dX3_keepIfBetter_31 : decode cX3_keepIfBetter 31 = .ok (.iload_n 2, 1) := by decide +kernel
theorem dX3_keepIfBetter_32 : decode cX3_keepIfBetter 32 = .ok (.putfield 19, 3) := by decide +kernel
theorem dX3_keepIfBetter_35 : decode cX3_keepIfBetter 35 = .ok (.aload_n 0, 1) := by decide +kernel
theorem dX3_keepIfBetter_36 : decode cX3_keepIfBetter 36 = .ok (.iload_n 3, 1) := by decide +kernel
theorem dX3_keepIfBetter_37 : decode cX3_keepIfBetter 37 = .ok (.putfield 22, 3) := by decide +kernel
theorem dX3_keepIfBetter_40 : decode cX3_keepIfBetter 40 = .ok (.aload_n 0, 1) := by decide +kernel
theorem dX3_keepIfBetter_41 : decode cX3_keepIfBetter 41 = .ok (.iload 4, 2) := by decide +kernel
theorem dX3_keepIfBetter_43 : decode cX3_keepIfBetter 43 = .ok (.putfield 25, 3) := by decide +kernel
theorem dX3_keepIfBetter_46 : decode cX3_keepIfBetter 46 = .ok (.return_, 1) := by decide +kernel
set_option maxHeartbeats 4000000 in
set_option maxRecDepth 100000 in
theorem uX3_keepIfBetter_46 (C : CX D [(cA, .int)] p s m args meth c A cX3_keepIfBetter 5 RX3 none) (S : St) : RU D (wX a cA) p l e 1 s m args below meth c A 5 (QV D (wX a cA) [(cA, .int)] A) (fX3_keepIfBetter_46 S) 46 [] [] S := by
  unfold fX3_keepIfBetter_46
  exact R_retv C dX3_keepIfBetter_46
set_option maxHeartbeats 4000000 in
set_option maxRecDepth 100000 in
theorem uX3_keepIfBetter_25 (C : CX D [(cA, .int)] p s m args meth c A cX3_keepIfBetter 5 RX3 none) (v1 v2 v3 v4 : Int32) (S : St) : RU D (wX a cA) p l e 1 s m args below meth c A 5 (QV D (wX a cA) [(cA, .int)] A) (fX3_keepIfBetter_25 v1 v2 v3 v4 S) 25 [] [(0, .ref (a 3)), (1, .int v1), (2, .int v2), (3, .int v3), (4, .int v4)] S := by
  unfold fX3_keepIfBetter_25
  refine R_aload_n C dX3_keepIfBetter_25 rfl 0 rfl ?_
  refine R_iload_n C dX3_keepIfBetter_26 rfl 1 rfl ?_
  refine ptX_X3_chosenLine C wd_1_126 dX3_keepIfBetter_27 ?_
  refine R_letS (fun S1 => ?_)
  refine R_aload_n C dX3_keepIfBetter_30 rfl 0 rfl ?_
  refine R_iload_n C dX3_keepIfBetter_31 rfl 2 rfl ?_
  refine ptX_X3_chosenHost C wd_1_128 dX3_keepIfBetter_32 ?_
  refine R_letS (fun S2 => ?_)
  refine R_aload_n C dX3_keepIfBetter_35 rfl 0 rfl ?_
  refine R_iload_n C dX3_keepIfBetter_36 rfl 3 rfl ?_
  refine ptX_X3_copiesChange C wd_1_130 dX3_keepIfBetter_37 ?_
  refine R_letS (fun S3 => ?_)
  refine R_aload_n C dX3_keepIfBetter_40 rfl 0 rfl ?_
  refine R_iload C dX3_keepIfBetter_41 4 rfl ?_
  refine ptX_X3_squaresChange C wd_1_131 dX3_keepIfBetter_43 ?_
  refine R_letS (fun S4 => ?_)
  refine R_sub [] rfl ?_
  exact uX3_keepIfBetter_46 C S4
set_option maxHeartbeats 4000000 in
set_option maxRecDepth 100000 in
theorem uX3_keepIfBetter (C : CX D [(cA, .int)] p s m args meth c A cX3_keepIfBetter 5 RX3 none) (v1 v2 v3 v4 : Int32) (S : St) : RU D (wX a cA) p l e 1 s m args below meth c A 5 (QV D (wX a cA) [(cA, .int)] A) (fX3_keepIfBetter v1 v2 v3 v4 S) 0 [] [(0, .ref (a 3)), (1, .int v1), (2, .int v2), (3, .int v3), (4, .int v4)] S := by
  unfold fX3_keepIfBetter
  refine R_iload_n C dX3_keepIfBetter_0 rfl 3 rfl ?_
  refine R_aload_n C dX3_keepIfBetter_1 rfl 0 rfl ?_
  refine gtX_X3_copiesChange C wd_1_130 dX3_keepIfBetter_2 ?_
  refine R_icmp_lt (tgt := 25) C dX3_keepIfBetter_5 (by decide) ?_ ?_
  · exact uX3_keepIfBetter_25 C v1 v2 v3 v4 S
  · refine R_iload_n C dX3_keepIfBetter_8 rfl 3 rfl ?_
    refine R_aload_n C dX3_keepIfBetter_9 rfl 0 rfl ?_
    refine gtX_X3_copiesChange C wd_1_130 dX3_keepIfBetter_10 ?_
    refine R_icmp_ne (tgt := 46) C dX3_keepIfBetter_13 (by decide) ?_ ?_
    · refine R_iload C dX3_keepIfBetter_16 4 rfl ?_
      refine R_aload_n C dX3_keepIfBetter_18 rfl 0 rfl ?_
      refine gtX_X3_squaresChange C wd_1_131 dX3_keepIfBetter_19 ?_
      refine R_icmp_ge (tgt := 46) C dX3_keepIfBetter_22 (by decide) ?_ ?_
      · refine R_sub [] rfl ?_
        exact uX3_keepIfBetter_46 C S
      · exact uX3_keepIfBetter_25 C v1 v2 v3 v4 S
    · refine R_sub [] rfl ?_
      exact uX3_keepIfBetter_46 C S
set_option maxHeartbeats 4000000 in
set_option maxRecDepth 100000 in
theorem kX3_keepIfBetter (l : Launch) (D : va_G) (a : Nat → Nat) (cA : ClassId) (S : St) (v1 v2 v3 v4 : Int32) : CV l D (wX a cA) [(cA, .int)] yX3_keepIfBetter (.code yX3_keepIfBetter cX3_keepIfBetter 5 none) 1 [.ref (a 3), .int v1, .int v2, .int v3, .int v4] (fX3_keepIfBetter v1 v2 v3 v4 S) S := CV_of rfl (Nat.le_of_ble_eq_true rfl) (fun p e s m args below meth c A C => uX3_keepIfBetter C v1 v2 v3 v4 S)
theorem dX3_weighMovesOf_0 : decode cX3_weighMovesOf 0 = .ok (.aload_n 0, 1) := by decide +kernel
theorem dX3_weighMovesOf_1 : decode cX3_weighMovesOf 1 = .ok (.getfield 9, 3) := by decide +kernel
theorem dX3_weighMovesOf_4 : decode cX3_weighMovesOf 4 = .ok (.getfield 41, 3) := by decide +kernel
theorem dX3_weighMovesOf_7 : decode cX3_weighMovesOf 7 = .ok (.iload_n 1, 1) := by decide +kernel
theorem dX3_weighMovesOf_8 : decode cX3_weighMovesOf 8 = .ok (.iaload, 1) := by decide +kernel
theorem dX3_weighMovesOf_9 : decode cX3_weighMovesOf 9 = .ok (.istore_n 3, 1) := by decide +kernel
theorem dX3_weighMovesOf_10 : decode cX3_weighMovesOf 10 = .ok (.aload_n 0, 1) := by decide +kernel
theorem dX3_weighMovesOf_11 : decode cX3_weighMovesOf 11 = .ok (.getfield 9, 3) := by decide +kernel
theorem dX3_weighMovesOf_14 : decode cX3_weighMovesOf 14 = .ok (.getfield 45, 3) := by decide +kernel
theorem dX3_weighMovesOf_17 : decode cX3_weighMovesOf 17 = .ok (.iload_n 1, 1) := by decide +kernel
theorem dX3_weighMovesOf_18 : decode cX3_weighMovesOf 18 = .ok (.iaload, 1) := by decide +kernel
theorem dX3_weighMovesOf_19 : decode cX3_weighMovesOf 19 = .ok (.istore 4, 2) := by decide +kernel
theorem dX3_weighMovesOf_21 : decode cX3_weighMovesOf 21 = .ok (.aload_n 0, 1) := by decide +kernel
theorem dX3_weighMovesOf_22 : decode cX3_weighMovesOf 22 = .ok (.getfield 9, 3) := by decide +kernel
theorem dX3_weighMovesOf_25 : decode cX3_weighMovesOf 25 = .ok (.getfield 48, 3) := by decide +kernel
theorem dX3_weighMovesOf_28 : decode cX3_weighMovesOf 28 = .ok (.iload_n 1, 1) := by decide +kernel
theorem dX3_weighMovesOf_29 : decode cX3_weighMovesOf 29 = .ok (.iaload, 1) := by decide +kernel
theorem dX3_weighMovesOf_30 : decode cX3_weighMovesOf 30 = .ok (.istore 5, 2) := by decide +kernel
theorem dX3_weighMovesOf_32 : decode cX3_weighMovesOf 32 = .ok (.aload_n 0, 1) := by decide +kernel
theorem dX3_weighMovesOf_33 : decode cX3_weighMovesOf 33 = .ok (.getfield 9, 3) := by decide +kernel
theorem dX3_weighMovesOf_36 : decode cX3_weighMovesOf 36 = .ok (.iload 4, 2) := by decide +kernel
theorem dX3_weighMovesOf_38 : decode cX3_weighMovesOf 38 = .ok (.iload_n 3, 1) := by decide +kernel
theorem dX3_weighMovesOf_39 : decode cX3_weighMovesOf 39 = .ok (.invokevirtual 51, 3) := by decide +kernel
theorem dX3_weighMovesOf_42 : decode cX3_weighMovesOf 42 = .ok (.ifCond .eq 7, 3) := by decide +kernel
theorem dX3_weighMovesOf_45 : decode cX3_weighMovesOf 45 = .ok (.iconst 1, 1) := by decide +kernel
theorem dX3_weighMovesOf_46 : decode cX3_weighMovesOf 46 = .ok (.goto 4, 3) := by decide +kernel
theorem dX3_weighMovesOf_49 : decode cX3_weighMovesOf 49 = .ok (.iconst 0, 1) := by decide +kernel
theorem dX3_weighMovesOf_50 : decode cX3_weighMovesOf 50 = .ok (.aload_n 0, 1) := by decide +kernel
theorem dX3_weighMovesOf_51 : decode cX3_weighMovesOf 51 = .ok (.getfield 9, 3) := by decide +kernel
theorem dX3_weighMovesOf_54 : decode cX3_weighMovesOf 54 = .ok (.iload 5, 2) := by decide +kernel
theorem dX3_weighMovesOf_56 : decode cX3_weighMovesOf 56 = .ok (.iload_n 3, 1) := by decide +kernel
theorem dX3_weighMovesOf_57 : decode cX3_weighMovesOf 57 = .ok (.invokevirtual 51, 3) := by decide +kernel
theorem dX3_weighMovesOf_60 : decode cX3_weighMovesOf 60 = .ok (.ifCond .eq 7, 3) := by decide +kernel
theorem dX3_weighMovesOf_63 : decode cX3_weighMovesOf 63 = .ok (.iconst 1, 1) := by decide +kernel
theorem dX3_weighMovesOf_64 : decode cX3_weighMovesOf 64 = .ok (.goto 4, 3) := by decide +kernel
theorem dX3_weighMovesOf_67 : decode cX3_weighMovesOf 67 = .ok (.iconst 0, 1) := by decide +kernel
theorem dX3_weighMovesOf_68 : decode cX3_weighMovesOf 68 = .ok (.iadd, 1) := by decide +kernel
theorem dX3_weighMovesOf_69 : decode cX3_weighMovesOf 69 = .ok (.istore 6, 2) := by decide +kernel
theorem dX3_weighMovesOf_71 : decode cX3_weighMovesOf 71 = .ok (.iload 6, 2) := by decide +kernel
theorem dX3_weighMovesOf_73 : decode cX3_weighMovesOf 73 = .ok (.ineg, 1) := by decide +kernel
theorem dX3_weighMovesOf_74 : decode cX3_weighMovesOf 74 = .ok (.aload_n 0, 1) := by decide +kernel
theorem dX3_weighMovesOf_75 : decode cX3_weighMovesOf 75 = .ok (.getfield 22, 3) := by decide +kernel
theorem dX3_weighMovesOf_78 : decode cX3_weighMovesOf 78 = .ok (.if_icmp .le 4, 3) := by decide +kernel
theorem dX3_weighMovesOf_81 : decode cX3_weighMovesOf 81 = .ok (.return_, 1) := by decide +kernel
theorem dX3_weighMovesOf_82 : decode cX3_weighMovesOf 82 = .ok (.iconst 0, 1) := by decide +kernel
theorem dX3_weighMovesOf_83 : decode cX3_weighMovesOf 83 = .ok (.istore 7, 2) := by decide +kernel
theorem dX3_weighMovesOf_85 : decode cX3_weighMovesOf 85 = .ok (.iload 7, 2) := by decide +kernel
theorem dX3_weighMovesOf_87 : decode cX3_weighMovesOf 87 = .ok (.aload_n 0, 1) := by decide +kernel
theorem dX3_weighMovesOf_88 : decode cX3_weighMovesOf 88 = .ok (.getfield 9, 3) := by decide +kernel
theorem dX3_weighMovesOf_91 : decode cX3_weighMovesOf 91 = .ok (.getfield 55, 3) := by decide +kernel
theorem dX3_weighMovesOf_94 : decode cX3_weighMovesOf 94 = .ok (.if_icmp .ge 113, 3) := by decide +kernel
theorem dX3_weighMovesOf_97 : decode cX3_weighMovesOf 97 = .ok (.iload 7, 2) := by decide +kernel
theorem dX3_weighMovesOf_99 : decode cX3_weighMovesOf 99 = .ok (.iload_n 3, 1) := by decide +kernel
theorem dX3_weighMovesOf_100 : decode cX3_weighMovesOf 100 = .ok (.if_icmp .eq 101, 3) := by decide +kernel
theorem dX3_weighMovesOf_103 : decode cX3_weighMovesOf 103 = .ok (.aload_n 0, 1) := by decide +kernel
theorem dX3_weighMovesOf_104 : decode cX3_weighMovesOf 104 = .ok (.getfield 9, 3) := by decide +kernel
theorem dX3_weighMovesOf_107 : decode cX3_weighMovesOf 107 = .ok (.getfield 58, 3) := by decide +kernel
theorem dX3_weighMovesOf_110 : decode cX3_weighMovesOf 110 = .ok (.iload 7, 2) := by decide +kernel
theorem dX3_weighMovesOf_112 : decode cX3_weighMovesOf 112 = .ok (.iaload, 1) := by decide +kernel
theorem dX3_weighMovesOf_113 : decode cX3_weighMovesOf 113 = .ok (.iload_n 2, 1) := by decide +kernel
theorem dX3_weighMovesOf_114 : decode cX3_weighMovesOf 114 = .ok (.if_icmp .lt 6, 3) := by decide +kernel
theorem dX3_weighMovesOf_117 : decode cX3_weighMovesOf 117 = .ok (.goto 84, 3) := by decide +kernel
theorem dX3_weighMovesOf_120 : decode cX3_weighMovesOf 120 = .ok (.aload_n 0, 1) := by decide +kernel
theorem dX3_weighMovesOf_121 : decode cX3_weighMovesOf 121 = .ok (.getfield 9, 3) := by decide +kernel
theorem dX3_weighMovesOf_124 : decode cX3_weighMovesOf 124 = .ok (.iload 4, 2) := by decide +kernel
theorem dX3_weighMovesOf_126 : decode cX3_weighMovesOf 126 = .ok (.iload 7, 2) := by decide +kernel
theorem dX3_weighMovesOf_128 : decode cX3_weighMovesOf 128 = .ok (.invokevirtual 61, 3) := by decide +kernel
theorem dX3_weighMovesOf_131 : decode cX3_weighMovesOf 131 = .ok (.ifCond .eq 7, 3) := by decide +kernel
theorem dX3_weighMovesOf_134 : decode cX3_weighMovesOf 134 = .ok (.iconst 0, 1) := by decide +kernel
theorem dX3_weighMovesOf_135 : decode cX3_weighMovesOf 135 = .ok (.goto 4, 3) := by decide +kernel
theorem dX3_weighMovesOf_138 : decode cX3_weighMovesOf 138 = .ok (.iconst 1, 1) := by decide +kernel
theorem dX3_weighMovesOf_139 : decode cX3_weighMovesOf 139 = .ok (.aload_n 0, 1) := by decide +kernel
theorem dX3_weighMovesOf_140 : decode cX3_weighMovesOf 140 = .ok (.getfield 9, 3) := by decide +kernel
theorem dX3_weighMovesOf_143 : decode cX3_weighMovesOf 143 = .ok (.iload 5, 2) := by decide +kernel
theorem dX3_weighMovesOf_145 : decode cX3_weighMovesOf 145 = .ok (.iload 7, 2) := by decide +kernel
theorem dX3_weighMovesOf_147 : decode cX3_weighMovesOf 147 = .ok (.invokevirtual 61, 3) := by decide +kernel
theorem dX3_weighMovesOf_150 : decode cX3_weighMovesOf 150 = .ok (.ifCond .eq 7, 3) := by decide +kernel
theorem dX3_weighMovesOf_153 : decode cX3_weighMovesOf 153 = .ok (.iconst 0, 1) := by decide +kernel
theorem dX3_weighMovesOf_154 : decode cX3_weighMovesOf 154 = .ok (.goto 4, 3) := by decide +kernel
theorem dX3_weighMovesOf_157 : decode cX3_weighMovesOf 157 = .ok (.iconst 1, 1) := by decide +kernel
theorem dX3_weighMovesOf_158 : decode cX3_weighMovesOf 158 = .ok (.iadd, 1) := by decide +kernel
theorem dX3_weighMovesOf_159 : decode cX3_weighMovesOf 159 = .ok (.istore 8, 2) := by decide +kernel
theorem dX3_weighMovesOf_161 : decode cX3_weighMovesOf 161 = .ok (.iconst 2, 1) := by decide +kernel
theorem dX3_weighMovesOf_162 : decode cX3_weighMovesOf 162 = .ok (.aload_n 0, 1) := by decide +kernel
theorem dX3_weighMovesOf_163 : decode cX3_weighMovesOf 163 = .ok (.getfield 9, 3) := by decide +kernel
theorem dX3_weighMovesOf_166 : decode cX3_weighMovesOf 166 = .ok (.getfield 58, 3) := by decide +kernel
theorem dX3_weighMovesOf_169 : decode cX3_weighMovesOf 169 = .ok (.iload 7, 2) := by decide +kernel
theorem dX3_weighMovesOf_171 : decode cX3_weighMovesOf 171 = .ok (.iaload, 1) := by decide +kernel
theorem dX3_weighMovesOf_172 : decode cX3_weighMovesOf 172 = .ok (.aload_n 0, 1) := by decide +kernel
theorem dX3_weighMovesOf_173 : decode cX3_weighMovesOf 173 = .ok (.getfield 9, 3) := by decide +kernel
theorem dX3_weighMovesOf_176 : decode cX3_weighMovesOf 176 = .ok (.getfield 58, 3) := by decide +kernel
theorem dX3_weighMovesOf_179 : decode cX3_weighMovesOf 179 = .ok (.iload_n 3, 1) := by decide +kernel
theorem dX3_weighMovesOf_180 : decode cX3_weighMovesOf 180 = .ok (.iaload, 1) := by decide +kernel
theorem dX3_weighMovesOf_181 : decode cX3_weighMovesOf 181 = .ok (.isub, 1) := by decide +kernel
theorem dX3_weighMovesOf_182 : decode cX3_weighMovesOf 182 = .ok (.iconst 1, 1) := by decide +kernel
theorem dX3_weighMovesOf_183 : decode cX3_weighMovesOf 183 = .ok (.iadd, 1) := by decide +kernel
theorem dX3_weighMovesOf_184 : decode cX3_weighMovesOf 184 = .ok (.imul, 1) := by decide +kernel
theorem dX3_weighMovesOf_185 : decode cX3_weighMovesOf 185 = .ok (.istore 9, 2) := by decide +kernel
theorem dX3_weighMovesOf_187 : decode cX3_weighMovesOf 187 = .ok (.aload_n 0, 1) := by decide +kernel
theorem dX3_weighMovesOf_188 : decode cX3_weighMovesOf 188 = .ok (.iload_n 1, 1) := by decide +kernel
theorem dX3_weighMovesOf_189 : decode cX3_weighMovesOf 189 = .ok (.iload 7, 2) := by decide +kernel
theorem dX3_weighMovesOf_191 : decode cX3_weighMovesOf 191 = .ok (.iload 8, 2) := by decide +kernel
theorem dX3_weighMovesOf_193 : decode cX3_weighMovesOf 193 = .ok (.iload 6, 2) := by decide +kernel
theorem dX3_weighMovesOf_195 : decode cX3_weighMovesOf 195 = .ok (.isub, 1) := by decide +kernel
theorem dX3_weighMovesOf_196 : decode cX3_weighMovesOf 196 = .ok (.iload 9, 2) := by decide +kernel
theorem dX3_weighMovesOf_198 : decode cX3_weighMovesOf 198 = .ok (.invokevirtual 64, 3) := by decide +kernel
theorem dX3_weighMovesOf_201 : decode cX3_weighMovesOf 201 = .ok (.iinc 7 1, 3) := by decide +kernel
theorem dX3_weighMovesOf_204 : decode cX3_weighMovesOf 204 = .ok (.goto (-119), 3) := by decide +kernel
theorem dX3_weighMovesOf_207 : decode cX3_weighMovesOf 207 = .ok (.return_, 1) := by decide +kernel
set_option maxHeartbeats 4000000 in
set_option maxRecDepth 100000 in
theorem uX3_weighMovesOf_201 (C : CX D [(cA, .int)] p s m args meth c A cX3_weighMovesOf 10 RX3 none) (k85 : Int32 → Int32 → Int32 → Int32 → Int32 → Int32 → Int32 → St → Rs) (h85 : ∀ (v1 v2 v3 v4 v5 v6 v7 : Int32) (S : St), RU D (wX a cA) p l e 2 s m args below meth c A 10 (QV D (wX a cA) [(cA, .int)] A) (k85 v1 v2 v3 v4 v5 v6 v7 S) 85 [] [(0, .ref (a 3)), (1, .int v1), (2, .int v2), (3, .int v3), (4, .int v4), (5, .int v5), (6, .int v6), (7, .int v7)] S) (v1 v2 v3 v4 v5 v6 v7 : Int32) (S : St) : RU D (wX a cA) p l e 2 s m args below meth c A 10 (QV D (wX a cA) [(cA, .int)] A) (fX3_weighMovesOf_201 k85 v1 v2 v3 v4 v5 v6 v7 S) 201 [] [(0, .ref (a 3)), (1, .int v1), (2, .int v2), (3, .int v3), (4, .int v4), (5, .int v5), (6, .int v6), (7, .int v7)] S := by
  unfold fX3_weighMovesOf_201
  refine R_iinc (v := v7 + 1) (lv' := [(7, .int (v7 + 1)), (0, .ref (a 3)), (1, .int v1), (2, .int v2), (3, .int v3), (4, .int v4), (5, .int v5), (6, .int v6)]) C dX3_weighMovesOf_201 7 rfl rfl (by decide) rfl ?_
  refine R_goto (tgt := 85) C dX3_weighMovesOf_204 (by decide) ?_
  refine R_sub [1, 2, 3, 4, 5, 6, 7, 0] rfl ?_
  exact h85 v1 v2 v3 v4 v5 v6 (v7 + 1) S
set_option maxHeartbeats 4000000 in
set_option maxRecDepth 100000 in
theorem uX3_weighMovesOf_158 (C : CX D [(cA, .int)] p s m args meth c A cX3_weighMovesOf 10 RX3 none) (k85 : Int32 → Int32 → Int32 → Int32 → Int32 → Int32 → Int32 → St → Rs) (h85 : ∀ (v1 v2 v3 v4 v5 v6 v7 : Int32) (S : St), RU D (wX a cA) p l e 2 s m args below meth c A 10 (QV D (wX a cA) [(cA, .int)] A) (k85 v1 v2 v3 v4 v5 v6 v7 S) 85 [] [(0, .ref (a 3)), (1, .int v1), (2, .int v2), (3, .int v3), (4, .int v4), (5, .int v5), (6, .int v6), (7, .int v7)] S) (v1 v2 v3 v4 v5 v6 v7 t0 t1 : Int32) (S : St) : RU D (wX a cA) p l e 2 s m args below meth c A 10 (QV D (wX a cA) [(cA, .int)] A) (fX3_weighMovesOf_158 k85 v1 v2 v3 v4 v5 v6 v7 t0 t1 S) 158 [.int t0, .int t1] [(0, .ref (a 3)), (1, .int v1), (2, .int v2), (3, .int v3), (4, .int v4), (5, .int v5), (6, .int v6), (7, .int v7)] S := by
  unfold fX3_weighMovesOf_158
  refine R_iadd C dX3_weighMovesOf_158 ?_
  refine R_let (fun x1 => ?_)
  refine R_istore (lv' := [(8, .int x1), (0, .ref (a 3)), (1, .int v1), (2, .int v2), (3, .int v3), (4, .int v4), (5, .int v5), (6, .int v6), (7, .int v7)]) C dX3_weighMovesOf_159 (by decide) rfl ?_
  refine R_iconst (v := (2 : Int32)) C dX3_weighMovesOf_161 (by decide) ?_
  refine R_aload_n C dX3_weighMovesOf_162 rfl 1 rfl ?_
  refine gtX_X3_net C wd_1_125 dX3_weighMovesOf_163 ?_
  refine gtX_X4_loads C wd_1_46 dX3_weighMovesOf_166 ?_
  refine R_iload C dX3_weighMovesOf_169 8 rfl ?_
  refine ldX4 C dX3_weighMovesOf_171 ?_
  refine R_aload_n C dX3_weighMovesOf_172 rfl 1 rfl ?_
  refine gtX_X3_net C wd_1_125 dX3_weighMovesOf_173 ?_
  refine gtX_X4_loads C wd_1_46 dX3_weighMovesOf_176 ?_
  refine R_iload_n C dX3_weighMovesOf_179 rfl 4 rfl ?_
  refine ldX4 C dX3_weighMovesOf_180 ?_
  refine R_isub C dX3_weighMovesOf_181 ?_
  refine R_iconst (v := (1 : Int32)) C dX3_weighMovesOf_182 (by decide) ?_
  refine R_iadd C dX3_weighMovesOf_183 ?_
  refine R_imul C dX3_weighMovesOf_184 ?_
  refine R_let (fun x2 => ?_)
  refine R_istore (lv' := [(9, .int x2), (8, .int x1), (0, .ref (a 3)), (1, .int v1), (2, .int v2), (3, .int v3), (4, .int v4), (5, .int v5), (6, .int v6), (7, .int v7)]) C dX3_weighMovesOf_185 (by decide) rfl ?_
  refine R_aload_n C dX3_weighMovesOf_187 rfl 2 rfl ?_
  refine R_iload_n C dX3_weighMovesOf_188 rfl 3 rfl ?_
  refine R_iload C dX3_weighMovesOf_189 9 rfl ?_
  refine R_iload C dX3_weighMovesOf_191 1 rfl ?_
  refine R_iload C dX3_weighMovesOf_193 8 rfl ?_
  refine R_isub C dX3_weighMovesOf_195 ?_
  refine R_iload C dX3_weighMovesOf_196 0 rfl ?_
  refine R_callv (As := [.int v1, .int v7, .int (x1 - v6), .int x2]) (st := []) C (kX3_keepIfBetter l D a cA S v1 v7 (x1 - v6) x2) (by decide) (by decide) wd_2_103 kwX3_keepIfBetter 3 rfl rfl rfl rfl (Nat.le_of_ble_eq_true rfl) dX3_weighMovesOf_198 (fun r3 S4 => ?_)
  refine R_sub [2, 3, 4, 5, 6, 7, 8, 9] rfl ?_
  exact uX3_weighMovesOf_201 C k85 h85 v1 v2 v3 v4 v5 v6 v7 S4
set_option maxHeartbeats 4000000 in
set_option maxRecDepth 100000 in
theorem uX3_weighMovesOf_139 (C : CX D [(cA, .int)] p s m args meth c A cX3_weighMovesOf 10 RX3 none) (k85 : Int32 → Int32 → Int32 → Int32 → Int32 → Int32 → Int32 → St → Rs) (h85 : ∀ (v1 v2 v3 v4 v5 v6 v7 : Int32) (S : St), RU D (wX a cA) p l e 2 s m args below meth c A 10 (QV D (wX a cA) [(cA, .int)] A) (k85 v1 v2 v3 v4 v5 v6 v7 S) 85 [] [(0, .ref (a 3)), (1, .int v1), (2, .int v2), (3, .int v3), (4, .int v4), (5, .int v5), (6, .int v6), (7, .int v7)] S) (v1 v2 v3 v4 v5 v6 v7 t0 : Int32) (S : St) : RU D (wX a cA) p l e 2 s m args below meth c A 10 (QV D (wX a cA) [(cA, .int)] A) (fX3_weighMovesOf_139 k85 v1 v2 v3 v4 v5 v6 v7 t0 S) 139 [.int t0] [(0, .ref (a 3)), (1, .int v1), (2, .int v2), (3, .int v3), (4, .int v4), (5, .int v5), (6, .int v6), (7, .int v7)] S := by
  unfold fX3_weighMovesOf_139
  refine R_aload_n C dX3_weighMovesOf_139 rfl 0 rfl ?_
  refine gtX_X3_net C wd_1_125 dX3_weighMovesOf_140 ?_
  refine R_iload C dX3_weighMovesOf_143 5 rfl ?_
  refine R_iload C dX3_weighMovesOf_145 7 rfl ?_
  refine R_calli (As := [.int v5, .int v7]) (st := [.int t0]) C (kX4_hasCopy l D a cA S v5 v7) (by decide) (by decide) wd_2_102 kwX4_hasCopy 1 rfl rfl rfl rfl (Nat.le_of_ble_eq_true rfl) dX3_weighMovesOf_147 (fun r1 S2 => ?_)
  refine R_if_eq (tgt := 157) C dX3_weighMovesOf_150 (by decide) ?_ ?_
  · refine R_iconst (v := (1 : Int32)) C dX3_weighMovesOf_157 (by decide) ?_
    exact uX3_weighMovesOf_158 C k85 h85 v1 v2 v3 v4 v5 v6 v7 (1 : Int32) t0 S2
  · refine R_iconst (v := (0 : Int32)) C dX3_weighMovesOf_153 (by decide) ?_
    refine R_goto (tgt := 158) C dX3_weighMovesOf_154 (by decide) ?_
    exact uX3_weighMovesOf_158 C k85 h85 v1 v2 v3 v4 v5 v6 v7 (0 : Int32) t0 S2
set_option maxHeartbeats 4000000 in
set_option maxRecDepth 100000 in
theorem uX3_weighMovesOf_85_b (C : CX D [(cA, .int)] p s m args meth c A cX3_weighMovesOf 10 RX3 none) (k85 : Int32 → Int32 → Int32 → Int32 → Int32 → Int32 → Int32 → St → Rs) (h85 : ∀ (v1 v2 v3 v4 v5 v6 v7 : Int32) (S : St), RU D (wX a cA) p l e 2 s m args below meth c A 10 (QV D (wX a cA) [(cA, .int)] A) (k85 v1 v2 v3 v4 v5 v6 v7 S) 85 [] [(0, .ref (a 3)), (1, .int v1), (2, .int v2), (3, .int v3), (4, .int v4), (5, .int v5), (6, .int v6), (7, .int v7)] S) (v1 v2 v3 v4 v5 v6 v7 : Int32) (S : St) : RU D (wX a cA) p l e 2 s m args below meth c A 10 (QV D (wX a cA) [(cA, .int)] A) (fX3_weighMovesOf_85_b k85 v1 v2 v3 v4 v5 v6 v7 S) 85 [] [(0, .ref (a 3)), (1, .int v1), (2, .int v2), (3, .int v3), (4, .int v4), (5, .int v5), (6, .int v6), (7, .int v7)] S := by
  unfold fX3_weighMovesOf_85_b
  refine R_iload C dX3_weighMovesOf_85 7 rfl ?_
  refine R_aload_n C dX3_weighMovesOf_87 rfl 0 rfl ?_
  refine gtX_X3_net C wd_1_125 dX3_weighMovesOf_88 ?_
  refine gtX_X4_hosts C wd_1_59 dX3_weighMovesOf_91 ?_
  refine R_icmp_ge (tgt := 207) C dX3_weighMovesOf_94 (by decide) ?_ ?_
  · exact R_retv C dX3_weighMovesOf_207
  · refine R_iload C dX3_weighMovesOf_97 7 rfl ?_
    refine R_iload_n C dX3_weighMovesOf_99 rfl 3 rfl ?_
    refine R_icmp_eq (tgt := 201) C dX3_weighMovesOf_100 (by decide) ?_ ?_
    · exact uX3_weighMovesOf_201 C k85 h85 v1 v2 v3 v4 v5 v6 v7 S
    · refine R_aload_n C dX3_weighMovesOf_103 rfl 0 rfl ?_
      refine gtX_X3_net C wd_1_125 dX3_weighMovesOf_104 ?_
      refine gtX_X4_loads C wd_1_46 dX3_weighMovesOf_107 ?_
      refine R_iload C dX3_weighMovesOf_110 7 rfl ?_
      refine ldX4 C dX3_weighMovesOf_112 ?_
      refine R_iload_n C dX3_weighMovesOf_113 rfl 2 rfl ?_
      refine R_icmp_lt (tgt := 120) C dX3_weighMovesOf_114 (by decide) ?_ ?_
      · refine R_aload_n C dX3_weighMovesOf_120 rfl 0 rfl ?_
        refine gtX_X3_net C wd_1_125 dX3_weighMovesOf_121 ?_
        refine R_iload C dX3_weighMovesOf_124 4 rfl ?_
        refine R_iload C dX3_weighMovesOf_126 7 rfl ?_
        refine R_calli (As := [.int v4, .int v7]) (st := []) C (kX4_hasCopy l D a cA S v4 v7) (by decide) (by decide) wd_2_102 kwX4_hasCopy 1 rfl rfl rfl rfl (Nat.le_of_ble_eq_true rfl) dX3_weighMovesOf_128 (fun r1 S2 => ?_)
        refine R_if_eq (tgt := 138) C dX3_weighMovesOf_131 (by decide) ?_ ?_
        · refine R_iconst (v := (1 : Int32)) C dX3_weighMovesOf_138 (by decide) ?_
          exact uX3_weighMovesOf_139 C k85 h85 v1 v2 v3 v4 v5 v6 v7 (1 : Int32) S2
        · refine R_iconst (v := (0 : Int32)) C dX3_weighMovesOf_134 (by decide) ?_
          refine R_goto (tgt := 139) C dX3_weighMovesOf_135 (by decide) ?_
          exact uX3_weighMovesOf_139 C k85 h85 v1 v2 v3 v4 v5 v6 v7 (0 : Int32) S2
      · refine R_goto (tgt := 201) C dX3_weighMovesOf_117 (by decide) ?_
        exact uX3_weighMovesOf_201 C k85 h85 v1 v2 v3 v4 v5 v6 v7 S
set_option maxHeartbeats 4000000 in
set_option maxRecDepth 100000 in
theorem uX3_weighMovesOf_85 (C : CX D [(cA, .int)] p s m args meth c A cX3_weighMovesOf 10 RX3 none) : ∀ (n : Nat) (v1 v2 v3 v4 v5 v6 v7 : Int32) (S : St), RU D (wX a cA) p l e 2 s m args below meth c A 10 (QV D (wX a cA) [(cA, .int)] A) (fX3_weighMovesOf_85 n v1 v2 v3 v4 v5 v6 v7 S) 85 [] [(0, .ref (a 3)), (1, .int v1), (2, .int v2), (3, .int v3), (4, .int v4), (5, .int v5), (6, .int v6), (7, .int v7)] S := by
  intro n
  induction n with
  | zero => intro v1 v2 v3 v4 v5 v6 v7 S; exact R_none
  | succ n ih => intro v1 v2 v3 v4 v5 v6 v7 S; exact uX3_weighMovesOf_85_b C _ ih v1 v2 v3 v4 v5 v6 v7 S
set_option maxHeartbeats 4000000 in
set_option maxRecDepth 100000 in
theorem uX3_weighMovesOf_68 (C : CX D [(cA, .int)] p s m args meth c A cX3_weighMovesOf 10 RX3 none) (v1 v2 v3 v4 v5 t0 t1 : Int32) (S : St) : RU D (wX a cA) p l e 2 s m args below meth c A 10 (QV D (wX a cA) [(cA, .int)] A) (fX3_weighMovesOf_68 v1 v2 v3 v4 v5 t0 t1 S) 68 [.int t0, .int t1] [(0, .ref (a 3)), (1, .int v1), (2, .int v2), (3, .int v3), (4, .int v4), (5, .int v5)] S := by
  unfold fX3_weighMovesOf_68
  refine R_iadd C dX3_weighMovesOf_68 ?_
  refine R_let (fun x1 => ?_)
  refine R_istore (lv' := [(6, .int x1), (0, .ref (a 3)), (1, .int v1), (2, .int v2), (3, .int v3), (4, .int v4), (5, .int v5)]) C dX3_weighMovesOf_69 (by decide) rfl ?_
  refine R_iload C dX3_weighMovesOf_71 0 rfl ?_
  refine R_ineg C dX3_weighMovesOf_73 ?_
  refine R_aload_n C dX3_weighMovesOf_74 rfl 1 rfl ?_
  refine gtX_X3_copiesChange C wd_1_130 dX3_weighMovesOf_75 ?_
  refine R_icmp_le (tgt := 82) C dX3_weighMovesOf_78 (by decide) ?_ ?_
  · refine R_iconst (v := (0 : Int32)) C dX3_weighMovesOf_82 (by decide) ?_
    refine R_istore (lv' := [(7, .int (0 : Int32)), (6, .int x1), (0, .ref (a 3)), (1, .int v1), (2, .int v2), (3, .int v3), (4, .int v4), (5, .int v5)]) C dX3_weighMovesOf_83 (by decide) rfl ?_
    refine R_sub [2, 3, 4, 5, 6, 7, 1, 0] rfl ?_
    exact uX3_weighMovesOf_85 C FU v1 v2 v3 v4 v5 x1 (0 : Int32) S
  · exact R_retv C dX3_weighMovesOf_81
set_option maxHeartbeats 4000000 in
set_option maxRecDepth 100000 in
theorem uX3_weighMovesOf_50 (C : CX D [(cA, .int)] p s m args meth c A cX3_weighMovesOf 10 RX3 none) (v1 v2 v3 v4 v5 t0 : Int32) (S : St) : RU D (wX a cA) p l e 2 s m args below meth c A 10 (QV D (wX a cA) [(cA, .int)] A) (fX3_weighMovesOf_50 v1 v2 v3 v4 v5 t0 S) 50 [.int t0] [(0, .ref (a 3)), (1, .int v1), (2, .int v2), (3, .int v3), (4, .int v4), (5, .int v5)] S := by
  unfold fX3_weighMovesOf_50
  refine R_aload_n C dX3_weighMovesOf_50 rfl 0 rfl ?_
  refine gtX_X3_net C wd_1_125 dX3_weighMovesOf_51 ?_
  refine R_iload C dX3_weighMovesOf_54 5 rfl ?_
  refine R_iload_n C dX3_weighMovesOf_56 rfl 3 rfl ?_
  refine R_calli (As := [.int v5, .int v3]) (st := [.int t0]) C (kX4_hasOneLineAt l D a cA S v5 v3) (by decide) (by decide) wd_2_98 kwX4_hasOneLineAt 1 rfl rfl rfl rfl (Nat.le_of_ble_eq_true rfl) dX3_weighMovesOf_57 (fun r1 S2 => ?_)
  refine R_if_eq (tgt := 67) C dX3_weighMovesOf_60 (by decide) ?_ ?_
  · refine R_iconst (v := (0 : Int32)) C dX3_weighMovesOf_67 (by decide) ?_
    exact uX3_weighMovesOf_68 C v1 v2 v3 v4 v5 (0 : Int32) t0 S2
  · refine R_iconst (v := (1 : Int32)) C dX3_weighMovesOf_63 (by decide) ?_
    refine R_goto (tgt := 68) C dX3_weighMovesOf_64 (by decide) ?_
    exact uX3_weighMovesOf_68 C v1 v2 v3 v4 v5 (1 : Int32) t0 S2
set_option maxHeartbeats 4000000 in
set_option maxRecDepth 100000 in
theorem uX3_weighMovesOf (C : CX D [(cA, .int)] p s m args meth c A cX3_weighMovesOf 10 RX3 none) (v1 v2 : Int32) (S : St) : RU D (wX a cA) p l e 2 s m args below meth c A 10 (QV D (wX a cA) [(cA, .int)] A) (fX3_weighMovesOf v1 v2 S) 0 [] [(0, .ref (a 3)), (1, .int v1), (2, .int v2)] S := by
  unfold fX3_weighMovesOf
  refine R_aload_n C dX3_weighMovesOf_0 rfl 0 rfl ?_
  refine gtX_X3_net C wd_1_125 dX3_weighMovesOf_1 ?_
  refine gtX_X4_hostOf C wd_1_43 dX3_weighMovesOf_4 ?_
  refine R_iload_n C dX3_weighMovesOf_7 rfl 1 rfl ?_
  refine ldX3 C dX3_weighMovesOf_8 ?_
  refine R_let (fun x1 => ?_)
  refine R_istore_n (lv' := [(3, .int x1), (0, .ref (a 3)), (1, .int v1), (2, .int v2)]) C dX3_weighMovesOf_9 rfl (by decide) rfl ?_
  refine R_aload_n C dX3_weighMovesOf_10 rfl 1 rfl ?_
  refine gtX_X3_net C wd_1_125 dX3_weighMovesOf_11 ?_
  refine gtX_X4_firstEnd C wd_1_34 dX3_weighMovesOf_14 ?_
  refine R_iload_n C dX3_weighMovesOf_17 rfl 2 rfl ?_
  refine ldX1 C dX3_weighMovesOf_18 ?_
  refine R_let (fun x2 => ?_)
  refine R_istore (lv' := [(4, .int x2), (3, .int x1), (0, .ref (a 3)), (1, .int v1), (2, .int v2)]) C dX3_weighMovesOf_19 (by decide) rfl ?_
  refine R_aload_n C dX3_weighMovesOf_21 rfl 2 rfl ?_
  refine gtX_X3_net C wd_1_125 dX3_weighMovesOf_22 ?_
  refine gtX_X4_secondEnd C wd_1_39 dX3_weighMovesOf_25 ?_
  refine R_iload_n C dX3_weighMovesOf_28 rfl 3 rfl ?_
  refine ldX2 C dX3_weighMovesOf_29 ?_
  refine R_let (fun x3 => ?_)
  refine R_istore (lv' := [(5, .int x3), (4, .int x2), (3, .int x1), (0, .ref (a 3)), (1, .int v1), (2, .int v2)]) C dX3_weighMovesOf_30 (by decide) rfl ?_
  refine R_aload_n C dX3_weighMovesOf_32 rfl 3 rfl ?_
  refine gtX_X3_net C wd_1_125 dX3_weighMovesOf_33 ?_
  refine R_iload C dX3_weighMovesOf_36 1 rfl ?_
  refine R_iload_n C dX3_weighMovesOf_38 rfl 2 rfl ?_
  refine R_calli (As := [.int x2, .int x1]) (st := []) C (kX4_hasOneLineAt l D a cA S x2 x1) (by decide) (by decide) wd_2_98 kwX4_hasOneLineAt 1 rfl rfl rfl rfl (Nat.le_of_ble_eq_true rfl) dX3_weighMovesOf_39 (fun r4 S5 => ?_)
  refine R_if_eq (tgt := 49) C dX3_weighMovesOf_42 (by decide) ?_ ?_
  · refine R_iconst (v := (0 : Int32)) C dX3_weighMovesOf_49 (by decide) ?_
    refine R_sub [3, 4, 5, 2, 1, 0] rfl ?_
    exact uX3_weighMovesOf_50 C v1 v2 x1 x2 x3 (0 : Int32) S5
  · refine R_iconst (v := (1 : Int32)) C dX3_weighMovesOf_45 (by decide) ?_
    refine R_goto (tgt := 50) C dX3_weighMovesOf_46 (by decide) ?_
    refine R_sub [3, 4, 5, 2, 1, 0] rfl ?_
    exact uX3_weighMovesOf_50 C v1 v2 x1 x2 x3 (1 : Int32) S5
set_option maxHeartbeats 4000000 in
set_option maxRecDepth 100000 in
theorem kX3_weighMovesOf (l : Launch) (D : va_G) (a : Nat → Nat) (cA : ClassId) (S : St) (v1 v2 : Int32) : CV l D (wX a cA) [(cA, .int)] yX3_weighMovesOf (.code yX3_weighMovesOf cX3_weighMovesOf 10 none) 2 [.ref (a 3), .int v1, .int v2] (fX3_weighMovesOf v1 v2 S) S := CV_of rfl (Nat.le_of_ble_eq_true rfl) (fun p e s m args below meth c A C => uX3_weighMovesOf C v1 v2 S)
theorem dX3_findMove_0 : decode cX3_findMove 0 = .ok (.aload_n 0, 1) := by decide +kernel
theorem dX3_findMove_1 : decode cX3_findMove 1 = .ok (.iconst (-1), 1) := by decide +kernel
theorem dX3_findMove_2 : decode cX3_findMove 2 = .ok (.putfield 15, 3) := by decide +kernel
theorem dX3_findMove_5 : decode cX3_findMove 5 = .ok (.aload_n 0, 1) := by decide +kernel
theorem dX3_findMove_6 : decode cX3_findMove 6 = .ok (.iconst (-1), 1) := by decide +kernel
theorem dX3_findMove_7 : decode cX3_findMove 7 = .ok (.putfield 19, 3) := by decide +kernel
theorem dX3_findMove_10 : decode cX3_findMove 10 = .ok (.aload_n 0, 1) := by decide +kernel
theorem dX3_findMove_11 : decode cX3_findMove 11 = .ok (.iconst 0, 1) := by decide +kernel
theorem dX3_findMove_12 : decode cX3_findMove 12 = .ok (.putfield 22, 3) := by decide +kernel
theorem dX3_findMove_15 : decode cX3_findMove 15 = .ok (.aload_n 0, 1) := by decide +kernel
theorem dX3_findMove_16 : decode cX3_findMove 16 = .ok (.iconst 0, 1) := by decide +kernel
theorem dX3_findMove_17 : decode cX3_findMove 17 = .ok (.putfield 25, 3) := by decide +kernel
theorem dX3_findMove_20 : decode cX3_findMove 20 = .ok (.iconst 0, 1) := by decide +kernel
theorem dX3_findMove_21 : decode cX3_findMove 21 = .ok (.istore_n 2, 1) := by decide +kernel
theorem dX3_findMove_22 : decode cX3_findMove 22 = .ok (.iload_n 2, 1) := by decide +kernel
theorem dX3_findMove_23 : decode cX3_findMove 23 = .ok (.aload_n 0, 1) := by decide +kernel
theorem dX3_findMove_24 : decode cX3_findMove 24 = .ok (.getfield 9, 3) := by decide +kernel
theorem dX3_findMove_27 : decode cX3_findMove 27 = .ok (.getfield 28, 3) := by decide +kernel
theorem dX3_findMove_30 : decode cX3_findMove 30 = .ok (.if_icmp .ge 26, 3) := by decide +kernel
theorem dX3_findMove_33 : decode cX3_findMove 33 = .ok (.aload_n 0, 1) := by decide +kernel
theorem dX3_findMove_34 : decode cX3_findMove 34 = .ok (.getfield 9, 3) := by decide +kernel
theorem dX3_findMove_37 : decode cX3_findMove 37 = .ok (.iload_n 2, 1) := by decide +kernel
theorem dX3_findMove_38 : decode cX3_findMove 38 = .ok (.invokevirtual 33, 3) := by decide +kernel
theorem dX3_findMove_41 : decode cX3_findMove 41 = .ok (.ifCond .eq 9, 3) := by decide +kernel
theorem dX3_findMove_44 : decode cX3_findMove 44 = .ok (.aload_n 0, 1) := by decide +kernel
theorem dX3_findMove_45 : decode cX3_findMove 45 = .ok (.iload_n 2, 1) := by decide +kernel
theorem dX3_findMove_46 : decode cX3_findMove 46 = .ok (.iload_n 1, 1) := by decide +kernel
theorem dX3_findMove_47 : decode cX3_findMove 47 = .ok (.invokevirtual 37, 3) := by decide +kernel
theorem dX3_findMove_50 : decode cX3_findMove 50 = .ok (.iinc 2 1, 3) := by decide +kernel
theorem dX3_findMove_53 : decode cX3_findMove 53 = .ok (.goto (-31), 3) := by decide +kernel
theorem dX3_findMove_56 : decode cX3_findMove 56 = .ok (.aload_n 0, 1) := by decide +kernel
theorem dX3_findMove_57 : decode cX3_findMove 57 = .ok (.getfield 15, 3) := by decide +kernel
theorem dX3_findMove_60 : decode cX3_findMove 60 = .ok (.iconst (-1), 1) := by decide +kernel
theorem dX3_findMove_61 : decode cX3_findMove 61 = .ok (.if_icmp .eq 7, 3) := by decide +kernel
theorem dX3_findMove_64 : decode cX3_findMove 64 = .ok (.iconst 1, 1) := by decide +kernel
theorem dX3_findMove_65 : decode cX3_findMove 65 = .ok (.goto 4, 3) := by decide +kernel
theorem dX3_findMove_68 : decode cX3_findMove 68 = .ok (.iconst 0, 1) := by decide +kernel
theorem dX3_findMove_69 : decode cX3_findMove 69 = .ok (.ireturn, 1) := by decide +kernel
set_option maxHeartbeats 4000000 in
set_option maxRecDepth 100000 in
theorem uX3_findMove_69 (C : CX D [(cA, .int)] p s m args meth c A cX3_findMove 3 RX3 (some .boolean)) (t0 : Int32) (S : St) : RU D (wX a cA) p l e 3 s m args below meth c A 3 (QI D (wX a cA) [(cA, .int)] A) (fX3_findMove_69 t0 S) 69 [.int t0] [] S := by
  unfold fX3_findMove_69
  exact R_retz C dX3_findMove_69
set_option maxHeartbeats 4000000 in
set_option maxRecDepth 100000 in
theorem uX3_findMove_50 (C : CX D [(cA, .int)] p s m args meth c A cX3_findMove 3 RX3 (some .boolean)) (k22 : Int32 → Int32 → St → Rs) (h22 : ∀ (v1 v2 : Int32) (S : St), RU D (wX a cA) p l e 3 s m args below meth c A 3 (QI D (wX a cA) [(cA, .int)] A) (k22 v1 v2 S) 22 [] [(0, .ref (a 3)), (1, .int v1), (2, .int v2)] S) (v1 v2 : Int32) (S : St) : RU D (wX a cA) p l e 3 s m args below meth c A 3 (QI D (wX a cA) [(cA, .int)] A) (fX3_findMove_50 k22 v1 v2 S) 50 [] [(0, .ref (a 3)), (1, .int v1), (2, .int v2)] S := by
  unfold fX3_findMove_50
  refine R_iinc (v := v2 + 1) (lv' := [(2, .int (v2 + 1)), (0, .ref (a 3)), (1, .int v1)]) C dX3_findMove_50 2 rfl rfl (by decide) rfl ?_
  refine R_goto (tgt := 22) C dX3_findMove_53 (by decide) ?_
  refine R_sub [1, 2, 0] rfl ?_
  exact h22 v1 (v2 + 1) S
set_option maxHeartbeats 4000000 in
set_option maxRecDepth 100000 in
theorem uX3_findMove_22_b (C : CX D [(cA, .int)] p s m args meth c A cX3_findMove 3 RX3 (some .boolean)) (k22 : Int32 → Int32 → St → Rs) (h22 : ∀ (v1 v2 : Int32) (S : St), RU D (wX a cA) p l e 3 s m args below meth c A 3 (QI D (wX a cA) [(cA, .int)] A) (k22 v1 v2 S) 22 [] [(0, .ref (a 3)), (1, .int v1), (2, .int v2)] S) (v1 v2 : Int32) (S : St) : RU D (wX a cA) p l e 3 s m args below meth c A 3 (QI D (wX a cA) [(cA, .int)] A) (fX3_findMove_22_b k22 v1 v2 S) 22 [] [(0, .ref (a 3)), (1, .int v1), (2, .int v2)] S := by
  unfold fX3_findMove_22_b
  refine R_iload_n C dX3_findMove_22 rfl 2 rfl ?_
  refine R_aload_n C dX3_findMove_23 rfl 0 rfl ?_
  refine gtX_X3_net C wd_1_125 dX3_findMove_24 ?_
  refine gtX_X4_came C wd_1_63 dX3_findMove_27 ?_
  refine R_icmp_ge (tgt := 56) C dX3_findMove_30 (by decide) ?_ ?_
  · refine R_aload_n C dX3_findMove_56 rfl 0 rfl ?_
    refine gtX_X3_chosenLine C wd_1_126 dX3_findMove_57 ?_
    refine R_iconst (v := (-1 : Int32)) C dX3_findMove_60 (by decide) ?_
    refine R_icmp_eq (tgt := 68) C dX3_findMove_61 (by decide) ?_ ?_
    · refine R_iconst (v := (0 : Int32)) C dX3_findMove_68 (by decide) ?_
      refine R_sub [] rfl ?_
      exact uX3_findMove_69 C (0 : Int32) S
    · refine R_iconst (v := (1 : Int32)) C dX3_findMove_64 (by decide) ?_
      refine R_goto (tgt := 69) C dX3_findMove_65 (by decide) ?_
      refine R_sub [] rfl ?_
      exact uX3_findMove_69 C (1 : Int32) S
  · refine R_aload_n C dX3_findMove_33 rfl 0 rfl ?_
    refine gtX_X3_net C wd_1_125 dX3_findMove_34 ?_
    refine R_iload_n C dX3_findMove_37 rfl 2 rfl ?_
    refine R_calli (As := [.int v2]) (st := []) C (kX4_isLive l D a cA S v2) (by decide) (by decide) wd_2_93 kwX4_isLive 1 rfl rfl rfl rfl (Nat.le_of_ble_eq_true rfl) dX3_findMove_38 (fun r1 S2 => ?_)
    refine R_if_eq (tgt := 50) C dX3_findMove_41 (by decide) ?_ ?_
    · exact uX3_findMove_50 C k22 h22 v1 v2 S2
    · refine R_aload_n C dX3_findMove_44 rfl 0 rfl ?_
      refine R_iload_n C dX3_findMove_45 rfl 2 rfl ?_
      refine R_iload_n C dX3_findMove_46 rfl 1 rfl ?_
      refine R_callv (As := [.int v2, .int v1]) (st := []) C (kX3_weighMovesOf l D a cA S2 v2 v1) (by decide) (by decide) wd_2_94 kwX3_weighMovesOf 3 rfl rfl rfl rfl (Nat.le_of_ble_eq_true rfl) dX3_findMove_47 (fun r3 S4 => ?_)
      exact uX3_findMove_50 C k22 h22 v1 v2 S4
set_option maxHeartbeats 4000000 in
set_option maxRecDepth 100000 in
theorem uX3_findMove_22 (C : CX D [(cA, .int)] p s m args meth c A cX3_findMove 3 RX3 (some .boolean)) : ∀ (n : Nat) (v1 v2 : Int32) (S : St), RU D (wX a cA) p l e 3 s m args below meth c A 3 (QI D (wX a cA) [(cA, .int)] A) (fX3_findMove_22 n v1 v2 S) 22 [] [(0, .ref (a 3)), (1, .int v1), (2, .int v2)] S := by
  intro n
  induction n with
  | zero => intro v1 v2 S; exact R_none
  | succ n ih => intro v1 v2 S; exact uX3_findMove_22_b C _ ih v1 v2 S
set_option maxHeartbeats 4000000 in
set_option maxRecDepth 100000 in
theorem uX3_findMove (C : CX D [(cA, .int)] p s m args meth c A cX3_findMove 3 RX3 (some .boolean)) (v1 : Int32) (S : St) : RU D (wX a cA) p l e 3 s m args below meth c A 3 (QI D (wX a cA) [(cA, .int)] A) (fX3_findMove v1 S) 0 [] [(0, .ref (a 3)), (1, .int v1)] S := by
  unfold fX3_findMove
  refine R_aload_n C dX3_findMove_0 rfl 0 rfl ?_
  refine R_iconst (v := (-1 : Int32)) C dX3_findMove_1 (by decide) ?_
  refine ptX_X3_chosenLine C wd_1_126 dX3_findMove_2 ?_
  refine R_letS (fun S1 => ?_)
  refine R_aload_n C dX3_findMove_5 rfl 0 rfl ?_
  refine R_iconst (v := (-1 : Int32)) C dX3_findMove_6 (by decide) ?_
  refine ptX_X3_chosenHost C wd_1_128 dX3_findMove_7 ?_
  refine R_letS (fun S2 => ?_)
  refine R_aload_n C dX3_findMove_10 rfl 0 rfl ?_
  refine R_iconst (v := (0 : Int32)) C dX3_findMove_11 (by decide) ?_
  refine ptX_X3_copiesChange C wd_1_130 dX3_findMove_12 ?_
  refine R_letS (fun S3 => ?_)
  refine R_aload_n C dX3_findMove_15 rfl 0 rfl ?_
  refine R_iconst (v := (0 : Int32)) C dX3_findMove_16 (by decide) ?_
  refine ptX_X3_squaresChange C wd_1_131 dX3_findMove_17 ?_
  refine R_letS (fun S4 => ?_)
  refine R_iconst (v := (0 : Int32)) C dX3_findMove_20 (by decide) ?_
  refine R_istore_n (lv' := [(2, .int (0 : Int32)), (0, .ref (a 3)), (1, .int v1)]) C dX3_findMove_21 rfl (by decide) rfl ?_
  refine R_sub [1, 2, 0] rfl ?_
  exact uX3_findMove_22 C FU v1 (0 : Int32) S4
set_option maxHeartbeats 4000000 in
set_option maxRecDepth 100000 in
theorem kX3_findMove (l : Launch) (D : va_G) (a : Nat → Nat) (cA : ClassId) (S : St) (v1 : Int32) : CI l D (wX a cA) [(cA, .int)] yX3_findMove (.code yX3_findMove cX3_findMove 3 (some .boolean)) 3 [.ref (a 3), .int v1] (fX3_findMove v1 S) S := CI_of rfl (Nat.le_of_ble_eq_true rfl) (fun p e s m args below meth c A C => uX3_findMove C v1 S)
theorem dX6_makeBetterMove_0 : decode cX6_makeBetterMove 0 = .ok (.aload_n 0, 1) := by decide +kernel
theorem dX6_makeBetterMove_1 : decode cX6_makeBetterMove 1 = .ok (.getfield 39, 3) := by decide +kernel
theorem dX6_makeBetterMove_4 : decode cX6_makeBetterMove 4 = .ok (.aload_n 0, 1) := by decide +kernel
theorem dX6_makeBetterMove_5 : decode cX6_makeBetterMove 5 = .ok (.getfield 32, 3) := by decide +kernel
theorem dX6_makeBetterMove_8 : decode cX6_makeBetterMove 8 = .ok (.aload_n 0, 1) := by decide +kernel
theorem dX6_makeBetterMove_9 : decode cX6_makeBetterMove 9 = .ok (.getfield 23, 3) := by decide +kernel
theorem dX6_makeBetterMove_12 : decode cX6_makeBetterMove 12 = .ok (.getfield 139, 3) := by decide +kernel
theorem dX6_makeBetterMove_15 : decode cX6_makeBetterMove 15 = .ok (.invokevirtual 142, 3) := by decide +kernel
theorem dX6_makeBetterMove_18 : decode cX6_makeBetterMove 18 = .ok (.invokevirtual 176, 3) := by decide +kernel
theorem dX6_makeBetterMove_21 : decode cX6_makeBetterMove 21 = .ok (.ifCond .ne 5, 3) := by decide +kernel
theorem dX6_makeBetterMove_24 : decode cX6_makeBetterMove 24 = .ok (.iconst 0, 1) := by decide +kernel
theorem dX6_makeBetterMove_25 : decode cX6_makeBetterMove 25 = .ok (.ireturn, 1) := by decide +kernel
theorem dX6_makeBetterMove_26 : decode cX6_makeBetterMove 26 = .ok (.aload_n 0, 1) := by decide +kernel
theorem dX6_makeBetterMove_27 : decode cX6_makeBetterMove 27 = .ok (.getfield 23, 3) := by decide +kernel
theorem dX6_makeBetterMove_30 : decode cX6_makeBetterMove 30 = .ok (.aload_n 0, 1) := by decide +kernel
theorem dX6_makeBetterMove_31 : decode cX6_makeBetterMove 31 = .ok (.getfield 39, 3) := by decide +kernel
theorem dX6_makeBetterMove_34 : decode cX6_makeBetterMove 34 = .ok (.getfield 179, 3) := by decide +kernel
theorem dX6_makeBetterMove_37 : decode cX6_makeBetterMove 37 = .ok (.invokevirtual 101, 3) := by decide +kernel
theorem dX6_makeBetterMove_40 : decode cX6_makeBetterMove 40 = .ok (.pop, 1) := by decide +kernel
theorem dX6_makeBetterMove_41 : decode cX6_makeBetterMove 41 = .ok (.aload_n 0, 1) := by decide +kernel
theorem dX6_makeBetterMove_42 : decode cX6_makeBetterMove 42 = .ok (.getfield 23, 3) := by decide +kernel
theorem dX6_makeBetterMove_45 : decode cX6_makeBetterMove 45 = .ok (.aload_n 0, 1) := by decide +kernel
theorem dX6_makeBetterMove_46 : decode cX6_makeBetterMove 46 = .ok (.getfield 39, 3) := by decide +kernel
theorem dX6_makeBetterMove_49 : decode cX6_makeBetterMove 49 = .ok (.getfield 179, 3) := by decide +kernel
theorem dX6_makeBetterMove_52 : decode cX6_makeBetterMove 52 = .ok (.aload_n 0, 1) := by decide +kernel
theorem dX6_makeBetterMove_53 : decode cX6_makeBetterMove 53 = .ok (.getfield 39, 3) := by decide +kernel
theorem dX6_makeBetterMove_56 : decode cX6_makeBetterMove 56 = .ok (.getfield 182, 3) := by decide +kernel
theorem dX6_makeBetterMove_59 : decode cX6_makeBetterMove 59 = .ok (.invokevirtual 185, 3) := by decide +kernel
theorem dX6_makeBetterMove_62 : decode cX6_makeBetterMove 62 = .ok (.iconst 1, 1) := by decide +kernel
theorem dX6_makeBetterMove_63 : decode cX6_makeBetterMove 63 = .ok (.ireturn, 1) := by decide +kernel
set_option maxHeartbeats 4000000 in
set_option maxRecDepth 100000 in
theorem uX6_makeBetterMove (C : CX D [(cA, .int)] p s m args meth c A cX6_makeBetterMove 1 RX6 (some .boolean)) (S : St) : RU D (wX a cA) p l e 4 s m args below meth c A 1 (QI D (wX a cA) [(cA, .int)] A) (fX6_makeBetterMove S) 0 [] [(0, .ref (a 0))] S := by
  unfold fX6_makeBetterMove
  refine R_aload_n C dX6_makeBetterMove_0 rfl 0 rfl ?_
  refine gtX_X6_moveSearch C wd_1_207 dX6_makeBetterMove_1 ?_
  refine R_aload_n C dX6_makeBetterMove_4 rfl 0 rfl ?_
  refine gtX_X6_dealing C wd_1_206 dX6_makeBetterMove_5 ?_
  refine R_aload_n C dX6_makeBetterMove_8 rfl 0 rfl ?_
  refine gtX_X6_net C wd_1_205 dX6_makeBetterMove_9 ?_
  refine gtX_X4_live C wd_1_69 dX6_makeBetterMove_12 ?_
  refine R_calli (As := [.int (S.1 4)]) (st := [.ref (a 3)]) C (kX1_roomFor l D a cA S (S.1 4)) (by decide) (by decide) wd_2_88 kwX1_roomFor 2 rfl rfl rfl rfl (Nat.le_of_ble_eq_true rfl) dX6_makeBetterMove_15 (fun r1 S2 => ?_)
  refine R_calli (As := [.int r1]) (st := []) C (kX3_findMove l D a cA S2 r1) (by decide) (by decide) wd_2_89 kwX3_findMove 3 rfl rfl rfl rfl (Nat.le_of_ble_eq_true rfl) dX6_makeBetterMove_18 (fun r3 S4 => ?_)
  refine R_if_ne (tgt := 26) C dX6_makeBetterMove_21 (by decide) ?_ ?_
  · refine R_iconst (v := (0 : Int32)) C dX6_makeBetterMove_24 (by decide) ?_
    exact R_retz C dX6_makeBetterMove_25
  · refine R_aload_n C dX6_makeBetterMove_26 rfl 0 rfl ?_
    refine gtX_X6_net C wd_1_205 dX6_makeBetterMove_27 ?_
    refine R_aload_n C dX6_makeBetterMove_30 rfl 0 rfl ?_
    refine gtX_X6_moveSearch C wd_1_207 dX6_makeBetterMove_31 ?_
    refine gtX_X3_chosenLine C wd_1_127 dX6_makeBetterMove_34 ?_
    refine R_calli (As := [.int (S4.1 9)]) (st := []) C (kX4_takeOff l D a cA S4 (S4.1 9)) (by decide) (by decide) wd_2_49 kwX4_takeOff 1 rfl rfl rfl rfl (Nat.le_of_ble_eq_true rfl) dX6_makeBetterMove_37 (fun r5 S6 => ?_)
    refine R_pop C dX6_makeBetterMove_40 rfl ?_
    refine R_aload_n C dX6_makeBetterMove_41 rfl 0 rfl ?_
    refine gtX_X6_net C wd_1_205 dX6_makeBetterMove_42 ?_
    refine R_aload_n C dX6_makeBetterMove_45 rfl 0 rfl ?_
    refine gtX_X6_moveSearch C wd_1_207 dX6_makeBetterMove_46 ?_
    refine gtX_X3_chosenLine C wd_1_127 dX6_makeBetterMove_49 ?_
    refine R_aload_n C dX6_makeBetterMove_52 rfl 0 rfl ?_
    refine gtX_X6_moveSearch C wd_1_207 dX6_makeBetterMove_53 ?_
    refine gtX_X3_chosenHost C wd_1_129 dX6_makeBetterMove_56 ?_
    refine R_callv (As := [.int (S6.1 9), .int (S6.1 10)]) (st := []) C (kX4_putOn l D a cA S6 (S6.1 9) (S6.1 10)) (by decide) (by decide) wd_2_107 kwX4_putOn 1 rfl rfl rfl rfl (Nat.le_of_ble_eq_true rfl) dX6_makeBetterMove_59 (fun r7 S8 => ?_)
    refine R_iconst (v := (1 : Int32)) C dX6_makeBetterMove_62 (by decide) ?_
    exact R_retz C dX6_makeBetterMove_63
set_option maxHeartbeats 4000000 in
set_option maxRecDepth 100000 in
theorem kX6_makeBetterMove (l : Launch) (D : va_G) (a : Nat → Nat) (cA : ClassId) (S : St) : CI l D (wX a cA) [(cA, .int)] yX6_makeBetterMove (.code yX6_makeBetterMove cX6_makeBetterMove 1 (some .boolean)) 4 [.ref (a 0)] (fX6_makeBetterMove S) S := CI_of rfl (Nat.le_of_ble_eq_true rfl) (fun p e s m args below meth c A C => uX6_makeBetterMove C S)
theorem dX6_better_0 : decode cX6_better 0 = .ok (.iload_n 1, 1) := by decide +kernel
theorem dX6_better_1 : decode cX6_better 1 = .ok (.ifCond .lt 9, 3) := by decide +kernel
theorem dX6_better_4 : decode cX6_better 4 = .ok (.iload_n 1, 1) := by decide +kernel
theorem dX6_better_5 : decode cX6_better 5 = .ok (.bipush 50, 2) := by decide +kernel
theorem dX6_better_7 : decode cX6_better 7 = .ok (.if_icmp .le 5, 3) := by decide +kernel
theorem dX6_better_10 : decode cX6_better 10 = .ok (.iconst (-1), 1) := by decide +kernel
theorem dX6_better_11 : decode cX6_better 11 = .ok (.ireturn, 1) := by decide +kernel
theorem dX6_better_12 : decode cX6_better 12 = .ok (.iconst 0, 1) := by decide +kernel
theorem dX6_better_13 : decode cX6_better 13 = .ok (.istore_n 2, 1) := by decide +kernel
theorem dX6_better_14 : decode cX6_better 14 = .ok (.iload_n 2, 1) := by decide +kernel
theorem dX6_better_15 : decode cX6_better 15 = .ok (.iload_n 1, 1) := by decide +kernel
theorem dX6_better_16 : decode cX6_better 16 = .ok (.if_icmp .ge 16, 3) := by decide +kernel
theorem dX6_better_19 : decode cX6_better 19 = .ok (.aload_n 0, 1) := by decide +kernel
theorem dX6_better_20 : decode cX6_better 20 = .ok (.invokevirtual 104, 3) := by decide +kernel
theorem dX6_better_23 : decode cX6_better 23 = .ok (.ifCond .eq 9, 3) := by decide +kernel
theorem dX6_better_26 : decode cX6_better 26 = .ok (.iinc 2 1, 3) := by decide +kernel
theorem dX6_better_29 : decode cX6_better 29 = .ok (.goto (-15), 3) := by decide +kernel
theorem dX6_better_32 : decode cX6_better 32 = .ok (.aload_n 0, 1) := by decide +kernel
theorem dX6_better_33 : decode cX6_better 33 = .ok (.dup, 1) := by decide +kernel
theorem dX6_better_34 : decode cX6_better 34 = .ok (.getfield 108, 3) := by decide +kernel
theorem dX6_better_37 : decode cX6_better 37 = .ok (.iload_n 2, 1) := by decide +kernel
theorem dX6_better_38 : decode cX6_better 38 = .ok (.iadd, 1) := by decide +kernel
theorem dX6_better_39 : decode cX6_better 39 = .ok (.putfield 108, 3) := by decide +kernel
theorem dX6_better_42 : decode cX6_better 42 = .ok (.iload_n 2, 1) := by decide +kernel
theorem dX6_better_43 : decode cX6_better 43 = .ok (.ireturn, 1) := by decide +kernel
set_option maxHeartbeats 4000000 in
set_option maxRecDepth 100000 in
theorem uX6_better_10 (C : CX D [(cA, .int)] p s m args meth c A cX6_better 3 RX6 (some .int)) (S : St) : RU D (wX a cA) p l e 5 s m args below meth c A 3 (QI D (wX a cA) [(cA, .int)] A) (fX6_better_10 S) 10 [] [] S := by
  unfold fX6_better_10
  refine R_iconst (v := (-1 : Int32)) C dX6_better_10 (by decide) ?_
  exact R_reti C dX6_better_11
set_option maxHeartbeats 4000000 in
set_option maxRecDepth 100000 in
theorem uX6_better_32 (C : CX D [(cA, .int)] p s m args meth c A cX6_better 3 RX6 (some .int)) (v2 : Int32) (S : St) : RU D (wX a cA) p l e 5 s m args below meth c A 3 (QI D (wX a cA) [(cA, .int)] A) (fX6_better_32 v2 S) 32 [] [(0, .ref (a 0)), (2, .int v2)] S := by
  unfold fX6_better_32
  refine R_aload_n C dX6_better_32 rfl 0 rfl ?_
  refine R_dup C dX6_better_33 rfl ?_
  refine gtX_X6_movesEver C wd_1_213 dX6_better_34 ?_
  refine R_iload_n C dX6_better_37 rfl 1 rfl ?_
  refine R_iadd C dX6_better_38 ?_
  refine ptX_X6_movesEver C wd_1_213 dX6_better_39 ?_
  refine R_letS (fun S1 => ?_)
  refine R_iload_n C dX6_better_42 rfl 1 rfl ?_
  exact R_reti C dX6_better_43
set_option maxHeartbeats 4000000 in
set_option maxRecDepth 100000 in
theorem uX6_better_14_b (C : CX D [(cA, .int)] p s m args meth c A cX6_better 3 RX6 (some .int)) (k14 : Int32 → Int32 → St → Rs) (h14 : ∀ (v1 v2 : Int32) (S : St), RU D (wX a cA) p l e 5 s m args below meth c A 3 (QI D (wX a cA) [(cA, .int)] A) (k14 v1 v2 S) 14 [] [(0, .ref (a 0)), (1, .int v1), (2, .int v2)] S) (v1 v2 : Int32) (S : St) : RU D (wX a cA) p l e 5 s m args below meth c A 3 (QI D (wX a cA) [(cA, .int)] A) (fX6_better_14_b k14 v1 v2 S) 14 [] [(0, .ref (a 0)), (1, .int v1), (2, .int v2)] S := by
  unfold fX6_better_14_b
  refine R_iload_n C dX6_better_14 rfl 2 rfl ?_
  refine R_iload_n C dX6_better_15 rfl 1 rfl ?_
  refine R_icmp_ge (tgt := 32) C dX6_better_16 (by decide) ?_ ?_
  · refine R_sub [0, 2] rfl ?_
    exact uX6_better_32 C v2 S
  · refine R_aload_n C dX6_better_19 rfl 0 rfl ?_
    refine R_calli (As := []) (st := []) C (kX6_makeBetterMove l D a cA S) (by decide) (by decide) wd_2_84 kwX6_makeBetterMove 0 rfl rfl rfl rfl (Nat.le_of_ble_eq_true rfl) dX6_better_20 (fun r1 S2 => ?_)
    refine R_if_eq (tgt := 32) C dX6_better_23 (by decide) ?_ ?_
    · refine R_sub [0, 2] rfl ?_
      exact uX6_better_32 C v2 S2
    · refine R_iinc (v := v2 + 1) (lv' := [(2, .int (v2 + 1)), (0, .ref (a 0)), (1, .int v1)]) C dX6_better_26 2 rfl rfl (by decide) rfl ?_
      refine R_goto (tgt := 14) C dX6_better_29 (by decide) ?_
      refine R_sub [1, 2, 0] rfl ?_
      exact h14 v1 (v2 + 1) S2
set_option maxHeartbeats 4000000 in
set_option maxRecDepth 100000 in
theorem uX6_better_14 (C : CX D [(cA, .int)] p s m args meth c A cX6_better 3 RX6 (some .int)) : ∀ (n : Nat) (v1 v2 : Int32) (S : St), RU D (wX a cA) p l e 5 s m args below meth c A 3 (QI D (wX a cA) [(cA, .int)] A) (fX6_better_14 n v1 v2 S) 14 [] [(0, .ref (a 0)), (1, .int v1), (2, .int v2)] S := by
  intro n
  induction n with
  | zero => intro v1 v2 S; exact R_none
  | succ n ih => intro v1 v2 S; exact uX6_better_14_b C _ ih v1 v2 S
set_option maxHeartbeats 4000000 in
set_option maxRecDepth 100000 in
theorem uX6_better (C : CX D [(cA, .int)] p s m args meth c A cX6_better 3 RX6 (some .int)) (v1 : Int32) (S : St) : RU D (wX a cA) p l e 5 s m args below meth c A 3 (QI D (wX a cA) [(cA, .int)] A) (fX6_better v1 S) 0 [] [(0, .ref (a 0)), (1, .int v1)] S := by
  unfold fX6_better
  refine R_iload_n C dX6_better_0 rfl 1 rfl ?_
  refine R_if_lt (tgt := 10) C dX6_better_1 (by decide) ?_ ?_
  · refine R_sub [] rfl ?_
    exact uX6_better_10 C S
  · refine R_iload_n C dX6_better_4 rfl 1 rfl ?_
    refine R_bipush (v := (50 : Int32)) C dX6_better_5 (by decide) ?_
    refine R_icmp_le (tgt := 12) C dX6_better_7 (by decide) ?_ ?_
    · refine R_iconst (v := (0 : Int32)) C dX6_better_12 (by decide) ?_
      refine R_istore_n (lv' := [(2, .int (0 : Int32)), (0, .ref (a 0)), (1, .int v1)]) C dX6_better_13 rfl (by decide) rfl ?_
      refine R_sub [1, 2, 0] rfl ?_
      exact uX6_better_14 C FU v1 (0 : Int32) S
    · refine R_sub [] rfl ?_
      exact uX6_better_10 C S
set_option maxHeartbeats 4000000 in
set_option maxRecDepth 100000 in
theorem kX6_better (l : Launch) (D : va_G) (a : Nat → Nat) (cA : ClassId) (S : St) (v1 : Int32) : CI l D (wX a cA) [(cA, .int)] yX6_better (.code yX6_better cX6_better 3 (some .int)) 5 [.ref (a 0), .int v1] (fX6_better v1 S) S := CI_of rfl (Nat.le_of_ble_eq_true rfl) (fun p e s m args below meth c A C => uX6_better C v1 S)
theorem dX6_more_0 : decode cX6_more 0 = .ok (.aload_n 0, 1) := by decide +kernel
theorem dX6_more_1 : decode cX6_more 1 = .ok (.getfield 23, 3) := by decide +kernel
theorem dX6_more_4 : decode cX6_more 4 = .ok (.getfield 111, 3) := by decide +kernel
theorem dX6_more_7 : decode cX6_more 7 = .ok (.bipush 8, 2) := by decide +kernel
theorem dX6_more_9 : decode cX6_more 9 = .ok (.if_icmp .lt 5, 3) := by decide +kernel
theorem dX6_more_12 : decode cX6_more 12 = .ok (.iconst (-1), 1) := by decide +kernel
theorem dX6_more_13 : decode cX6_more 13 = .ok (.ireturn, 1) := by decide +kernel
theorem dX6_more_14 : decode cX6_more 14 = .ok (.aload_n 0, 1) := by decide +kernel
theorem dX6_more_15 : decode cX6_more 15 = .ok (.getfield 23, 3) := by decide +kernel
theorem dX6_more_18 : decode cX6_more 18 = .ok (.dup, 1) := by decide +kernel
theorem dX6_more_19 : decode cX6_more 19 = .ok (.getfield 111, 3) := by decide +kernel
theorem dX6_more_22 : decode cX6_more 22 = .ok (.iconst 1, 1) := by decide +kernel
theorem dX6_more_23 : decode cX6_more 23 = .ok (.iadd, 1) := by decide +kernel
theorem dX6_more_24 : decode cX6_more 24 = .ok (.putfield 111, 3) := by decide +kernel
theorem dX6_more_27 : decode cX6_more 27 = .ok (.aload_n 0, 1) := by decide +kernel
theorem dX6_more_28 : decode cX6_more 28 = .ok (.getfield 23, 3) := by decide +kernel
theorem dX6_more_31 : decode cX6_more 31 = .ok (.getfield 111, 3) := by decide +kernel
theorem dX6_more_34 : decode cX6_more 34 = .ok (.ireturn, 1) := by decide +kernel
set_option maxHeartbeats 4000000 in
set_option maxRecDepth 100000 in
theorem uX6_more (C : CX D [(cA, .int)] p s m args meth c A cX6_more 1 RX6 (some .int)) (S : St) : RU D (wX a cA) p l e 1 s m args below meth c A 1 (QI D (wX a cA) [(cA, .int)] A) (fX6_more S) 0 [] [(0, .ref (a 0))] S := by
  unfold fX6_more
  refine R_aload_n C dX6_more_0 rfl 0 rfl ?_
  refine gtX_X6_net C wd_1_205 dX6_more_1 ?_
  refine gtX_X4_hosts C wd_1_61 dX6_more_4 ?_
  refine R_bipush (v := (8 : Int32)) C dX6_more_7 (by decide) ?_
  refine R_icmp_lt (tgt := 14) C dX6_more_9 (by decide) ?_ ?_
  · refine R_aload_n C dX6_more_14 rfl 0 rfl ?_
    refine gtX_X6_net C wd_1_205 dX6_more_15 ?_
    refine R_dup C dX6_more_18 rfl ?_
    refine gtX_X4_hosts C wd_1_61 dX6_more_19 ?_
    refine R_iconst (v := (1 : Int32)) C dX6_more_22 (by decide) ?_
    refine R_iadd C dX6_more_23 ?_
    refine ptX_X4_hosts C wd_1_61 dX6_more_24 ?_
    refine R_letS (fun S1 => ?_)
    refine R_aload_n C dX6_more_27 rfl 0 rfl ?_
    refine gtX_X6_net C wd_1_205 dX6_more_28 ?_
    refine gtX_X4_hosts C wd_1_61 dX6_more_31 ?_
    exact R_reti C dX6_more_34
  · refine R_iconst (v := (-1 : Int32)) C dX6_more_12 (by decide) ?_
    exact R_reti C dX6_more_13
set_option maxHeartbeats 4000000 in
set_option maxRecDepth 100000 in
theorem kX6_more (l : Launch) (D : va_G) (a : Nat → Nat) (cA : ClassId) (S : St) : CI l D (wX a cA) [(cA, .int)] yX6_more (.code yX6_more cX6_more 1 (some .int)) 1 [.ref (a 0)] (fX6_more S) S := CI_of rfl (Nat.le_of_ble_eq_true rfl) (fun p e s m args below meth c A C => uX6_more C S)
end
