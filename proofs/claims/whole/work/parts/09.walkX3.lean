/-! walks of the class -/
section
variable {D : va_G} {a : Nat → Nat} {cA cZ : ClassId} {p : Program} {l : Launch} {e : Env} {s : State} {m : MethodId} {args : Array Value} {below : List Frame} {meth : Method} {c : Code} {A : Nat → Prop}

theorem dX4_dropHost_0 : decode cX4_dropHost 0 = .ok (.iconst 0, 1) := by decide +kernel
theorem dX4_dropHost_1 : decode cX4_dropHost 1 = .ok (.istore_n 3, 1) := by decide +kernel
theorem dX4_dropHost_2 : decode cX4_dropHost 2 = .ok (.iconst 0, 1) := by decide +kernel
theorem dX4_dropHost_3 : decode cX4_dropHost 3 = .ok (.istore 4, 2) := by decide +kernel
theorem dX4_dropHost_5 : decode cX4_dropHost 5 = .ok (.iload 4, 2) := by decide +kernel
theorem dX4_dropHost_7 : decode cX4_dropHost 7 = .ok (.aload_n 0, 1) := by decide +kernel
theorem dX4_dropHost_8 : decode cX4_dropHost 8 = .ok (.getfield 37, 3) := by decide +kernel
theorem dX4_dropHost_11 : decode cX4_dropHost 11 = .ok (.if_icmp .ge 71, 3) := by decide +kernel
theorem dX4_dropHost_14 : decode cX4_dropHost 14 = .ok (.aload_n 0, 1) := by decide +kernel
theorem dX4_dropHost_15 : decode cX4_dropHost 15 = .ok (.getfield 18, 3) := by decide +kernel
theorem dX4_dropHost_18 : decode cX4_dropHost 18 = .ok (.iload 4, 2) := by decide +kernel
theorem dX4_dropHost_20 : decode cX4_dropHost 20 = .ok (.iaload, 1) := by decide +kernel
theorem dX4_dropHost_21 : decode cX4_dropHost 21 = .ok (.istore 5, 2) := by decide +kernel
theorem dX4_dropHost_23 : decode cX4_dropHost 23 = .ok (.iload 5, 2) := by decide +kernel
theorem dX4_dropHost_25 : decode cX4_dropHost 25 = .ok (.iload_n 1, 1) := by decide +kernel
theorem dX4_dropHost_26 : decode cX4_dropHost 26 = .ok (.if_icmp .ne 27, 3) := by decide +kernel
theorem dX4_dropHost_29 : decode cX4_dropHost 29 = .ok (.iload_n 3, 1) := by decide +kernel
theorem dX4_dropHost_30 : decode cX4_dropHost 30 = .ok (.aload_n 2, 1) := by decide +kernel
theorem dX4_dropHost_31 : decode cX4_dropHost 31 = .ok (.arraylength, 1) := by decide +kernel
theorem dX4_dropHost_32 : decode cX4_dropHost 32 = .ok (.if_icmp .ge 21, 3) := by decide +kernel
theorem dX4_dropHost_35 : decode cX4_dropHost 35 = .ok (.aload_n 0, 1) := by decide +kernel
theorem dX4_dropHost_36 : decode cX4_dropHost 36 = .ok (.iload 4, 2) := by decide +kernel
theorem dX4_dropHost_38 : decode cX4_dropHost 38 = .ok (.invokevirtual 60, 3) := by decide +kernel
theorem dX4_dropHost_41 : decode cX4_dropHost 41 = .ok (.pop, 1) := by decide +kernel
theorem dX4_dropHost_42 : decode cX4_dropHost 42 = .ok (.aload_n 2, 1) := by decide +kernel
theorem dX4_dropHost_43 : decode cX4_dropHost 43 = .ok (.iload_n 3, 1) := by decide +kernel
theorem dX4_dropHost_44 : decode cX4_dropHost 44 = .ok (.iload 4, 2) := by decide +kernel
theorem dX4_dropHost_46 : decode cX4_dropHost 46 = .ok (.iastore, 1) := by decide +kernel
theorem dX4_dropHost_47 : decode cX4_dropHost 47 = .ok (.iinc 3 1, 3) := by decide +kernel
theorem dX4_dropHost_50 : decode cX4_dropHost 50 = .ok (.goto 26, 3) := by decide +kernel
theorem dX4_dropHost_53 : decode cX4_dropHost 53 = .ok (.iload 5, 2) := by decide +kernel
theorem dX4_dropHost_55 : decode cX4_dropHost 55 = .ok (.iload_n 1, 1) := by decide +kernel
theorem dX4_dropHost_56 : decode cX4_dropHost 56 = .ok (.if_icmp .le 20, 3) := by decide +kernel
theorem dX4_dropHost_59 : decode cX4_dropHost 59 = .ok (.aload_n 0, 1) := by decide +kernel
theorem dX4_dropHost_60 : decode cX4_dropHost 60 = .ok (.iload 4, 2) := by decide +kernel
theorem dX4_dropHost_62 : decode cX4_dropHost 62 = .ok (.invokevirtual 60, 3) := by decide +kernel
theorem dX4_dropHost_65 : decode cX4_dropHost 65 = .ok (.pop, 1) := by decide +kernel
theorem dX4_dropHost_66 : decode cX4_dropHost 66 = .ok (.aload_n 0, 1) := by decide +kernel
theorem dX4_dropHost_67 : decode cX4_dropHost 67 = .ok (.iload 4, 2) := by decide +kernel
theorem dX4_dropHost_69 : decode cX4_dropHost 69 = .ok (.iload 5, 2) := by decide +kernel
theorem dX4_dropHost_71 : decode cX4_dropHost 71 = .ok (.iconst 1, 1) := by decide +kernel
theorem dX4_dropHost_72 : decode cX4_dropHost 72 = .ok (.isub, 1) := by decide +kernel
theorem dX4_dropHost_73 : decode cX4_dropHost 73 = .ok (.invokevirtual 63, 3) := by decide +kernel
theorem dX4_dropHost_76 : decode cX4_dropHost 76 = .ok (.iinc 4 1, 3) := by decide +kernel
theorem dX4_dropHost_79 : decode cX4_dropHost 79 = .ok (.goto (-74), 3) := by decide +kernel
theorem dX4_dropHost_82 : decode cX4_dropHost 82 = .ok (.aload_n 0, 1) := by decide +kernel
theorem dX4_dropHost_83 : decode cX4_dropHost 83 = .ok (.dup, 1) := by decide +kernel
theorem dX4_dropHost_84 : decode cX4_dropHost 84 = .ok (.getfield 33, 3) := by decide +kernel
theorem dX4_dropHost_87 : decode cX4_dropHost 87 = .ok (.iconst 1, 1) := by decide +kernel
theorem dX4_dropHost_88 : decode cX4_dropHost 88 = .ok (.isub, 1) := by decide +kernel
theorem dX4_dropHost_89 : decode cX4_dropHost 89 = .ok (.putfield 33, 3) := by decide +kernel
theorem dX4_dropHost_92 : decode cX4_dropHost 92 = .ok (.iload_n 3, 1) := by decide +kernel
theorem dX4_dropHost_93 : decode cX4_dropHost 93 = .ok (.ireturn, 1) := by decide +kernel
set_option maxHeartbeats 4000000 in
set_option maxRecDepth 100000 in
theorem uX4_dropHost_76 (C : CX D [(cA, .int)] p s m args meth c A cX4_dropHost 6 RX4 (some .int)) (k5 : Int32 → Int32 → Int32 → St → Rs) (h5 : ∀ (v1 v3 v4 : Int32) (S : St), RU D (wX a cA) p l e 3 s m args below meth c A 6 (QI D (wX a cA) [(cA, .int)] A) (k5 v1 v3 v4 S) 5 [] [(0, .ref (a 1)), (1, .int v1), (2, .ref (a 7)), (3, .int v3), (4, .int v4)] S) (v1 v3 v4 : Int32) (S : St) : RU D (wX a cA) p l e 3 s m args below meth c A 6 (QI D (wX a cA) [(cA, .int)] A) (fX4_dropHost_76 k5 v1 v3 v4 S) 76 [] [(0, .ref (a 1)), (1, .int v1), (2, .ref (a 7)), (3, .int v3), (4, .int v4)] S := by
  unfold fX4_dropHost_76
  refine R_iinc (v := v4 + 1) (lv' := [(4, .int (v4 + 1)), (0, .ref (a 1)), (1, .int v1), (2, .ref (a 7)), (3, .int v3)]) C dX4_dropHost_76 4 rfl rfl (by decide) rfl ?_
  refine R_goto (tgt := 5) C dX4_dropHost_79 (by decide) ?_
  refine R_sub [1, 2, 3, 4, 0] rfl ?_
  exact h5 v1 v3 (v4 + 1) S
set_option maxHeartbeats 4000000 in
set_option maxRecDepth 100000 in
theorem uX4_dropHost_53 (C : CX D [(cA, .int)] p s m args meth c A cX4_dropHost 6 RX4 (some .int)) (k5 : Int32 → Int32 → Int32 → St → Rs) (h5 : ∀ (v1 v3 v4 : Int32) (S : St), RU D (wX a cA) p l e 3 s m args below meth c A 6 (QI D (wX a cA) [(cA, .int)] A) (k5 v1 v3 v4 S) 5 [] [(0, .ref (a 1)), (1, .int v1), (2, .ref (a 7)), (3, .int v3), (4, .int v4)] S) (v1 v3 v4 v5 : Int32) (S : St) : RU D (wX a cA) p l e 3 s m args below meth c A 6 (QI D (wX a cA) [(cA, .int)] A) (fX4_dropHost_53 k5 v1 v3 v4 v5 S) 53 [] [(0, .ref (a 1)), (1, .int v1), (2, .ref (a 7)), (3, .int v3), (4, .int v4), (5, .int v5)] S := by
  unfold fX4_dropHost_53
  refine R_iload C dX4_dropHost_53 5 rfl ?_
  refine R_iload_n C dX4_dropHost_55 rfl 1 rfl ?_
  refine R_icmp_le (tgt := 76) C dX4_dropHost_56 (by decide) ?_ ?_
  · refine R_sub [0, 1, 2, 3, 4] rfl ?_
    exact uX4_dropHost_76 C k5 h5 v1 v3 v4 S
  · refine R_aload_n C dX4_dropHost_59 rfl 0 rfl ?_
    refine R_iload C dX4_dropHost_60 4 rfl ?_
    refine R_calli (As := [.int v4]) (st := []) C (kX4_takeOff l D a cA S v4) (by decide) (by decide) wd_2_121 kwX4_takeOff 1 rfl rfl rfl rfl (Nat.le_of_ble_eq_true rfl) dX4_dropHost_62 (fun r1 S2 => ?_)
    refine R_pop C dX4_dropHost_65 rfl ?_
    refine R_aload_n C dX4_dropHost_66 rfl 0 rfl ?_
    refine R_iload C dX4_dropHost_67 4 rfl ?_
    refine R_iload C dX4_dropHost_69 5 rfl ?_
    refine R_iconst (v := (1 : Int32)) C dX4_dropHost_71 (by decide) ?_
    refine R_isub C dX4_dropHost_72 ?_
    refine R_callv (As := [.int v4, .int (v5 - (1 : Int32))]) (st := []) C (kX4_putOn l D a cA S2 v4 (v5 - (1 : Int32))) (by decide) (by decide) wd_2_122 kwX4_putOn 1 rfl rfl rfl rfl (Nat.le_of_ble_eq_true rfl) dX4_dropHost_73 (fun r3 S4 => ?_)
    refine R_sub [0, 1, 2, 3, 4] rfl ?_
    exact uX4_dropHost_76 C k5 h5 v1 v3 v4 S4
set_option maxHeartbeats 4000000 in
set_option maxRecDepth 100000 in
theorem uX4_dropHost_5_b (C : CX D [(cA, .int)] p s m args meth c A cX4_dropHost 6 RX4 (some .int)) (k5 : Int32 → Int32 → Int32 → St → Rs) (h5 : ∀ (v1 v3 v4 : Int32) (S : St), RU D (wX a cA) p l e 3 s m args below meth c A 6 (QI D (wX a cA) [(cA, .int)] A) (k5 v1 v3 v4 S) 5 [] [(0, .ref (a 1)), (1, .int v1), (2, .ref (a 7)), (3, .int v3), (4, .int v4)] S) (v1 v3 v4 : Int32) (S : St) : RU D (wX a cA) p l e 3 s m args below meth c A 6 (QI D (wX a cA) [(cA, .int)] A) (fX4_dropHost_5_b k5 v1 v3 v4 S) 5 [] [(0, .ref (a 1)), (1, .int v1), (2, .ref (a 7)), (3, .int v3), (4, .int v4)] S := by
  unfold fX4_dropHost_5_b
  refine R_iload C dX4_dropHost_5 4 rfl ?_
  refine R_aload_n C dX4_dropHost_7 rfl 0 rfl ?_
  refine gtX_X4_came C wd_1_64 dX4_dropHost_8 ?_
  refine R_icmp_ge (tgt := 82) C dX4_dropHost_11 (by decide) ?_ ?_
  · refine R_aload_n C dX4_dropHost_82 rfl 0 rfl ?_
    refine R_dup C dX4_dropHost_83 rfl ?_
    refine gtX_X4_hosts C wd_1_56 dX4_dropHost_84 ?_
    refine R_iconst (v := (1 : Int32)) C dX4_dropHost_87 (by decide) ?_
    refine R_isub C dX4_dropHost_88 ?_
    refine ptX_X4_hosts C wd_1_56 dX4_dropHost_89 ?_
    refine R_letS (fun S1 => ?_)
    refine R_iload_n C dX4_dropHost_92 rfl 3 rfl ?_
    exact R_reti C dX4_dropHost_93
  · refine R_aload_n C dX4_dropHost_14 rfl 0 rfl ?_
    refine gtX_X4_hostOf C wd_1_42 dX4_dropHost_15 ?_
    refine R_iload C dX4_dropHost_18 4 rfl ?_
    refine ldX3 C dX4_dropHost_20 ?_
    refine R_let (fun x2 => ?_)
    refine R_istore (lv' := [(5, .int x2), (0, .ref (a 1)), (1, .int v1), (2, .ref (a 7)), (3, .int v3), (4, .int v4)]) C dX4_dropHost_21 (by decide) rfl ?_
    refine R_iload C dX4_dropHost_23 0 rfl ?_
    refine R_iload_n C dX4_dropHost_25 rfl 2 rfl ?_
    refine R_icmp_ne (tgt := 53) C dX4_dropHost_26 (by decide) ?_ ?_
    · refine R_iload_n C dX4_dropHost_29 rfl 4 rfl ?_
      refine R_aload_n C dX4_dropHost_30 rfl 3 rfl ?_
      refine lnX0 C dX4_dropHost_31 ?_
      refine R_icmp_ge (tgt := 53) C dX4_dropHost_32 (by decide) ?_ ?_
      · refine R_sub [1, 2, 3, 4, 5, 0] rfl ?_
        exact uX4_dropHost_53 C k5 h5 v1 v3 v4 x2 S
      · refine R_aload_n C dX4_dropHost_35 rfl 1 rfl ?_
        refine R_iload C dX4_dropHost_36 5 rfl ?_
        refine R_calli (As := [.int v4]) (st := []) C (kX4_takeOff l D a cA S v4) (by decide) (by decide) wd_2_121 kwX4_takeOff 1 rfl rfl rfl rfl (Nat.le_of_ble_eq_true rfl) dX4_dropHost_38 (fun r3 S4 => ?_)
        refine R_pop C dX4_dropHost_41 rfl ?_
        refine R_aload_n C dX4_dropHost_42 rfl 3 rfl ?_
        refine R_iload_n C dX4_dropHost_43 rfl 4 rfl ?_
        refine R_iload C dX4_dropHost_44 5 rfl ?_
        refine svX0 C dX4_dropHost_46 ?_
        refine R_letS (fun S5 => ?_)
        refine R_iinc (v := v3 + 1) (lv' := [(3, .int (v3 + 1)), (5, .int x2), (0, .ref (a 1)), (1, .int v1), (2, .ref (a 7)), (4, .int v4)]) C dX4_dropHost_47 4 rfl rfl (by decide) rfl ?_
        refine R_goto (tgt := 76) C dX4_dropHost_50 (by decide) ?_
        refine R_sub [2, 3, 4, 0, 5] rfl ?_
        exact uX4_dropHost_76 C k5 h5 v1 (v3 + 1) v4 S5
    · refine R_sub [1, 2, 3, 4, 5, 0] rfl ?_
      exact uX4_dropHost_53 C k5 h5 v1 v3 v4 x2 S
set_option maxHeartbeats 4000000 in
set_option maxRecDepth 100000 in
theorem uX4_dropHost_5 (C : CX D [(cA, .int)] p s m args meth c A cX4_dropHost 6 RX4 (some .int)) : ∀ (n : Nat) (v1 v3 v4 : Int32) (S : St), RU D (wX a cA) p l e 3 s m args below meth c A 6 (QI D (wX a cA) [(cA, .int)] A) (fX4_dropHost_5 n v1 v3 v4 S) 5 [] [(0, .ref (a 1)), (1, .int v1), (2, .ref (a 7)), (3, .int v3), (4, .int v4)] S := by
  intro n
  induction n with
  | zero => intro v1 v3 v4 S; exact R_none
  | succ n ih => intro v1 v3 v4 S; exact uX4_dropHost_5_b C _ ih v1 v3 v4 S
set_option maxHeartbeats 4000000 in
set_option maxRecDepth 100000 in
theorem uX4_dropHost (C : CX D [(cA, .int)] p s m args meth c A cX4_dropHost 6 RX4 (some .int)) (v1 : Int32) (S : St) : RU D (wX a cA) p l e 3 s m args below meth c A 6 (QI D (wX a cA) [(cA, .int)] A) (fX4_dropHost v1 S) 0 [] [(0, .ref (a 1)), (1, .int v1), (2, .ref (a 7))] S := by
  unfold fX4_dropHost
  refine R_iconst (v := (0 : Int32)) C dX4_dropHost_0 (by decide) ?_
  refine R_istore_n (lv' := [(3, .int (0 : Int32)), (0, .ref (a 1)), (1, .int v1), (2, .ref (a 7))]) C dX4_dropHost_1 rfl (by decide) rfl ?_
  refine R_iconst (v := (0 : Int32)) C dX4_dropHost_2 (by decide) ?_
  refine R_istore (lv' := [(4, .int (0 : Int32)), (3, .int (0 : Int32)), (0, .ref (a 1)), (1, .int v1), (2, .ref (a 7))]) C dX4_dropHost_3 (by decide) rfl ?_
  refine R_sub [2, 3, 4, 1, 0] rfl ?_
  exact uX4_dropHost_5 C FU v1 (0 : Int32) (0 : Int32) S
set_option maxHeartbeats 4000000 in
set_option maxRecDepth 100000 in
theorem kX4_dropHost (l : Launch) (D : va_G) (a : Nat → Nat) (cA : ClassId) (S : St) (v1 : Int32) : CI l D (wX a cA) [(cA, .int)] yX4_dropHost (.code yX4_dropHost cX4_dropHost 6 (some .int)) 3 [.ref (a 1), .int v1, .ref (a 7)] (fX4_dropHost v1 S) S := CI_of rfl (Nat.le_of_ble_eq_true rfl) (fun p e s m args below meth c A C => uX4_dropHost C v1 S)
theorem dX6_less_0 : decode cX6_less 0 = .ok (.aload_n 0, 1) := by decide +kernel
theorem dX6_less_1 : decode cX6_less 1 = .ok (.getfield 23, 3) := by decide +kernel
theorem dX6_less_4 : decode cX6_less 4 = .ok (.iload_n 1, 1) := by decide +kernel
theorem dX6_less_5 : decode cX6_less 5 = .ok (.invokevirtual 114, 3) := by decide +kernel
theorem dX6_less_8 : decode cX6_less 8 = .ok (.ifCond .eq 14, 3) := by decide +kernel
theorem dX6_less_11 : decode cX6_less 11 = .ok (.aload_n 0, 1) := by decide +kernel
theorem dX6_less_12 : decode cX6_less 12 = .ok (.getfield 23, 3) := by decide +kernel
theorem dX6_less_15 : decode cX6_less 15 = .ok (.getfield 111, 3) := by decide +kernel
theorem dX6_less_18 : decode cX6_less 18 = .ok (.iconst 2, 1) := by decide +kernel
theorem dX6_less_19 : decode cX6_less 19 = .ok (.if_icmp .gt 5, 3) := by decide +kernel
theorem dX6_less_22 : decode cX6_less 22 = .ok (.iconst (-1), 1) := by decide +kernel
theorem dX6_less_23 : decode cX6_less 23 = .ok (.ireturn, 1) := by decide +kernel
theorem dX6_less_24 : decode cX6_less 24 = .ok (.aload_n 0, 1) := by decide +kernel
theorem dX6_less_25 : decode cX6_less 25 = .ok (.getfield 23, 3) := by decide +kernel
theorem dX6_less_28 : decode cX6_less 28 = .ok (.iload_n 1, 1) := by decide +kernel
theorem dX6_less_29 : decode cX6_less 29 = .ok (.aload_n 0, 1) := by decide +kernel
theorem dX6_less_30 : decode cX6_less 30 = .ok (.getfield 64, 3) := by decide +kernel
theorem dX6_less_33 : decode cX6_less 33 = .ok (.invokevirtual 117, 3) := by decide +kernel
theorem dX6_less_36 : decode cX6_less 36 = .ok (.istore_n 2, 1) := by decide +kernel
theorem dX6_less_37 : decode cX6_less 37 = .ok (.iconst 0, 1) := by decide +kernel
theorem dX6_less_38 : decode cX6_less 38 = .ok (.istore_n 3, 1) := by decide +kernel
theorem dX6_less_39 : decode cX6_less 39 = .ok (.iload_n 3, 1) := by decide +kernel
theorem dX6_less_40 : decode cX6_less 40 = .ok (.iload_n 2, 1) := by decide +kernel
theorem dX6_less_41 : decode cX6_less 41 = .ok (.if_icmp .ge 32, 3) := by decide +kernel
theorem dX6_less_44 : decode cX6_less 44 = .ok (.iload_n 3, 1) := by decide +kernel
theorem dX6_less_45 : decode cX6_less 45 = .ok (.aload_n 0, 1) := by decide +kernel
theorem dX6_less_46 : decode cX6_less 46 = .ok (.getfield 64, 3) := by decide +kernel
theorem dX6_less_49 : decode cX6_less 49 = .ok (.arraylength, 1) := by decide +kernel
theorem dX6_less_50 : decode cX6_less 50 = .ok (.if_icmp .ge 23, 3) := by decide +kernel
theorem dX6_less_53 : decode cX6_less 53 = .ok (.aload_n 0, 1) := by decide +kernel
theorem dX6_less_54 : decode cX6_less 54 = .ok (.getfield 32, 3) := by decide +kernel
theorem dX6_less_57 : decode cX6_less 57 = .ok (.aload_n 0, 1) := by decide +kernel
theorem dX6_less_58 : decode cX6_less 58 = .ok (.getfield 64, 3) := by decide +kernel
theorem dX6_less_61 : decode cX6_less 61 = .ok (.iload_n 3, 1) := by decide +kernel
theorem dX6_less_62 : decode cX6_less 62 = .ok (.iaload, 1) := by decide +kernel
theorem dX6_less_63 : decode cX6_less 63 = .ok (.invokevirtual 79, 3) := by decide +kernel
theorem dX6_less_66 : decode cX6_less 66 = .ok (.pop, 1) := by decide +kernel
theorem dX6_less_67 : decode cX6_less 67 = .ok (.iinc 3 1, 3) := by decide +kernel
theorem dX6_less_70 : decode cX6_less 70 = .ok (.goto (-31), 3) := by decide +kernel
theorem dX6_less_73 : decode cX6_less 73 = .ok (.iload_n 2, 1) := by decide +kernel
theorem dX6_less_74 : decode cX6_less 74 = .ok (.ireturn, 1) := by decide +kernel
set_option maxHeartbeats 4000000 in
set_option maxRecDepth 100000 in
theorem uX6_less_22 (C : CX D [(cA, .int)] p s m args meth c A cX6_less 4 RX6 (some .int)) (S : St) : RU D (wX a cA) p l e 6 s m args below meth c A 4 (QI D (wX a cA) [(cA, .int)] A) (fX6_less_22 S) 22 [] [] S := by
  unfold fX6_less_22
  refine R_iconst (v := (-1 : Int32)) C dX6_less_22 (by decide) ?_
  exact R_reti C dX6_less_23
set_option maxHeartbeats 4000000 in
set_option maxRecDepth 100000 in
theorem uX6_less_73 (C : CX D [(cA, .int)] p s m args meth c A cX6_less 4 RX6 (some .int)) (v2 : Int32) (S : St) : RU D (wX a cA) p l e 6 s m args below meth c A 4 (QI D (wX a cA) [(cA, .int)] A) (fX6_less_73 v2 S) 73 [] [(2, .int v2)] S := by
  unfold fX6_less_73
  refine R_iload_n C dX6_less_73 rfl 0 rfl ?_
  exact R_reti C dX6_less_74
set_option maxHeartbeats 4000000 in
set_option maxRecDepth 100000 in
theorem uX6_less_39_b (C : CX D [(cA, .int)] p s m args meth c A cX6_less 4 RX6 (some .int)) (k39 : Int32 → Int32 → St → Rs) (h39 : ∀ (v2 v3 : Int32) (S : St), RU D (wX a cA) p l e 6 s m args below meth c A 4 (QI D (wX a cA) [(cA, .int)] A) (k39 v2 v3 S) 39 [] [(0, .ref (a 0)), (2, .int v2), (3, .int v3)] S) (v2 v3 : Int32) (S : St) : RU D (wX a cA) p l e 6 s m args below meth c A 4 (QI D (wX a cA) [(cA, .int)] A) (fX6_less_39_b k39 v2 v3 S) 39 [] [(0, .ref (a 0)), (2, .int v2), (3, .int v3)] S := by
  unfold fX6_less_39_b
  refine R_iload_n C dX6_less_39 rfl 2 rfl ?_
  refine R_iload_n C dX6_less_40 rfl 1 rfl ?_
  refine R_icmp_ge (tgt := 73) C dX6_less_41 (by decide) ?_ ?_
  · refine R_sub [1] rfl ?_
    exact uX6_less_73 C v2 S
  · refine R_iload_n C dX6_less_44 rfl 2 rfl ?_
    refine R_aload_n C dX6_less_45 rfl 0 rfl ?_
    refine gtX_X6_waiting C wd_1_211 dX6_less_46 ?_
    refine lnX0 C dX6_less_49 ?_
    refine R_icmp_ge (tgt := 73) C dX6_less_50 (by decide) ?_ ?_
    · refine R_sub [1] rfl ?_
      exact uX6_less_73 C v2 S
    · refine R_aload_n C dX6_less_53 rfl 0 rfl ?_
      refine gtX_X6_dealing C wd_1_206 dX6_less_54 ?_
      refine R_aload_n C dX6_less_57 rfl 0 rfl ?_
      refine gtX_X6_waiting C wd_1_211 dX6_less_58 ?_
      refine R_iload_n C dX6_less_61 rfl 2 rfl ?_
      refine ldX0 C dX6_less_62 ?_
      refine R_calli (As := [.int (S.2 0 (ix v3))]) (st := []) C (kX1_dealLine l D a cA S (S.2 0 (ix v3))) (by decide) (by decide) wd_2_4 kwX1_dealLine 2 rfl rfl rfl rfl (Nat.le_of_ble_eq_true rfl) dX6_less_63 (fun r1 S2 => ?_)
      refine R_pop C dX6_less_66 rfl ?_
      refine R_iinc (v := v3 + 1) (lv' := [(3, .int (v3 + 1)), (0, .ref (a 0)), (2, .int v2)]) C dX6_less_67 2 rfl rfl (by decide) rfl ?_
      refine R_goto (tgt := 39) C dX6_less_70 (by decide) ?_
      refine R_sub [1, 2, 0] rfl ?_
      exact h39 v2 (v3 + 1) S2
set_option maxHeartbeats 4000000 in
set_option maxRecDepth 100000 in
theorem uX6_less_39 (C : CX D [(cA, .int)] p s m args meth c A cX6_less 4 RX6 (some .int)) : ∀ (n : Nat) (v2 v3 : Int32) (S : St), RU D (wX a cA) p l e 6 s m args below meth c A 4 (QI D (wX a cA) [(cA, .int)] A) (fX6_less_39 n v2 v3 S) 39 [] [(0, .ref (a 0)), (2, .int v2), (3, .int v3)] S := by
  intro n
  induction n with
  | zero => intro v2 v3 S; exact R_none
  | succ n ih => intro v2 v3 S; exact uX6_less_39_b C _ ih v2 v3 S
set_option maxHeartbeats 4000000 in
set_option maxRecDepth 100000 in
theorem uX6_less (C : CX D [(cA, .int)] p s m args meth c A cX6_less 4 RX6 (some .int)) (v1 : Int32) (S : St) : RU D (wX a cA) p l e 6 s m args below meth c A 4 (QI D (wX a cA) [(cA, .int)] A) (fX6_less v1 S) 0 [] [(0, .ref (a 0)), (1, .int v1)] S := by
  unfold fX6_less
  refine R_aload_n C dX6_less_0 rfl 0 rfl ?_
  refine gtX_X6_net C wd_1_205 dX6_less_1 ?_
  refine R_iload_n C dX6_less_4 rfl 1 rfl ?_
  refine R_calli (As := [.int v1]) (st := []) C (kX4_hasHost l D a cA S v1) (by decide) (by decide) wd_2_116 kwX4_hasHost 1 rfl rfl rfl rfl (Nat.le_of_ble_eq_true rfl) dX6_less_5 (fun r1 S2 => ?_)
  refine R_if_eq (tgt := 22) C dX6_less_8 (by decide) ?_ ?_
  · refine R_sub [] rfl ?_
    exact uX6_less_22 C S2
  · refine R_aload_n C dX6_less_11 rfl 0 rfl ?_
    refine gtX_X6_net C wd_1_205 dX6_less_12 ?_
    refine gtX_X4_hosts C wd_1_61 dX6_less_15 ?_
    refine R_iconst (v := (2 : Int32)) C dX6_less_18 (by decide) ?_
    refine R_icmp_gt (tgt := 24) C dX6_less_19 (by decide) ?_ ?_
    · refine R_aload_n C dX6_less_24 rfl 0 rfl ?_
      refine gtX_X6_net C wd_1_205 dX6_less_25 ?_
      refine R_iload_n C dX6_less_28 rfl 1 rfl ?_
      refine R_aload_n C dX6_less_29 rfl 0 rfl ?_
      refine gtX_X6_waiting C wd_1_211 dX6_less_30 ?_
      refine R_calli (As := [.int v1, .ref (a 7)]) (st := []) C (kX4_dropHost l D a cA S2 v1) (by decide) (by decide) wd_2_117 kwX4_dropHost 1 rfl rfl rfl rfl (Nat.le_of_ble_eq_true rfl) dX6_less_33 (fun r3 S4 => ?_)
      refine R_istore_n (lv' := [(2, .int r3), (0, .ref (a 0)), (1, .int v1)]) C dX6_less_36 rfl (by decide) rfl ?_
      refine R_iconst (v := (0 : Int32)) C dX6_less_37 (by decide) ?_
      refine R_istore_n (lv' := [(3, .int (0 : Int32)), (2, .int r3), (0, .ref (a 0)), (1, .int v1)]) C dX6_less_38 rfl (by decide) rfl ?_
      refine R_sub [2, 1, 0] rfl ?_
      exact uX6_less_39 C FU r3 (0 : Int32) S4
    · refine R_sub [] rfl ?_
      exact uX6_less_22 C S2
set_option maxHeartbeats 4000000 in
set_option maxRecDepth 100000 in
theorem kX6_less (l : Launch) (D : va_G) (a : Nat → Nat) (cA : ClassId) (S : St) (v1 : Int32) : CI l D (wX a cA) [(cA, .int)] yX6_less (.code yX6_less cX6_less 4 (some .int)) 6 [.ref (a 0), .int v1] (fX6_less v1 S) S := CI_of rfl (Nat.le_of_ble_eq_true rfl) (fun p e s m args below meth c A C => uX6_less C v1 S)
theorem dX6_host_0 : decode cX6_host 0 = .ok (.aload_n 0, 1) := by decide +kernel
theorem dX6_host_1 : decode cX6_host 1 = .ok (.getfield 23, 3) := by decide +kernel
theorem dX6_host_4 : decode cX6_host 4 = .ok (.iload_n 1, 1) := by decide +kernel
theorem dX6_host_5 : decode cX6_host 5 = .ok (.invokevirtual 121, 3) := by decide +kernel
theorem dX6_host_8 : decode cX6_host 8 = .ok (.ifCond .eq 15, 3) := by decide +kernel
theorem dX6_host_11 : decode cX6_host 11 = .ok (.aload_n 0, 1) := by decide +kernel
theorem dX6_host_12 : decode cX6_host 12 = .ok (.getfield 23, 3) := by decide +kernel
theorem dX6_host_15 : decode cX6_host 15 = .ok (.getfield 124, 3) := by decide +kernel
theorem dX6_host_18 : decode cX6_host 18 = .ok (.iload_n 1, 1) := by decide +kernel
theorem dX6_host_19 : decode cX6_host 19 = .ok (.iaload, 1) := by decide +kernel
theorem dX6_host_20 : decode cX6_host 20 = .ok (.goto 4, 3) := by decide +kernel
theorem dX6_host_23 : decode cX6_host 23 = .ok (.iconst (-1), 1) := by decide +kernel
theorem dX6_host_24 : decode cX6_host 24 = .ok (.ireturn, 1) := by decide +kernel
set_option maxHeartbeats 4000000 in
set_option maxRecDepth 100000 in
theorem uX6_host_24 (C : CX D [(cA, .int)] p s m args meth c A cX6_host 2 RX6 (some .int)) (t0 : Int32) (S : St) : RU D (wX a cA) p l e 2 s m args below meth c A 2 (QI D (wX a cA) [(cA, .int)] A) (fX6_host_24 t0 S) 24 [.int t0] [] S := by
  unfold fX6_host_24
  exact R_reti C dX6_host_24
set_option maxHeartbeats 4000000 in
set_option maxRecDepth 100000 in
theorem uX6_host (C : CX D [(cA, .int)] p s m args meth c A cX6_host 2 RX6 (some .int)) (v1 : Int32) (S : St) : RU D (wX a cA) p l e 2 s m args below meth c A 2 (QI D (wX a cA) [(cA, .int)] A) (fX6_host v1 S) 0 [] [(0, .ref (a 0)), (1, .int v1)] S := by
  unfold fX6_host
  refine R_aload_n C dX6_host_0 rfl 0 rfl ?_
  refine gtX_X6_net C wd_1_205 dX6_host_1 ?_
  refine R_iload_n C dX6_host_4 rfl 1 rfl ?_
  refine R_calli (As := [.int v1]) (st := []) C (kX4_isLive l D a cA S v1) (by decide) (by decide) wd_2_127 kwX4_isLive 1 rfl rfl rfl rfl (Nat.le_of_ble_eq_true rfl) dX6_host_5 (fun r1 S2 => ?_)
  refine R_if_eq (tgt := 23) C dX6_host_8 (by decide) ?_ ?_
  · refine R_iconst (v := (-1 : Int32)) C dX6_host_23 (by decide) ?_
    refine R_sub [] rfl ?_
    exact uX6_host_24 C (-1 : Int32) S2
  · refine R_aload_n C dX6_host_11 rfl 0 rfl ?_
    refine gtX_X6_net C wd_1_205 dX6_host_12 ?_
    refine gtX_X4_hostOf C wd_1_44 dX6_host_15 ?_
    refine R_iload_n C dX6_host_18 rfl 1 rfl ?_
    refine ldX3 C dX6_host_19 ?_
    refine R_goto (tgt := 24) C dX6_host_20 (by decide) ?_
    refine R_sub [] rfl ?_
    exact uX6_host_24 C (S2.2 3 (ix v1)) S2
set_option maxHeartbeats 4000000 in
set_option maxRecDepth 100000 in
theorem kX6_host (l : Launch) (D : va_G) (a : Nat → Nat) (cA : ClassId) (S : St) (v1 : Int32) : CI l D (wX a cA) [(cA, .int)] yX6_host (.code yX6_host cX6_host 2 (some .int)) 2 [.ref (a 0), .int v1] (fX6_host v1 S) S := CI_of rfl (Nat.le_of_ble_eq_true rfl) (fun p e s m args below meth c A C => uX6_host C v1 S)
theorem dX6_load_0 : decode cX6_load 0 = .ok (.aload_n 0, 1) := by decide +kernel
theorem dX6_load_1 : decode cX6_load 1 = .ok (.getfield 23, 3) := by decide +kernel
theorem dX6_load_4 : decode cX6_load 4 = .ok (.iload_n 1, 1) := by decide +kernel
theorem dX6_load_5 : decode cX6_load 5 = .ok (.invokevirtual 114, 3) := by decide +kernel
theorem dX6_load_8 : decode cX6_load 8 = .ok (.ifCond .eq 15, 3) := by decide +kernel
theorem dX6_load_11 : decode cX6_load 11 = .ok (.aload_n 0, 1) := by decide +kernel
theorem dX6_load_12 : decode cX6_load 12 = .ok (.getfield 23, 3) := by decide +kernel
theorem dX6_load_15 : decode cX6_load 15 = .ok (.getfield 127, 3) := by decide +kernel
theorem dX6_load_18 : decode cX6_load 18 = .ok (.iload_n 1, 1) := by decide +kernel
theorem dX6_load_19 : decode cX6_load 19 = .ok (.iaload, 1) := by decide +kernel
theorem dX6_load_20 : decode cX6_load 20 = .ok (.goto 4, 3) := by decide +kernel
theorem dX6_load_23 : decode cX6_load 23 = .ok (.iconst (-1), 1) := by decide +kernel
theorem dX6_load_24 : decode cX6_load 24 = .ok (.ireturn, 1) := by decide +kernel
set_option maxHeartbeats 4000000 in
set_option maxRecDepth 100000 in
theorem uX6_load_24 (C : CX D [(cA, .int)] p s m args meth c A cX6_load 2 RX6 (some .int)) (t0 : Int32) (S : St) : RU D (wX a cA) p l e 2 s m args below meth c A 2 (QI D (wX a cA) [(cA, .int)] A) (fX6_load_24 t0 S) 24 [.int t0] [] S := by
  unfold fX6_load_24
  exact R_reti C dX6_load_24
set_option maxHeartbeats 4000000 in
set_option maxRecDepth 100000 in
theorem uX6_load (C : CX D [(cA, .int)] p s m args meth c A cX6_load 2 RX6 (some .int)) (v1 : Int32) (S : St) : RU D (wX a cA) p l e 2 s m args below meth c A 2 (QI D (wX a cA) [(cA, .int)] A) (fX6_load v1 S) 0 [] [(0, .ref (a 0)), (1, .int v1)] S := by
  unfold fX6_load
  refine R_aload_n C dX6_load_0 rfl 0 rfl ?_
  refine gtX_X6_net C wd_1_205 dX6_load_1 ?_
  refine R_iload_n C dX6_load_4 rfl 1 rfl ?_
  refine R_calli (As := [.int v1]) (st := []) C (kX4_hasHost l D a cA S v1) (by decide) (by decide) wd_2_116 kwX4_hasHost 1 rfl rfl rfl rfl (Nat.le_of_ble_eq_true rfl) dX6_load_5 (fun r1 S2 => ?_)
  refine R_if_eq (tgt := 23) C dX6_load_8 (by decide) ?_ ?_
  · refine R_iconst (v := (-1 : Int32)) C dX6_load_23 (by decide) ?_
    refine R_sub [] rfl ?_
    exact uX6_load_24 C (-1 : Int32) S2
  · refine R_aload_n C dX6_load_11 rfl 0 rfl ?_
    refine gtX_X6_net C wd_1_205 dX6_load_12 ?_
    refine gtX_X4_loads C wd_1_48 dX6_load_15 ?_
    refine R_iload_n C dX6_load_18 rfl 1 rfl ?_
    refine ldX4 C dX6_load_19 ?_
    refine R_goto (tgt := 24) C dX6_load_20 (by decide) ?_
    refine R_sub [] rfl ?_
    exact uX6_load_24 C (S2.2 4 (ix v1)) S2
set_option maxHeartbeats 4000000 in
set_option maxRecDepth 100000 in
theorem kX6_load (l : Launch) (D : va_G) (a : Nat → Nat) (cA : ClassId) (S : St) (v1 : Int32) : CI l D (wX a cA) [(cA, .int)] yX6_load (.code yX6_load cX6_load 2 (some .int)) 2 [.ref (a 0), .int v1] (fX6_load v1 S) S := CI_of rfl (Nat.le_of_ble_eq_true rfl) (fun p e s m args below meth c A C => uX6_load C v1 S)
theorem dX6_copies_0 : decode cX6_copies 0 = .ok (.iload_n 1, 1) := by decide +kernel
theorem dX6_copies_1 : decode cX6_copies 1 = .ok (.invokestatic 68, 3) := by decide +kernel
theorem dX6_copies_4 : decode cX6_copies 4 = .ok (.ifCond .eq 15, 3) := by decide +kernel
theorem dX6_copies_7 : decode cX6_copies 7 = .ok (.aload_n 0, 1) := by decide +kernel
theorem dX6_copies_8 : decode cX6_copies 8 = .ok (.getfield 23, 3) := by decide +kernel
theorem dX6_copies_11 : decode cX6_copies 11 = .ok (.getfield 130, 3) := by decide +kernel
theorem dX6_copies_14 : decode cX6_copies 14 = .ok (.iload_n 1, 1) := by decide +kernel
theorem dX6_copies_15 : decode cX6_copies 15 = .ok (.iaload, 1) := by decide +kernel
theorem dX6_copies_16 : decode cX6_copies 16 = .ok (.goto 4, 3) := by decide +kernel
theorem dX6_copies_19 : decode cX6_copies 19 = .ok (.iconst (-1), 1) := by decide +kernel
theorem dX6_copies_20 : decode cX6_copies 20 = .ok (.ireturn, 1) := by decide +kernel
set_option maxHeartbeats 4000000 in
set_option maxRecDepth 100000 in
theorem uX6_copies_20 (C : CX D [(cA, .int)] p s m args meth c A cX6_copies 2 RX6 (some .int)) (t0 : Int32) (S : St) : RU D (wX a cA) p l e 2 s m args below meth c A 2 (QI D (wX a cA) [(cA, .int)] A) (fX6_copies_20 t0 S) 20 [.int t0] [] S := by
  unfold fX6_copies_20
  exact R_reti C dX6_copies_20
set_option maxHeartbeats 4000000 in
set_option maxRecDepth 100000 in
theorem uX6_copies (C : CX D [(cA, .int)] p s m args meth c A cX6_copies 2 RX6 (some .int)) (v1 : Int32) (S : St) : RU D (wX a cA) p l e 2 s m args below meth c A 2 (QI D (wX a cA) [(cA, .int)] A) (fX6_copies v1 S) 0 [] [(0, .ref (a 0)), (1, .int v1)] S := by
  unfold fX6_copies
  refine R_iload_n C dX6_copies_0 rfl 1 rfl ?_
  refine R_calls (As := [.int v1]) (st := []) C (kX6_isPoint l D a cA S v1) (by decide) (by decide) wd_1_237 kwX6_isPoint rfl rfl (Nat.le_of_ble_eq_true rfl) dX6_copies_1 (fun r1 S2 => ?_)
  refine R_if_eq (tgt := 19) C dX6_copies_4 (by decide) ?_ ?_
  · refine R_iconst (v := (-1 : Int32)) C dX6_copies_19 (by decide) ?_
    refine R_sub [] rfl ?_
    exact uX6_copies_20 C (-1 : Int32) S2
  · refine R_aload_n C dX6_copies_7 rfl 0 rfl ?_
    refine gtX_X6_net C wd_1_205 dX6_copies_8 ?_
    refine gtX_X4_copyBits C wd_1_54 dX6_copies_11 ?_
    refine R_iload_n C dX6_copies_14 rfl 1 rfl ?_
    refine ldX6 C dX6_copies_15 ?_
    refine R_goto (tgt := 20) C dX6_copies_16 (by decide) ?_
    refine R_sub [] rfl ?_
    exact uX6_copies_20 C (S2.2 6 (ix v1)) S2
set_option maxHeartbeats 4000000 in
set_option maxRecDepth 100000 in
theorem kX6_copies (l : Launch) (D : va_G) (a : Nat → Nat) (cA : ClassId) (S : St) (v1 : Int32) : CI l D (wX a cA) [(cA, .int)] yX6_copies (.code yX6_copies cX6_copies 2 (some .int)) 2 [.ref (a 0), .int v1] (fX6_copies v1 S) S := CI_of rfl (Nat.le_of_ble_eq_true rfl) (fun p e s m args below meth c A C => uX6_copies C v1 S)
theorem dX6_all_0 : decode cX6_all 0 = .ok (.aload_n 0, 1) := by decide +kernel
theorem dX6_all_1 : decode cX6_all 1 = .ok (.getfield 23, 3) := by decide +kernel
theorem dX6_all_4 : decode cX6_all 4 = .ok (.getfield 133, 3) := by decide +kernel
theorem dX6_all_7 : decode cX6_all 7 = .ok (.ireturn, 1) := by decide +kernel
set_option maxHeartbeats 4000000 in
set_option maxRecDepth 100000 in
theorem uX6_all (C : CX D [(cA, .int)] p s m args meth c A cX6_all 1 RX6 (some .int)) (S : St) : RU D (wX a cA) p l e 1 s m args below meth c A 1 (QI D (wX a cA) [(cA, .int)] A) (fX6_all S) 0 [] [(0, .ref (a 0))] S := by
  unfold fX6_all
  refine R_aload_n C dX6_all_0 rfl 0 rfl ?_
  refine gtX_X6_net C wd_1_205 dX6_all_1 ?_
  refine gtX_X4_allCopies C wd_1_72 dX6_all_4 ?_
  exact R_reti C dX6_all_7
set_option maxHeartbeats 4000000 in
set_option maxRecDepth 100000 in
theorem kX6_all (l : Launch) (D : va_G) (a : Nat → Nat) (cA : ClassId) (S : St) : CI l D (wX a cA) [(cA, .int)] yX6_all (.code yX6_all cX6_all 1 (some .int)) 1 [.ref (a 0)] (fX6_all S) S := CI_of rfl (Nat.le_of_ble_eq_true rfl) (fun p e s m args below meth c A C => uX6_all C S)
theorem dX6_degree_0 : decode cX6_degree 0 = .ok (.iload_n 1, 1) := by decide +kernel
theorem dX6_degree_1 : decode cX6_degree 1 = .ok (.invokestatic 68, 3) := by decide +kernel
theorem dX6_degree_4 : decode cX6_degree 4 = .ok (.ifCond .eq 15, 3) := by decide +kernel
theorem dX6_degree_7 : decode cX6_degree 7 = .ok (.aload_n 0, 1) := by decide +kernel
theorem dX6_degree_8 : decode cX6_degree 8 = .ok (.getfield 23, 3) := by decide +kernel
theorem dX6_degree_11 : decode cX6_degree 11 = .ok (.getfield 136, 3) := by decide +kernel
theorem dX6_degree_14 : decode cX6_degree 14 = .ok (.iload_n 1, 1) := by decide +kernel
theorem dX6_degree_15 : decode cX6_degree 15 = .ok (.iaload, 1) := by decide +kernel
theorem dX6_degree_16 : decode cX6_degree 16 = .ok (.goto 4, 3) := by decide +kernel
theorem dX6_degree_19 : decode cX6_degree 19 = .ok (.iconst (-1), 1) := by decide +kernel
theorem dX6_degree_20 : decode cX6_degree 20 = .ok (.ireturn, 1) := by decide +kernel
set_option maxHeartbeats 4000000 in
set_option maxRecDepth 100000 in
theorem uX6_degree_20 (C : CX D [(cA, .int)] p s m args meth c A cX6_degree 2 RX6 (some .int)) (t0 : Int32) (S : St) : RU D (wX a cA) p l e 2 s m args below meth c A 2 (QI D (wX a cA) [(cA, .int)] A) (fX6_degree_20 t0 S) 20 [.int t0] [] S := by
  unfold fX6_degree_20
  exact R_reti C dX6_degree_20
set_option maxHeartbeats 4000000 in
set_option maxRecDepth 100000 in
theorem uX6_degree (C : CX D [(cA, .int)] p s m args meth c A cX6_degree 2 RX6 (some .int)) (v1 : Int32) (S : St) : RU D (wX a cA) p l e 2 s m args below meth c A 2 (QI D (wX a cA) [(cA, .int)] A) (fX6_degree v1 S) 0 [] [(0, .ref (a 0)), (1, .int v1)] S := by
  unfold fX6_degree
  refine R_iload_n C dX6_degree_0 rfl 1 rfl ?_
  refine R_calls (As := [.int v1]) (st := []) C (kX6_isPoint l D a cA S v1) (by decide) (by decide) wd_1_237 kwX6_isPoint rfl rfl (Nat.le_of_ble_eq_true rfl) dX6_degree_1 (fun r1 S2 => ?_)
  refine R_if_eq (tgt := 19) C dX6_degree_4 (by decide) ?_ ?_
  · refine R_iconst (v := (-1 : Int32)) C dX6_degree_19 (by decide) ?_
    refine R_sub [] rfl ?_
    exact uX6_degree_20 C (-1 : Int32) S2
  · refine R_aload_n C dX6_degree_7 rfl 0 rfl ?_
    refine gtX_X6_net C wd_1_205 dX6_degree_8 ?_
    refine gtX_X4_degrees C wd_1_52 dX6_degree_11 ?_
    refine R_iload_n C dX6_degree_14 rfl 1 rfl ?_
    refine ldX5 C dX6_degree_15 ?_
    refine R_goto (tgt := 20) C dX6_degree_16 (by decide) ?_
    refine R_sub [] rfl ?_
    exact uX6_degree_20 C (S2.2 5 (ix v1)) S2
set_option maxHeartbeats 4000000 in
set_option maxRecDepth 100000 in
theorem kX6_degree (l : Launch) (D : va_G) (a : Nat → Nat) (cA : ClassId) (S : St) (v1 : Int32) : CI l D (wX a cA) [(cA, .int)] yX6_degree (.code yX6_degree cX6_degree 2 (some .int)) 2 [.ref (a 0), .int v1] (fX6_degree v1 S) S := CI_of rfl (Nat.le_of_ble_eq_true rfl) (fun p e s m args below meth c A C => uX6_degree C v1 S)
theorem dX6_room_0 : decode cX6_room 0 = .ok (.aload_n 0, 1) := by decide +kernel
theorem dX6_room_1 : decode cX6_room 1 = .ok (.getfield 32, 3) := by decide +kernel
theorem dX6_room_4 : decode cX6_room 4 = .ok (.aload_n 0, 1) := by decide +kernel
theorem dX6_room_5 : decode cX6_room 5 = .ok (.getfield 23, 3) := by decide +kernel
theorem dX6_room_8 : decode cX6_room 8 = .ok (.getfield 139, 3) := by decide +kernel
theorem dX6_room_11 : decode cX6_room 11 = .ok (.invokevirtual 142, 3) := by decide +kernel
theorem dX6_room_14 : decode cX6_room 14 = .ok (.ireturn, 1) := by decide +kernel
set_option maxHeartbeats 4000000 in
set_option maxRecDepth 100000 in
theorem uX6_room (C : CX D [(cA, .int)] p s m args meth c A cX6_room 1 RX6 (some .int)) (S : St) : RU D (wX a cA) p l e 2 s m args below meth c A 1 (QI D (wX a cA) [(cA, .int)] A) (fX6_room S) 0 [] [(0, .ref (a 0))] S := by
  unfold fX6_room
  refine R_aload_n C dX6_room_0 rfl 0 rfl ?_
  refine gtX_X6_dealing C wd_1_206 dX6_room_1 ?_
  refine R_aload_n C dX6_room_4 rfl 0 rfl ?_
  refine gtX_X6_net C wd_1_205 dX6_room_5 ?_
  refine gtX_X4_live C wd_1_69 dX6_room_8 ?_
  refine R_calli (As := [.int (S.1 4)]) (st := []) C (kX1_roomFor l D a cA S (S.1 4)) (by decide) (by decide) wd_2_88 kwX1_roomFor 2 rfl rfl rfl rfl (Nat.le_of_ble_eq_true rfl) dX6_room_11 (fun r1 S2 => ?_)
  exact R_reti C dX6_room_14
set_option maxHeartbeats 4000000 in
set_option maxRecDepth 100000 in
theorem kX6_room (l : Launch) (D : va_G) (a : Nat → Nat) (cA : ClassId) (S : St) : CI l D (wX a cA) [(cA, .int)] yX6_room (.code yX6_room cX6_room 1 (some .int)) 2 [.ref (a 0)] (fX6_room S) S := CI_of rfl (Nat.le_of_ble_eq_true rfl) (fun p e s m args below meth c A C => uX6_room C S)
theorem dX0_collectLines_0 : decode cX0_collectLines 0 = .ok (.aload_n 0, 1) := by decide +kernel
theorem dX0_collectLines_1 : decode cX0_collectLines 1 = .ok (.iconst 0, 1) := by decide +kernel
theorem dX0_collectLines_2 : decode cX0_collectLines 2 = .ok (.putfield 32, 3) := by decide +kernel
theorem dX0_collectLines_5 : decode cX0_collectLines 5 = .ok (.iconst 0, 1) := by decide +kernel
theorem dX0_collectLines_6 : decode cX0_collectLines 6 = .ok (.istore_n 1, 1) := by decide +kernel
theorem dX0_collectLines_7 : decode cX0_collectLines 7 = .ok (.iload_n 1, 1) := by decide +kernel
theorem dX0_collectLines_8 : decode cX0_collectLines 8 = .ok (.aload_n 0, 1) := by decide +kernel
theorem dX0_collectLines_9 : decode cX0_collectLines 9 = .ok (.getfield 21, 3) := by decide +kernel
theorem dX0_collectLines_12 : decode cX0_collectLines 12 = .ok (.getfield 42, 3) := by decide +kernel
theorem dX0_collectLines_15 : decode cX0_collectLines 15 = .ok (.if_icmp .ge 52, 3) := by decide +kernel
theorem dX0_collectLines_18 : decode cX0_collectLines 18 = .ok (.aload_n 0, 1) := by decide +kernel
theorem dX0_collectLines_19 : decode cX0_collectLines 19 = .ok (.getfield 32, 3) := by decide +kernel
theorem dX0_collectLines_22 : decode cX0_collectLines 22 = .ok (.aload_n 0, 1) := by decide +kernel
theorem dX0_collectLines_23 : decode cX0_collectLines 23 = .ok (.getfield 9, 3) := by decide +kernel
theorem dX0_collectLines_26 : decode cX0_collectLines 26 = .ok (.arraylength, 1) := by decide +kernel
theorem dX0_collectLines_27 : decode cX0_collectLines 27 = .ok (.if_icmp .ge 40, 3) := by decide +kernel
theorem dX0_collectLines_30 : decode cX0_collectLines 30 = .ok (.aload_n 0, 1) := by decide +kernel
theorem dX0_collectLines_31 : decode cX0_collectLines 31 = .ok (.getfield 21, 3) := by decide +kernel
theorem dX0_collectLines_34 : decode cX0_collectLines 34 = .ok (.iload_n 1, 1) := by decide +kernel
theorem dX0_collectLines_35 : decode cX0_collectLines 35 = .ok (.invokevirtual 47, 3) := by decide +kernel
theorem dX0_collectLines_38 : decode cX0_collectLines 38 = .ok (.ifCond .eq 23, 3) := by decide +kernel
theorem dX0_collectLines_41 : decode cX0_collectLines 41 = .ok (.aload_n 0, 1) := by decide +kernel
theorem dX0_collectLines_42 : decode cX0_collectLines 42 = .ok (.getfield 9, 3) := by decide +kernel
theorem dX0_collectLines_45 : decode cX0_collectLines 45 = .ok (.aload_n 0, 1) := by decide +kernel
theorem dX0_collectLines_46 : decode cX0_collectLines 46 = .ok (.getfield 32, 3) := by decide +kernel
theorem dX0_collectLines_49 : decode cX0_collectLines 49 = .ok (.iload_n 1, 1) := by decide +kernel
theorem dX0_collectLines_50 : decode cX0_collectLines 50 = .ok (.iastore, 1) := by decide +kernel
theorem dX0_collectLines_51 : decode cX0_collectLines 51 = .ok (.aload_n 0, 1) := by decide +kernel
theorem dX0_collectLines_52 : decode cX0_collectLines 52 = .ok (.dup, 1) := by decide +kernel
theorem dX0_collectLines_53 : decode cX0_collectLines 53 = .ok (.getfield 32, 3) := by decide +kernel
theorem dX0_collectLines_56 : decode cX0_collectLines 56 = .ok (.iconst 1, 1) := by decide +kernel
theorem dX0_collectLines_57 : decode cX0_collectLines 57 = .ok (.iadd, 1) := by decide +kernel
theorem dX0_collectLines_58 : decode cX0_collectLines 58 = .ok (.putfield 32, 3) := by decide +kernel
theorem dX0_collectLines_61 : decode cX0_collectLines 61 = .ok (.iinc 1 1, 3) := by decide +kernel
theorem dX0_collectLines_64 : decode cX0_collectLines 64 = .ok (.goto (-57), 3) := by decide +kernel
theorem dX0_collectLines_67 : decode cX0_collectLines 67 = .ok (.return_, 1) := by decide +kernel
set_option maxHeartbeats 4000000 in
set_option maxRecDepth 100000 in
theorem uX0_collectLines_67 (C : CX D [(cA, .int)] p s m args meth c A cX0_collectLines 2 RX0 none) (S : St) : RU D (wX a cA) p l e 2 s m args below meth c A 2 (QV D (wX a cA) [(cA, .int)] A) (fX0_collectLines_67 S) 67 [] [] S := by
  unfold fX0_collectLines_67
  exact R_retv C dX0_collectLines_67
set_option maxHeartbeats 4000000 in
set_option maxRecDepth 100000 in
theorem uX0_collectLines_61 (C : CX D [(cA, .int)] p s m args meth c A cX0_collectLines 2 RX0 none) (k7 : Int32 → St → Rs) (h7 : ∀ (v1 : Int32) (S : St), RU D (wX a cA) p l e 2 s m args below meth c A 2 (QV D (wX a cA) [(cA, .int)] A) (k7 v1 S) 7 [] [(0, .ref (a 4)), (1, .int v1)] S) (v1 : Int32) (S : St) : RU D (wX a cA) p l e 2 s m args below meth c A 2 (QV D (wX a cA) [(cA, .int)] A) (fX0_collectLines_61 k7 v1 S) 61 [] [(0, .ref (a 4)), (1, .int v1)] S := by
  unfold fX0_collectLines_61
  refine R_iinc (v := v1 + 1) (lv' := [(1, .int (v1 + 1)), (0, .ref (a 4))]) C dX0_collectLines_61 1 rfl rfl (by decide) rfl ?_
  refine R_goto (tgt := 7) C dX0_collectLines_64 (by decide) ?_
  refine R_sub [1, 0] rfl ?_
  exact h7 (v1 + 1) S
set_option maxHeartbeats 4000000 in
set_option maxRecDepth 100000 in
theorem uX0_collectLines_7_b (C : CX D [(cA, .int)] p s m args meth c A cX0_collectLines 2 RX0 none) (k7 : Int32 → St → Rs) (h7 : ∀ (v1 : Int32) (S : St), RU D (wX a cA) p l e 2 s m args below meth c A 2 (QV D (wX a cA) [(cA, .int)] A) (k7 v1 S) 7 [] [(0, .ref (a 4)), (1, .int v1)] S) (v1 : Int32) (S : St) : RU D (wX a cA) p l e 2 s m args below meth c A 2 (QV D (wX a cA) [(cA, .int)] A) (fX0_collectLines_7_b k7 v1 S) 7 [] [(0, .ref (a 4)), (1, .int v1)] S := by
  unfold fX0_collectLines_7_b
  refine R_iload_n C dX0_collectLines_7 rfl 1 rfl ?_
  refine R_aload_n C dX0_collectLines_8 rfl 0 rfl ?_
  refine gtX_X0_net C wd_1_149 dX0_collectLines_9 ?_
  refine gtX_X4_came C wd_1_65 dX0_collectLines_12 ?_
  refine R_icmp_ge (tgt := 67) C dX0_collectLines_15 (by decide) ?_ ?_
  · refine R_sub [] rfl ?_
    exact uX0_collectLines_67 C S
  · refine R_aload_n C dX0_collectLines_18 rfl 0 rfl ?_
    refine gtX_X0_size C wd_1_153 dX0_collectLines_19 ?_
    refine R_aload_n C dX0_collectLines_22 rfl 0 rfl ?_
    refine gtX_X0_lines C wd_1_150 dX0_collectLines_23 ?_
    refine lnX8 C dX0_collectLines_26 ?_
    refine R_icmp_ge (tgt := 67) C dX0_collectLines_27 (by decide) ?_ ?_
    · refine R_sub [] rfl ?_
      exact uX0_collectLines_67 C S
    · refine R_aload_n C dX0_collectLines_30 rfl 0 rfl ?_
      refine gtX_X0_net C wd_1_149 dX0_collectLines_31 ?_
      refine R_iload_n C dX0_collectLines_34 rfl 1 rfl ?_
      refine R_calli (As := [.int v1]) (st := []) C (kX4_isLive l D a cA S v1) (by decide) (by decide) wd_2_160 kwX4_isLive 1 rfl rfl rfl rfl (Nat.le_of_ble_eq_true rfl) dX0_collectLines_35 (fun r1 S2 => ?_)
      refine R_if_eq (tgt := 61) C dX0_collectLines_38 (by decide) ?_ ?_
      · exact uX0_collectLines_61 C k7 h7 v1 S2
      · refine R_aload_n C dX0_collectLines_41 rfl 0 rfl ?_
        refine gtX_X0_lines C wd_1_150 dX0_collectLines_42 ?_
        refine R_aload_n C dX0_collectLines_45 rfl 0 rfl ?_
        refine gtX_X0_size C wd_1_153 dX0_collectLines_46 ?_
        refine R_iload_n C dX0_collectLines_49 rfl 1 rfl ?_
        refine svX8 C dX0_collectLines_50 ?_
        refine R_letS (fun S3 => ?_)
        refine R_aload_n C dX0_collectLines_51 rfl 0 rfl ?_
        refine R_dup C dX0_collectLines_52 rfl ?_
        refine gtX_X0_size C wd_1_153 dX0_collectLines_53 ?_
        refine R_iconst (v := (1 : Int32)) C dX0_collectLines_56 (by decide) ?_
        refine R_iadd C dX0_collectLines_57 ?_
        refine ptX_X0_size C wd_1_153 dX0_collectLines_58 ?_
        refine R_letS (fun S4 => ?_)
        exact uX0_collectLines_61 C k7 h7 v1 S4
set_option maxHeartbeats 4000000 in
set_option maxRecDepth 100000 in
theorem uX0_collectLines_7 (C : CX D [(cA, .int)] p s m args meth c A cX0_collectLines 2 RX0 none) : ∀ (n : Nat) (v1 : Int32) (S : St), RU D (wX a cA) p l e 2 s m args below meth c A 2 (QV D (wX a cA) [(cA, .int)] A) (fX0_collectLines_7 n v1 S) 7 [] [(0, .ref (a 4)), (1, .int v1)] S := by
  intro n
  induction n with
  | zero => intro v1 S; exact R_none
  | succ n ih => intro v1 S; exact uX0_collectLines_7_b C _ ih v1 S
set_option maxHeartbeats 4000000 in
set_option maxRecDepth 100000 in
theorem uX0_collectLines (C : CX D [(cA, .int)] p s m args meth c A cX0_collectLines 2 RX0 none) (S : St) : RU D (wX a cA) p l e 2 s m args below meth c A 2 (QV D (wX a cA) [(cA, .int)] A) (fX0_collectLines S) 0 [] [(0, .ref (a 4))] S := by
  unfold fX0_collectLines
  refine R_aload_n C dX0_collectLines_0 rfl 0 rfl ?_
  refine R_iconst (v := (0 : Int32)) C dX0_collectLines_1 (by decide) ?_
  refine ptX_X0_size C wd_1_153 dX0_collectLines_2 ?_
  refine R_letS (fun S1 => ?_)
  refine R_iconst (v := (0 : Int32)) C dX0_collectLines_5 (by decide) ?_
  refine R_istore_n (lv' := [(1, .int (0 : Int32)), (0, .ref (a 4))]) C dX0_collectLines_6 rfl (by decide) rfl ?_
  refine R_sub [1, 0] rfl ?_
  exact uX0_collectLines_7 C FU (0 : Int32) S1
set_option maxHeartbeats 4000000 in
set_option maxRecDepth 100000 in
theorem kX0_collectLines (l : Launch) (D : va_G) (a : Nat → Nat) (cA : ClassId) (S : St) : CV l D (wX a cA) [(cA, .int)] yX0_collectLines (.code yX0_collectLines cX0_collectLines 2 none) 2 [.ref (a 4)] (fX0_collectLines S) S := CV_of rfl (Nat.le_of_ble_eq_true rfl) (fun p e s m args below meth c A C => uX0_collectLines C S)
theorem dX0_tryHost_0 : decode cX0_tryHost 0 = .ok (.aload_n 0, 1) := by decide +kernel
theorem dX0_tryHost_1 : decode cX0_tryHost 1 = .ok (.getfield 21, 3) := by decide +kernel
theorem dX0_tryHost_4 : decode cX0_tryHost 4 = .ok (.getfield 67, 3) := by decide +kernel
theorem dX0_tryHost_7 : decode cX0_tryHost 7 = .ok (.aload_n 0, 1) := by decide +kernel
theorem dX0_tryHost_8 : decode cX0_tryHost 8 = .ok (.getfield 9, 3) := by decide +kernel
theorem dX0_tryHost_11 : decode cX0_tryHost 11 = .ok (.iload_n 1, 1) := by decide +kernel
theorem dX0_tryHost_12 : decode cX0_tryHost 12 = .ok (.iaload, 1) := by decide +kernel
theorem dX0_tryHost_13 : decode cX0_tryHost 13 = .ok (.iaload, 1) := by decide +kernel
theorem dX0_tryHost_14 : decode cX0_tryHost 14 = .ok (.istore 5, 2) := by decide +kernel
theorem dX0_tryHost_16 : decode cX0_tryHost 16 = .ok (.aload_n 0, 1) := by decide +kernel
theorem dX0_tryHost_17 : decode cX0_tryHost 17 = .ok (.getfield 21, 3) := by decide +kernel
theorem dX0_tryHost_20 : decode cX0_tryHost 20 = .ok (.getfield 70, 3) := by decide +kernel
theorem dX0_tryHost_23 : decode cX0_tryHost 23 = .ok (.aload_n 0, 1) := by decide +kernel
theorem dX0_tryHost_24 : decode cX0_tryHost 24 = .ok (.getfield 9, 3) := by decide +kernel
theorem dX0_tryHost_27 : decode cX0_tryHost 27 = .ok (.iload_n 1, 1) := by decide +kernel
theorem dX0_tryHost_28 : decode cX0_tryHost 28 = .ok (.iaload, 1) := by decide +kernel
theorem dX0_tryHost_29 : decode cX0_tryHost 29 = .ok (.iaload, 1) := by decide +kernel
theorem dX0_tryHost_30 : decode cX0_tryHost 30 = .ok (.istore 6, 2) := by decide +kernel
theorem dX0_tryHost_32 : decode cX0_tryHost 32 = .ok (.aload_n 0, 1) := by decide +kernel
theorem dX0_tryHost_33 : decode cX0_tryHost 33 = .ok (.getfield 18, 3) := by decide +kernel
theorem dX0_tryHost_36 : decode cX0_tryHost 36 = .ok (.iload 5, 2) := by decide +kernel
theorem dX0_tryHost_38 : decode cX0_tryHost 38 = .ok (.iaload, 1) := by decide +kernel
theorem dX0_tryHost_39 : decode cX0_tryHost 39 = .ok (.istore 7, 2) := by decide +kernel
theorem dX0_tryHost_41 : decode cX0_tryHost 41 = .ok (.aload_n 0, 1) := by decide +kernel
theorem dX0_tryHost_42 : decode cX0_tryHost 42 = .ok (.getfield 18, 3) := by decide +kernel
theorem dX0_tryHost_45 : decode cX0_tryHost 45 = .ok (.iload 6, 2) := by decide +kernel
theorem dX0_tryHost_47 : decode cX0_tryHost 47 = .ok (.iaload, 1) := by decide +kernel
theorem dX0_tryHost_48 : decode cX0_tryHost 48 = .ok (.istore 8, 2) := by decide +kernel
theorem dX0_tryHost_50 : decode cX0_tryHost 50 = .ok (.aload_n 0, 1) := by decide +kernel
theorem dX0_tryHost_51 : decode cX0_tryHost 51 = .ok (.getfield 18, 3) := by decide +kernel
theorem dX0_tryHost_54 : decode cX0_tryHost 54 = .ok (.iload 5, 2) := by decide +kernel
theorem dX0_tryHost_56 : decode cX0_tryHost 56 = .ok (.iload 7, 2) := by decide +kernel
theorem dX0_tryHost_58 : decode cX0_tryHost 58 = .ok (.iconst 1, 1) := by decide +kernel
theorem dX0_tryHost_59 : decode cX0_tryHost 59 = .ok (.iload_n 3, 1) := by decide +kernel
theorem dX0_tryHost_60 : decode cX0_tryHost 60 = .ok (.ishl, 1) := by decide +kernel
theorem dX0_tryHost_61 : decode cX0_tryHost 61 = .ok (.ior, 1) := by decide +kernel
theorem dX0_tryHost_62 : decode cX0_tryHost 62 = .ok (.iastore, 1) := by decide +kernel
theorem dX0_tryHost_63 : decode cX0_tryHost 63 = .ok (.aload_n 0, 1) := by decide +kernel
theorem dX0_tryHost_64 : decode cX0_tryHost 64 = .ok (.getfield 18, 3) := by decide +kernel
theorem dX0_tryHost_67 : decode cX0_tryHost 67 = .ok (.iload 6, 2) := by decide +kernel
theorem dX0_tryHost_69 : decode cX0_tryHost 69 = .ok (.iload 8, 2) := by decide +kernel
theorem dX0_tryHost_71 : decode cX0_tryHost 71 = .ok (.iconst 1, 1) := by decide +kernel
theorem dX0_tryHost_72 : decode cX0_tryHost 72 = .ok (.iload_n 3, 1) := by decide +kernel
theorem dX0_tryHost_73 : decode cX0_tryHost 73 = .ok (.ishl, 1) := by decide +kernel
theorem dX0_tryHost_74 : decode cX0_tryHost 74 = .ok (.ior, 1) := by decide +kernel
theorem dX0_tryHost_75 : decode cX0_tryHost 75 = .ok (.iastore, 1) := by decide +kernel
theorem dX0_tryHost_76 : decode cX0_tryHost 76 = .ok (.aload_n 0, 1) := by decide +kernel
theorem dX0_tryHost_77 : decode cX0_tryHost 77 = .ok (.getfield 18, 3) := by decide +kernel
theorem dX0_tryHost_80 : decode cX0_tryHost 80 = .ok (.iload 5, 2) := by decide +kernel
theorem dX0_tryHost_82 : decode cX0_tryHost 82 = .ok (.iaload, 1) := by decide +kernel
theorem dX0_tryHost_83 : decode cX0_tryHost 83 = .ok (.iload 7, 2) := by decide +kernel
theorem dX0_tryHost_85 : decode cX0_tryHost 85 = .ok (.if_icmp .ne 7, 3) := by decide +kernel
theorem dX0_tryHost_88 : decode cX0_tryHost 88 = .ok (.iconst 0, 1) := by decide +kernel
theorem dX0_tryHost_89 : decode cX0_tryHost 89 = .ok (.goto 4, 3) := by decide +kernel
theorem dX0_tryHost_92 : decode cX0_tryHost 92 = .ok (.iconst 1, 1) := by decide +kernel
theorem dX0_tryHost_93 : decode cX0_tryHost 93 = .ok (.aload_n 0, 1) := by decide +kernel
theorem dX0_tryHost_94 : decode cX0_tryHost 94 = .ok (.getfield 18, 3) := by decide +kernel
theorem dX0_tryHost_97 : decode cX0_tryHost 97 = .ok (.iload 6, 2) := by decide +kernel
theorem dX0_tryHost_99 : decode cX0_tryHost 99 = .ok (.iaload, 1) := by decide +kernel
theorem dX0_tryHost_100 : decode cX0_tryHost 100 = .ok (.iload 8, 2) := by decide +kernel
theorem dX0_tryHost_102 : decode cX0_tryHost 102 = .ok (.if_icmp .ne 7, 3) := by decide +kernel
theorem dX0_tryHost_105 : decode cX0_tryHost 105 = .ok (.iconst 0, 1) := by decide +kernel
theorem dX0_tryHost_106 : decode cX0_tryHost 106 = .ok (.goto 4, 3) := by decide +kernel
theorem dX0_tryHost_109 : decode cX0_tryHost 109 = .ok (.iconst 1, 1) := by decide +kernel
theorem dX0_tryHost_110 : decode cX0_tryHost 110 = .ok (.iadd, 1) := by decide +kernel
theorem dX0_tryHost_111 : decode cX0_tryHost 111 = .ok (.istore 9, 2) := by decide +kernel
theorem dX0_tryHost_113 : decode cX0_tryHost 113 = .ok (.aload_n 0, 1) := by decide +kernel
theorem dX0_tryHost_114 : decode cX0_tryHost 114 = .ok (.getfield 15, 3) := by decide +kernel
theorem dX0_tryHost_117 : decode cX0_tryHost 117 = .ok (.iload_n 3, 1) := by decide +kernel
theorem dX0_tryHost_118 : decode cX0_tryHost 118 = .ok (.dup2, 1) := by decide +kernel
theorem dX0_tryHost_119 : decode cX0_tryHost 119 = .ok (.iaload, 1) := by decide +kernel
theorem dX0_tryHost_120 : decode cX0_tryHost 120 = .ok (.iconst 1, 1) := by decide +kernel
theorem dX0_tryHost_121 : decode cX0_tryHost 121 = .ok (.iadd, 1) := by decide +kernel
theorem dX0_tryHost_122 : decode cX0_tryHost 122 = .ok (.iastore, 1) := by decide +kernel
theorem dX0_tryHost_123 : decode cX0_tryHost 123 = .ok (.aload_n 0, 1) := by decide +kernel
theorem dX0_tryHost_124 : decode cX0_tryHost 124 = .ok (.iload_n 1, 1) := by decide +kernel
theorem dX0_tryHost_125 : decode cX0_tryHost 125 = .ok (.iconst 1, 1) := by decide +kernel
theorem dX0_tryHost_126 : decode cX0_tryHost 126 = .ok (.iadd, 1) := by decide +kernel
theorem dX0_tryHost_127 : decode cX0_tryHost 127 = .ok (.iload_n 2, 1) := by decide +kernel
theorem dX0_tryHost_128 : decode cX0_tryHost 128 = .ok (.iload 9, 2) := by decide +kernel
theorem dX0_tryHost_130 : decode cX0_tryHost 130 = .ok (.iadd, 1) := by decide +kernel
theorem dX0_tryHost_131 : decode cX0_tryHost 131 = .ok (.iload 4, 2) := by decide +kernel
theorem dX0_tryHost_133 : decode cX0_tryHost 133 = .ok (.invokevirtual 38, 3) := by decide +kernel
theorem dX0_tryHost_136 : decode cX0_tryHost 136 = .ok (.aload_n 0, 1) := by decide +kernel
theorem dX0_tryHost_137 : decode cX0_tryHost 137 = .ok (.getfield 15, 3) := by decide +kernel
theorem dX0_tryHost_140 : decode cX0_tryHost 140 = .ok (.iload_n 3, 1) := by decide +kernel
theorem dX0_tryHost_141 : decode cX0_tryHost 141 = .ok (.dup2, 1) := by decide +kernel
theorem dX0_tryHost_142 : decode cX0_tryHost 142 = .ok (.iaload, 1) := by decide +kernel
theorem dX0_tryHost_143 : decode cX0_tryHost 143 = .ok (.iconst 1, 1) := by decide +kernel
theorem dX0_tryHost_144 : decode cX0_tryHost 144 = .ok (.isub, 1) := by decide +kernel
theorem dX0_tryHost_145 : decode cX0_tryHost 145 = .ok (.iastore, 1) := by decide +kernel
theorem dX0_tryHost_146 : decode cX0_tryHost 146 = .ok (.aload_n 0, 1) := by decide +kernel
theorem dX0_tryHost_147 : decode cX0_tryHost 147 = .ok (.getfield 18, 3) := by decide +kernel
theorem dX0_tryHost_150 : decode cX0_tryHost 150 = .ok (.iload 5, 2) := by decide +kernel
theorem dX0_tryHost_152 : decode cX0_tryHost 152 = .ok (.iload 7, 2) := by decide +kernel
theorem dX0_tryHost_154 : decode cX0_tryHost 154 = .ok (.iastore, 1) := by decide +kernel
theorem dX0_tryHost_155 : decode cX0_tryHost 155 = .ok (.aload_n 0, 1) := by decide +kernel
theorem dX0_tryHost_156 : decode cX0_tryHost 156 = .ok (.getfield 18, 3) := by decide +kernel
theorem dX0_tryHost_159 : decode cX0_tryHost 159 = .ok (.iload 6, 2) := by decide +kernel
theorem dX0_tryHost_161 : decode cX0_tryHost 161 = .ok (.iload 8, 2) := by decide +kernel
theorem dX0_tryHost_163 : decode cX0_tryHost 163 = .ok (.iastore, 1) := by decide +kernel
theorem dX0_tryHost_164 : decode cX0_tryHost 164 = .ok (.return_, 1) := by decide +kernel
set_option maxHeartbeats 4000000 in
set_option maxRecDepth 100000 in
theorem uX0_tryHost_110 {dd : Nat} (kr : Int32 → Int32 → Int32 → St → Rs) (hkr : ∀ (v1 v2 v3 : Int32) (S : St), CV l D (wX a cA) [(cA, .int)] yX0_dealFrom (.code yX0_dealFrom cX0_dealFrom 6 none) dd [.ref (a 4), .int v1, .int v2, .int v3] (kr v1 v2 v3 S) S) (C : CX D [(cA, .int)] p s m args meth c A cX0_tryHost 10 RX0 none) (v1 v2 v3 v4 v5 v6 v7 v8 t0 t1 : Int32) (S : St) : RU D (wX a cA) p l e (dd + 1) s m args below meth c A 10 (QV D (wX a cA) [(cA, .int)] A) (fX0_tryHost_110 kr v1 v2 v3 v4 v5 v6 v7 v8 t0 t1 S) 110 [.int t0, .int t1] [(0, .ref (a 4)), (1, .int v1), (2, .int v2), (3, .int v3), (4, .int v4), (5, .int v5), (6, .int v6), (7, .int v7), (8, .int v8)] S := by
  unfold fX0_tryHost_110
  refine R_iadd C dX0_tryHost_110 ?_
  refine R_let (fun x1 => ?_)
  refine R_istore (lv' := [(9, .int x1), (0, .ref (a 4)), (1, .int v1), (2, .int v2), (3, .int v3), (4, .int v4), (5, .int v5), (6, .int v6), (7, .int v7), (8, .int v8)]) C dX0_tryHost_111 (by decide) rfl ?_
  refine R_aload_n C dX0_tryHost_113 rfl 1 rfl ?_
  refine gtX_X0_tryLoads C wd_1_151 dX0_tryHost_114 ?_
  refine R_iload_n C dX0_tryHost_117 rfl 4 rfl ?_
  refine R_dup2 C dX0_tryHost_118 rfl rfl ?_
  refine ldX9 C dX0_tryHost_119 ?_
  refine R_iconst (v := (1 : Int32)) C dX0_tryHost_120 (by decide) ?_
  refine R_iadd C dX0_tryHost_121 ?_
  refine svX9 C dX0_tryHost_122 ?_
  refine R_letS (fun S2 => ?_)
  refine R_aload_n C dX0_tryHost_123 rfl 1 rfl ?_
  refine R_iload_n C dX0_tryHost_124 rfl 2 rfl ?_
  refine R_iconst (v := (1 : Int32)) C dX0_tryHost_125 (by decide) ?_
  refine R_iadd C dX0_tryHost_126 ?_
  refine R_iload_n C dX0_tryHost_127 rfl 3 rfl ?_
  refine R_iload C dX0_tryHost_128 0 rfl ?_
  refine R_iadd C dX0_tryHost_130 ?_
  refine R_iload C dX0_tryHost_131 5 rfl ?_
  refine R_callv (As := [.int (v1 + (1 : Int32)), .int (v2 + x1), .int v4]) (st := []) C (hkr (v1 + (1 : Int32)) (v2 + x1) v4 S2) (Nat.le_refl _) (by decide) wd_2_161 kwX0_dealFrom 4 rfl rfl rfl rfl (Nat.le_of_ble_eq_true rfl) dX0_tryHost_133 (fun r3 S4 => ?_)
  refine R_aload_n C dX0_tryHost_136 rfl 1 rfl ?_
  refine gtX_X0_tryLoads C wd_1_151 dX0_tryHost_137 ?_
  refine R_iload_n C dX0_tryHost_140 rfl 4 rfl ?_
  refine R_dup2 C dX0_tryHost_141 rfl rfl ?_
  refine ldX9 C dX0_tryHost_142 ?_
  refine R_iconst (v := (1 : Int32)) C dX0_tryHost_143 (by decide) ?_
  refine R_isub C dX0_tryHost_144 ?_
  refine svX9 C dX0_tryHost_145 ?_
  refine R_letS (fun S5 => ?_)
  refine R_aload_n C dX0_tryHost_146 rfl 1 rfl ?_
  refine gtX_X0_tryBits C wd_1_152 dX0_tryHost_147 ?_
  refine R_iload C dX0_tryHost_150 6 rfl ?_
  refine R_iload C dX0_tryHost_152 8 rfl ?_
  refine svX10 C dX0_tryHost_154 ?_
  refine R_letS (fun S6 => ?_)
  refine R_aload_n C dX0_tryHost_155 rfl 1 rfl ?_
  refine gtX_X0_tryBits C wd_1_152 dX0_tryHost_156 ?_
  refine R_iload C dX0_tryHost_159 7 rfl ?_
  refine R_iload C dX0_tryHost_161 9 rfl ?_
  refine svX10 C dX0_tryHost_163 ?_
  refine R_letS (fun S7 => ?_)
  exact R_retv C dX0_tryHost_164
set_option maxHeartbeats 4000000 in
set_option maxRecDepth 100000 in
theorem uX0_tryHost_93 {dd : Nat} (kr : Int32 → Int32 → Int32 → St → Rs) (hkr : ∀ (v1 v2 v3 : Int32) (S : St), CV l D (wX a cA) [(cA, .int)] yX0_dealFrom (.code yX0_dealFrom cX0_dealFrom 6 none) dd [.ref (a 4), .int v1, .int v2, .int v3] (kr v1 v2 v3 S) S) (C : CX D [(cA, .int)] p s m args meth c A cX0_tryHost 10 RX0 none) (v1 v2 v3 v4 v5 v6 v7 v8 t0 : Int32) (S : St) : RU D (wX a cA) p l e (dd + 1) s m args below meth c A 10 (QV D (wX a cA) [(cA, .int)] A) (fX0_tryHost_93 kr v1 v2 v3 v4 v5 v6 v7 v8 t0 S) 93 [.int t0] [(0, .ref (a 4)), (1, .int v1), (2, .int v2), (3, .int v3), (4, .int v4), (5, .int v5), (6, .int v6), (7, .int v7), (8, .int v8)] S := by
  unfold fX0_tryHost_93
  refine R_aload_n C dX0_tryHost_93 rfl 0 rfl ?_
  refine gtX_X0_tryBits C wd_1_152 dX0_tryHost_94 ?_
  refine R_iload C dX0_tryHost_97 6 rfl ?_
  refine ldX10 C dX0_tryHost_99 ?_
  refine R_iload C dX0_tryHost_100 8 rfl ?_
  refine R_icmp_ne (tgt := 109) C dX0_tryHost_102 (by decide) ?_ ?_
  · refine R_iconst (v := (0 : Int32)) C dX0_tryHost_105 (by decide) ?_
    refine R_goto (tgt := 110) C dX0_tryHost_106 (by decide) ?_
    exact uX0_tryHost_110 kr hkr C v1 v2 v3 v4 v5 v6 v7 v8 (0 : Int32) t0 S
  · refine R_iconst (v := (1 : Int32)) C dX0_tryHost_109 (by decide) ?_
    exact uX0_tryHost_110 kr hkr C v1 v2 v3 v4 v5 v6 v7 v8 (1 : Int32) t0 S
set_option maxHeartbeats 4000000 in
set_option maxRecDepth 100000 in
theorem uX0_tryHost {dd : Nat} (kr : Int32 → Int32 → Int32 → St → Rs) (hkr : ∀ (v1 v2 v3 : Int32) (S : St), CV l D (wX a cA) [(cA, .int)] yX0_dealFrom (.code yX0_dealFrom cX0_dealFrom 6 none) dd [.ref (a 4), .int v1, .int v2, .int v3] (kr v1 v2 v3 S) S) (C : CX D [(cA, .int)] p s m args meth c A cX0_tryHost 10 RX0 none) (v1 v2 v3 v4 : Int32) (S : St) : RU D (wX a cA) p l e (dd + 1) s m args below meth c A 10 (QV D (wX a cA) [(cA, .int)] A) (fX0_tryHost_s kr v1 v2 v3 v4 S) 0 [] [(0, .ref (a 4)), (1, .int v1), (2, .int v2), (3, .int v3), (4, .int v4)] S := by
  unfold fX0_tryHost_s
  refine R_aload_n C dX0_tryHost_0 rfl 0 rfl ?_
  refine gtX_X0_net C wd_1_149 dX0_tryHost_1 ?_
  refine gtX_X4_firstEnd C wd_1_36 dX0_tryHost_4 ?_
  refine R_aload_n C dX0_tryHost_7 rfl 0 rfl ?_
  refine gtX_X0_lines C wd_1_150 dX0_tryHost_8 ?_
  refine R_iload_n C dX0_tryHost_11 rfl 1 rfl ?_
  refine ldX8 C dX0_tryHost_12 ?_
  refine ldX1 C dX0_tryHost_13 ?_
  refine R_let (fun x1 => ?_)
  refine R_istore (lv' := [(5, .int x1), (0, .ref (a 4)), (1, .int v1), (2, .int v2), (3, .int v3), (4, .int v4)]) C dX0_tryHost_14 (by decide) rfl ?_
  refine R_aload_n C dX0_tryHost_16 rfl 1 rfl ?_
  refine gtX_X0_net C wd_1_149 dX0_tryHost_17 ?_
  refine gtX_X4_secondEnd C wd_1_41 dX0_tryHost_20 ?_
  refine R_aload_n C dX0_tryHost_23 rfl 1 rfl ?_
  refine gtX_X0_lines C wd_1_150 dX0_tryHost_24 ?_
  refine R_iload_n C dX0_tryHost_27 rfl 2 rfl ?_
  refine ldX8 C dX0_tryHost_28 ?_
  refine ldX2 C dX0_tryHost_29 ?_
  refine R_let (fun x2 => ?_)
  refine R_istore (lv' := [(6, .int x2), (5, .int x1), (0, .ref (a 4)), (1, .int v1), (2, .int v2), (3, .int v3), (4, .int v4)]) C dX0_tryHost_30 (by decide) rfl ?_
  refine R_aload_n C dX0_tryHost_32 rfl 2 rfl ?_
  refine gtX_X0_tryBits C wd_1_152 dX0_tryHost_33 ?_
  refine R_iload C dX0_tryHost_36 1 rfl ?_
  refine ldX10 C dX0_tryHost_38 ?_
  refine R_let (fun x3 => ?_)
  refine R_istore (lv' := [(7, .int x3), (6, .int x2), (5, .int x1), (0, .ref (a 4)), (1, .int v1), (2, .int v2), (3, .int v3), (4, .int v4)]) C dX0_tryHost_39 (by decide) rfl ?_
  refine R_aload_n C dX0_tryHost_41 rfl 3 rfl ?_
  refine gtX_X0_tryBits C wd_1_152 dX0_tryHost_42 ?_
  refine R_iload C dX0_tryHost_45 1 rfl ?_
  refine ldX10 C dX0_tryHost_47 ?_
  refine R_let (fun x4 => ?_)
  refine R_istore (lv' := [(8, .int x4), (7, .int x3), (6, .int x2), (5, .int x1), (0, .ref (a 4)), (1, .int v1), (2, .int v2), (3, .int v3), (4, .int v4)]) C dX0_tryHost_48 (by decide) rfl ?_
  refine R_aload_n C dX0_tryHost_50 rfl 4 rfl ?_
  refine gtX_X0_tryBits C wd_1_152 dX0_tryHost_51 ?_
  refine R_iload C dX0_tryHost_54 3 rfl ?_
  refine R_iload C dX0_tryHost_56 1 rfl ?_
  refine R_iconst (v := (1 : Int32)) C dX0_tryHost_58 (by decide) ?_
  refine R_iload_n C dX0_tryHost_59 rfl 7 rfl ?_
  refine R_ishl C dX0_tryHost_60 ?_
  refine R_ior C dX0_tryHost_61 ?_
  refine svX10 C dX0_tryHost_62 ?_
  refine R_letS (fun S5 => ?_)
  refine R_aload_n C dX0_tryHost_63 rfl 4 rfl ?_
  refine gtX_X0_tryBits C wd_1_152 dX0_tryHost_64 ?_
  refine R_iload C dX0_tryHost_67 2 rfl ?_
  refine R_iload C dX0_tryHost_69 0 rfl ?_
  refine R_iconst (v := (1 : Int32)) C dX0_tryHost_71 (by decide) ?_
  refine R_iload_n C dX0_tryHost_72 rfl 7 rfl ?_
  refine R_ishl C dX0_tryHost_73 ?_
  refine R_ior C dX0_tryHost_74 ?_
  refine svX10 C dX0_tryHost_75 ?_
  refine R_letS (fun S6 => ?_)
  refine R_aload_n C dX0_tryHost_76 rfl 4 rfl ?_
  refine gtX_X0_tryBits C wd_1_152 dX0_tryHost_77 ?_
  refine R_iload C dX0_tryHost_80 3 rfl ?_
  refine ldX10 C dX0_tryHost_82 ?_
  refine R_iload C dX0_tryHost_83 1 rfl ?_
  refine R_icmp_ne (tgt := 92) C dX0_tryHost_85 (by decide) ?_ ?_
  · refine R_iconst (v := (0 : Int32)) C dX0_tryHost_88 (by decide) ?_
    refine R_goto (tgt := 93) C dX0_tryHost_89 (by decide) ?_
    refine R_sub [4, 5, 6, 7, 8, 3, 2, 1, 0] rfl ?_
    exact uX0_tryHost_93 kr hkr C v1 v2 v3 v4 x1 x2 x3 x4 (0 : Int32) S6
  · refine R_iconst (v := (1 : Int32)) C dX0_tryHost_92 (by decide) ?_
    refine R_sub [4, 5, 6, 7, 8, 3, 2, 1, 0] rfl ?_
    exact uX0_tryHost_93 kr hkr C v1 v2 v3 v4 x1 x2 x3 x4 (1 : Int32) S6
theorem dX0_dealFrom_0 : decode cX0_dealFrom 0 = .ok (.iload_n 2, 1) := by decide +kernel
theorem dX0_dealFrom_1 : decode cX0_dealFrom 1 = .ok (.aload_n 0, 1) := by decide +kernel
theorem dX0_dealFrom_2 : decode cX0_dealFrom 2 = .ok (.getfield 35, 3) := by decide +kernel
theorem dX0_dealFrom_5 : decode cX0_dealFrom 5 = .ok (.if_icmp .lt 4, 3) := by decide +kernel
theorem dX0_dealFrom_8 : decode cX0_dealFrom 8 = .ok (.return_, 1) := by decide +kernel
theorem dX0_dealFrom_9 : decode cX0_dealFrom 9 = .ok (.iload_n 1, 1) := by decide +kernel
theorem dX0_dealFrom_10 : decode cX0_dealFrom 10 = .ok (.aload_n 0, 1) := by decide +kernel
theorem dX0_dealFrom_11 : decode cX0_dealFrom 11 = .ok (.getfield 32, 3) := by decide +kernel
theorem dX0_dealFrom_14 : decode cX0_dealFrom 14 = .ok (.if_icmp .lt 9, 3) := by decide +kernel
theorem dX0_dealFrom_17 : decode cX0_dealFrom 17 = .ok (.aload_n 0, 1) := by decide +kernel
theorem dX0_dealFrom_18 : decode cX0_dealFrom 18 = .ok (.iload_n 2, 1) := by decide +kernel
theorem dX0_dealFrom_19 : decode cX0_dealFrom 19 = .ok (.putfield 35, 3) := by decide +kernel
theorem dX0_dealFrom_22 : decode cX0_dealFrom 22 = .ok (.return_, 1) := by decide +kernel
theorem dX0_dealFrom_23 : decode cX0_dealFrom 23 = .ok (.iload_n 3, 1) := by decide +kernel
theorem dX0_dealFrom_24 : decode cX0_dealFrom 24 = .ok (.iconst 1, 1) := by decide +kernel
theorem dX0_dealFrom_25 : decode cX0_dealFrom 25 = .ok (.iadd, 1) := by decide +kernel
theorem dX0_dealFrom_26 : decode cX0_dealFrom 26 = .ok (.aload_n 0, 1) := by decide +kernel
theorem dX0_dealFrom_27 : decode cX0_dealFrom 27 = .ok (.getfield 21, 3) := by decide +kernel
theorem dX0_dealFrom_30 : decode cX0_dealFrom 30 = .ok (.getfield 51, 3) := by decide +kernel
theorem dX0_dealFrom_33 : decode cX0_dealFrom 33 = .ok (.aload_n 0, 1) := by decide +kernel
theorem dX0_dealFrom_34 : decode cX0_dealFrom 34 = .ok (.getfield 15, 3) := by decide +kernel
theorem dX0_dealFrom_37 : decode cX0_dealFrom 37 = .ok (.arraylength, 1) := by decide +kernel
theorem dX0_dealFrom_38 : decode cX0_dealFrom 38 = .ok (.invokestatic 54, 3) := by decide +kernel
theorem dX0_dealFrom_41 : decode cX0_dealFrom 41 = .ok (.invokestatic 54, 3) := by decide +kernel
theorem dX0_dealFrom_44 : decode cX0_dealFrom 44 = .ok (.istore 4, 2) := by decide +kernel
theorem dX0_dealFrom_46 : decode cX0_dealFrom 46 = .ok (.iconst 0, 1) := by decide +kernel
theorem dX0_dealFrom_47 : decode cX0_dealFrom 47 = .ok (.istore 5, 2) := by decide +kernel
theorem dX0_dealFrom_49 : decode cX0_dealFrom 49 = .ok (.iload 5, 2) := by decide +kernel
theorem dX0_dealFrom_51 : decode cX0_dealFrom 51 = .ok (.iload 4, 2) := by decide +kernel
theorem dX0_dealFrom_53 : decode cX0_dealFrom 53 = .ok (.if_icmp .ge 39, 3) := by decide +kernel
theorem dX0_dealFrom_56 : decode cX0_dealFrom 56 = .ok (.aload_n 0, 1) := by decide +kernel
theorem dX0_dealFrom_57 : decode cX0_dealFrom 57 = .ok (.getfield 15, 3) := by decide +kernel
theorem dX0_dealFrom_60 : decode cX0_dealFrom 60 = .ok (.iload 5, 2) := by decide +kernel
theorem dX0_dealFrom_62 : decode cX0_dealFrom 62 = .ok (.iaload, 1) := by decide +kernel
theorem dX0_dealFrom_63 : decode cX0_dealFrom 63 = .ok (.aload_n 0, 1) := by decide +kernel
theorem dX0_dealFrom_64 : decode cX0_dealFrom 64 = .ok (.getfield 28, 3) := by decide +kernel
theorem dX0_dealFrom_67 : decode cX0_dealFrom 67 = .ok (.if_icmp .ge 19, 3) := by decide +kernel
theorem dX0_dealFrom_70 : decode cX0_dealFrom 70 = .ok (.aload_n 0, 1) := by decide +kernel
theorem dX0_dealFrom_71 : decode cX0_dealFrom 71 = .ok (.iload_n 1, 1) := by decide +kernel
theorem dX0_dealFrom_72 : decode cX0_dealFrom 72 = .ok (.iload_n 2, 1) := by decide +kernel
theorem dX0_dealFrom_73 : decode cX0_dealFrom 73 = .ok (.iload 5, 2) := by decide +kernel
theorem dX0_dealFrom_75 : decode cX0_dealFrom 75 = .ok (.iload_n 3, 1) := by decide +kernel
theorem dX0_dealFrom_76 : decode cX0_dealFrom 76 = .ok (.iload 5, 2) := by decide +kernel
theorem dX0_dealFrom_78 : decode cX0_dealFrom 78 = .ok (.iconst 1, 1) := by decide +kernel
theorem dX0_dealFrom_79 : decode cX0_dealFrom 79 = .ok (.iadd, 1) := by decide +kernel
theorem dX0_dealFrom_80 : decode cX0_dealFrom 80 = .ok (.invokestatic 60, 3) := by decide +kernel
theorem dX0_dealFrom_83 : decode cX0_dealFrom 83 = .ok (.invokevirtual 63, 3) := by decide +kernel
theorem dX0_dealFrom_86 : decode cX0_dealFrom 86 = .ok (.iinc 5 1, 3) := by decide +kernel
theorem dX0_dealFrom_89 : decode cX0_dealFrom 89 = .ok (.goto (-40), 3) := by decide +kernel
theorem dX0_dealFrom_92 : decode cX0_dealFrom 92 = .ok (.return_, 1) := by decide +kernel
set_option maxHeartbeats 4000000 in
set_option maxRecDepth 100000 in
theorem uX0_dealFrom_86 {dd : Nat} (kr : Int32 → Int32 → Int32 → Int32 → St → Rs) (hkr : ∀ (v1 v2 v3 v4 : Int32) (S : St), CV l D (wX a cA) [(cA, .int)] yX0_tryHost (.code yX0_tryHost cX0_tryHost 10 none) dd [.ref (a 4), .int v1, .int v2, .int v3, .int v4] (kr v1 v2 v3 v4 S) S) (C : CX D [(cA, .int)] p s m args meth c A cX0_dealFrom 6 RX0 none) (k49 : Int32 → Int32 → Int32 → Int32 → Int32 → St → Rs) (h49 : ∀ (v1 v2 v3 v4 v5 : Int32) (S : St), RU D (wX a cA) p l e (dd + 1) s m args below meth c A 6 (QV D (wX a cA) [(cA, .int)] A) (k49 v1 v2 v3 v4 v5 S) 49 [] [(0, .ref (a 4)), (1, .int v1), (2, .int v2), (3, .int v3), (4, .int v4), (5, .int v5)] S) (v1 v2 v3 v4 v5 : Int32) (S : St) : RU D (wX a cA) p l e (dd + 1) s m args below meth c A 6 (QV D (wX a cA) [(cA, .int)] A) (fX0_dealFrom_86 kr k49 v1 v2 v3 v4 v5 S) 86 [] [(0, .ref (a 4)), (1, .int v1), (2, .int v2), (3, .int v3), (4, .int v4), (5, .int v5)] S := by
  unfold fX0_dealFrom_86
  refine R_iinc (v := v5 + 1) (lv' := [(5, .int (v5 + 1)), (0, .ref (a 4)), (1, .int v1), (2, .int v2), (3, .int v3), (4, .int v4)]) C dX0_dealFrom_86 5 rfl rfl (by decide) rfl ?_
  refine R_goto (tgt := 49) C dX0_dealFrom_89 (by decide) ?_
  refine R_sub [1, 2, 3, 4, 5, 0] rfl ?_
  exact h49 v1 v2 v3 v4 (v5 + 1) S
set_option maxHeartbeats 4000000 in
set_option maxRecDepth 100000 in
theorem uX0_dealFrom_49_b {dd : Nat} (kr : Int32 → Int32 → Int32 → Int32 → St → Rs) (hkr : ∀ (v1 v2 v3 v4 : Int32) (S : St), CV l D (wX a cA) [(cA, .int)] yX0_tryHost (.code yX0_tryHost cX0_tryHost 10 none) dd [.ref (a 4), .int v1, .int v2, .int v3, .int v4] (kr v1 v2 v3 v4 S) S) (C : CX D [(cA, .int)] p s m args meth c A cX0_dealFrom 6 RX0 none) (k49 : Int32 → Int32 → Int32 → Int32 → Int32 → St → Rs) (h49 : ∀ (v1 v2 v3 v4 v5 : Int32) (S : St), RU D (wX a cA) p l e (dd + 1) s m args below meth c A 6 (QV D (wX a cA) [(cA, .int)] A) (k49 v1 v2 v3 v4 v5 S) 49 [] [(0, .ref (a 4)), (1, .int v1), (2, .int v2), (3, .int v3), (4, .int v4), (5, .int v5)] S) (v1 v2 v3 v4 v5 : Int32) (S : St) : RU D (wX a cA) p l e (dd + 1) s m args below meth c A 6 (QV D (wX a cA) [(cA, .int)] A) (fX0_dealFrom_49_b kr k49 v1 v2 v3 v4 v5 S) 49 [] [(0, .ref (a 4)), (1, .int v1), (2, .int v2), (3, .int v3), (4, .int v4), (5, .int v5)] S := by
  unfold fX0_dealFrom_49_b
  refine R_iload C dX0_dealFrom_49 5 rfl ?_
  refine R_iload C dX0_dealFrom_51 4 rfl ?_
  refine R_icmp_ge (tgt := 92) C dX0_dealFrom_53 (by decide) ?_ ?_
  · exact R_retv C dX0_dealFrom_92
  · refine R_aload_n C dX0_dealFrom_56 rfl 0 rfl ?_
    refine gtX_X0_tryLoads C wd_1_151 dX0_dealFrom_57 ?_
    refine R_iload C dX0_dealFrom_60 5 rfl ?_
    refine ldX9 C dX0_dealFrom_62 ?_
    refine R_aload_n C dX0_dealFrom_63 rfl 0 rfl ?_
    refine gtX_X0_limit C wd_1_154 dX0_dealFrom_64 ?_
    refine R_icmp_ge (tgt := 86) C dX0_dealFrom_67 (by decide) ?_ ?_
    · exact uX0_dealFrom_86 kr hkr C k49 h49 v1 v2 v3 v4 v5 S
    · refine R_aload_n C dX0_dealFrom_70 rfl 0 rfl ?_
      refine R_iload_n C dX0_dealFrom_71 rfl 1 rfl ?_
      refine R_iload_n C dX0_dealFrom_72 rfl 2 rfl ?_
      refine R_iload C dX0_dealFrom_73 5 rfl ?_
      refine R_iload_n C dX0_dealFrom_75 rfl 3 rfl ?_
      refine R_iload C dX0_dealFrom_76 5 rfl ?_
      refine R_iconst (v := (1 : Int32)) C dX0_dealFrom_78 (by decide) ?_
      refine R_iadd C dX0_dealFrom_79 ?_
      refine R_mmax C wd_2_166 wd_1_26 wd_1_3 wd_1_27 (by omega) (Nat.le_of_ble_eq_true rfl) dX0_dealFrom_80 ?_
      refine R_callv (As := [.int v1, .int v2, .int v5, .int (if v3 < (v5 + (1 : Int32)) then (v5 + (1 : Int32)) else v3)]) (st := []) C (hkr v1 v2 v5 (if v3 < (v5 + (1 : Int32)) then (v5 + (1 : Int32)) else v3) S) (Nat.le_refl _) (by decide) wd_2_167 kwX0_tryHost 4 rfl rfl rfl rfl (Nat.le_of_ble_eq_true rfl) dX0_dealFrom_83 (fun r1 S2 => ?_)
      exact uX0_dealFrom_86 kr hkr C k49 h49 v1 v2 v3 v4 v5 S2
set_option maxHeartbeats 4000000 in
set_option maxRecDepth 100000 in
theorem uX0_dealFrom_49 {dd : Nat} (kr : Int32 → Int32 → Int32 → Int32 → St → Rs) (hkr : ∀ (v1 v2 v3 v4 : Int32) (S : St), CV l D (wX a cA) [(cA, .int)] yX0_tryHost (.code yX0_tryHost cX0_tryHost 10 none) dd [.ref (a 4), .int v1, .int v2, .int v3, .int v4] (kr v1 v2 v3 v4 S) S) (C : CX D [(cA, .int)] p s m args meth c A cX0_dealFrom 6 RX0 none) : ∀ (n : Nat) (v1 v2 v3 v4 v5 : Int32) (S : St), RU D (wX a cA) p l e (dd + 1) s m args below meth c A 6 (QV D (wX a cA) [(cA, .int)] A) (fX0_dealFrom_49 kr n v1 v2 v3 v4 v5 S) 49 [] [(0, .ref (a 4)), (1, .int v1), (2, .int v2), (3, .int v3), (4, .int v4), (5, .int v5)] S := by
  intro n
  induction n with
  | zero => intro v1 v2 v3 v4 v5 S; exact R_none
  | succ n ih => intro v1 v2 v3 v4 v5 S; exact uX0_dealFrom_49_b kr hkr C _ ih v1 v2 v3 v4 v5 S
set_option maxHeartbeats 4000000 in
set_option maxRecDepth 100000 in
theorem uX0_dealFrom {dd : Nat} (kr : Int32 → Int32 → Int32 → Int32 → St → Rs) (hkr : ∀ (v1 v2 v3 v4 : Int32) (S : St), CV l D (wX a cA) [(cA, .int)] yX0_tryHost (.code yX0_tryHost cX0_tryHost 10 none) dd [.ref (a 4), .int v1, .int v2, .int v3, .int v4] (kr v1 v2 v3 v4 S) S) (C : CX D [(cA, .int)] p s m args meth c A cX0_dealFrom 6 RX0 none) (v1 v2 v3 : Int32) (S : St) : RU D (wX a cA) p l e (dd + 1) s m args below meth c A 6 (QV D (wX a cA) [(cA, .int)] A) (fX0_dealFrom_s kr v1 v2 v3 S) 0 [] [(0, .ref (a 4)), (1, .int v1), (2, .int v2), (3, .int v3)] S := by
  unfold fX0_dealFrom_s
  refine R_iload_n C dX0_dealFrom_0 rfl 2 rfl ?_
  refine R_aload_n C dX0_dealFrom_1 rfl 0 rfl ?_
  refine gtX_X0_fewest C wd_1_155 dX0_dealFrom_2 ?_
  refine R_icmp_lt (tgt := 9) C dX0_dealFrom_5 (by decide) ?_ ?_
  · refine R_iload_n C dX0_dealFrom_9 rfl 1 rfl ?_
    refine R_aload_n C dX0_dealFrom_10 rfl 0 rfl ?_
    refine gtX_X0_size C wd_1_153 dX0_dealFrom_11 ?_
    refine R_icmp_lt (tgt := 23) C dX0_dealFrom_14 (by decide) ?_ ?_
    · refine R_iload_n C dX0_dealFrom_23 rfl 3 rfl ?_
      refine R_iconst (v := (1 : Int32)) C dX0_dealFrom_24 (by decide) ?_
      refine R_iadd C dX0_dealFrom_25 ?_
      refine R_aload_n C dX0_dealFrom_26 rfl 0 rfl ?_
      refine gtX_X0_net C wd_1_149 dX0_dealFrom_27 ?_
      refine gtX_X4_hosts C wd_1_60 dX0_dealFrom_30 ?_
      refine R_aload_n C dX0_dealFrom_33 rfl 0 rfl ?_
      refine gtX_X0_tryLoads C wd_1_151 dX0_dealFrom_34 ?_
      refine lnX9 C dX0_dealFrom_37 ?_
      refine R_mmin C wd_2_165 wd_1_23 wd_1_3 wd_1_24 (by omega) (Nat.le_of_ble_eq_true rfl) dX0_dealFrom_38 ?_
      refine R_mmin C wd_2_165 wd_1_23 wd_1_3 wd_1_24 (by omega) (Nat.le_of_ble_eq_true rfl) dX0_dealFrom_41 ?_
      refine R_let (fun x1 => ?_)
      refine R_istore (lv' := [(4, .int x1), (0, .ref (a 4)), (1, .int v1), (2, .int v2), (3, .int v3)]) C dX0_dealFrom_44 (by decide) rfl ?_
      refine R_iconst (v := (0 : Int32)) C dX0_dealFrom_46 (by decide) ?_
      refine R_istore (lv' := [(5, .int (0 : Int32)), (4, .int x1), (0, .ref (a 4)), (1, .int v1), (2, .int v2), (3, .int v3)]) C dX0_dealFrom_47 (by decide) rfl ?_
      refine R_sub [2, 3, 4, 5, 1, 0] rfl ?_
      exact uX0_dealFrom_49 kr hkr C FU v1 v2 v3 x1 (0 : Int32) S
    · refine R_aload_n C dX0_dealFrom_17 rfl 0 rfl ?_
      refine R_iload_n C dX0_dealFrom_18 rfl 2 rfl ?_
      refine ptX_X0_fewest C wd_1_155 dX0_dealFrom_19 ?_
      refine R_letS (fun S2 => ?_)
      exact R_retv C dX0_dealFrom_22
  · exact R_retv C dX0_dealFrom_8
set_option maxHeartbeats 4000000 in
set_option maxRecDepth 100000 in
theorem kX0_dealFrom_n (l : Launch) (D : va_G) (a : Nat → Nat) (cA : ClassId) : ∀ (n : Nat) (S : St) (v1 v2 v3 : Int32), CV l D (wX a cA) [(cA, .int)] yX0_dealFrom (.code yX0_dealFrom cX0_dealFrom 6 none) (2 * n + 1) [.ref (a 4), .int v1, .int v2, .int v3] (fX0_dealFrom n v1 v2 v3 S) S := by
  intro n
  induction n with
  | zero => intro S v1 v2 v3 r S' h; cases h
  | succ n ih =>
    intro S v1 v2 v3
    exact CV_of rfl (Nat.le_of_ble_eq_true rfl) (fun p e s m args below meth c A C => uX0_dealFrom (dd := 2 * n + 1 + 1) (fX0_tryHost_s (fX0_dealFrom n)) (fun w1 w2 w3 w4 S2 => CV_of rfl (Nat.le_of_ble_eq_true rfl) (fun p e s m args below meth c A C => uX0_tryHost (dd := 2 * n + 1) (fX0_dealFrom n) (fun x1 x2 x3 S3 => ih S3 x1 x2 x3) C w1 w2 w3 w4 S2)) C v1 v2 v3 S)
theorem kX0_dealFrom (l : Launch) (D : va_G) (a : Nat → Nat) (cA : ClassId) (n : Nat) (S : St) (v1 v2 v3 : Int32) : CV l D (wX a cA) [(cA, .int)] yX0_dealFrom (.code yX0_dealFrom cX0_dealFrom 6 none) (2 * n + 1) [.ref (a 4), .int v1, .int v2, .int v3] (fX0_dealFrom n v1 v2 v3 S) S := kX0_dealFrom_n l D a cA n S v1 v2 v3
theorem dX0_fewestCopies_0 : decode cX0_fewestCopies 0 = .ok (.aload_n 0, 1) := by decide +kernel
theorem dX0_fewestCopies_1 : decode cX0_fewestCopies 1 = .ok (.invokevirtual 25, 3) := by decide +kernel
theorem dX0_fewestCopies_4 : decode cX0_fewestCopies 4 = .ok (.aload_n 0, 1) := by decide +kernel
theorem dX0_fewestCopies_5 : decode cX0_fewestCopies 5 = .ok (.iload_n 1, 1) := by decide +kernel
theorem dX0_fewestCopies_6 : decode cX0_fewestCopies 6 = .ok (.putfield 28, 3) := by decide +kernel
theorem dX0_fewestCopies_9 : decode cX0_fewestCopies 9 = .ok (.aload_n 0, 1) := by decide +kernel
theorem dX0_fewestCopies_10 : decode cX0_fewestCopies 10 = .ok (.iconst 2, 1) := by decide +kernel
theorem dX0_fewestCopies_11 : decode cX0_fewestCopies 11 = .ok (.aload_n 0, 1) := by decide +kernel
theorem dX0_fewestCopies_12 : decode cX0_fewestCopies 12 = .ok (.getfield 32, 3) := by decide +kernel
theorem dX0_fewestCopies_15 : decode cX0_fewestCopies 15 = .ok (.imul, 1) := by decide +kernel
theorem dX0_fewestCopies_16 : decode cX0_fewestCopies 16 = .ok (.putfield 35, 3) := by decide +kernel
theorem dX0_fewestCopies_19 : decode cX0_fewestCopies 19 = .ok (.aload_n 0, 1) := by decide +kernel
theorem dX0_fewestCopies_20 : decode cX0_fewestCopies 20 = .ok (.iconst 0, 1) := by decide +kernel
theorem dX0_fewestCopies_21 : decode cX0_fewestCopies 21 = .ok (.iconst 0, 1) := by decide +kernel
theorem dX0_fewestCopies_22 : decode cX0_fewestCopies 22 = .ok (.iconst 0, 1) := by decide +kernel
theorem dX0_fewestCopies_23 : decode cX0_fewestCopies 23 = .ok (.invokevirtual 38, 3) := by decide +kernel
theorem dX0_fewestCopies_26 : decode cX0_fewestCopies 26 = .ok (.aload_n 0, 1) := by decide +kernel
theorem dX0_fewestCopies_27 : decode cX0_fewestCopies 27 = .ok (.getfield 35, 3) := by decide +kernel
theorem dX0_fewestCopies_30 : decode cX0_fewestCopies 30 = .ok (.ireturn, 1) := by decide +kernel
set_option maxHeartbeats 4000000 in
set_option maxRecDepth 100000 in
theorem uX0_fewestCopies (C : CX D [(cA, .int)] p s m args meth c A cX0_fewestCopies 2 RX0 (some .int)) (v1 : Int32) (S : St) : RU D (wX a cA) p l e 22 s m args below meth c A 2 (QI D (wX a cA) [(cA, .int)] A) (fX0_fewestCopies v1 S) 0 [] [(0, .ref (a 4)), (1, .int v1)] S := by
  unfold fX0_fewestCopies
  refine R_aload_n C dX0_fewestCopies_0 rfl 0 rfl ?_
  refine R_callv (As := []) (st := []) C (kX0_collectLines l D a cA S) (by decide) (by decide) wd_2_156 kwX0_collectLines 4 rfl rfl rfl rfl (Nat.le_of_ble_eq_true rfl) dX0_fewestCopies_1 (fun r1 S2 => ?_)
  refine R_aload_n C dX0_fewestCopies_4 rfl 0 rfl ?_
  refine R_iload_n C dX0_fewestCopies_5 rfl 1 rfl ?_
  refine ptX_X0_limit C wd_1_154 dX0_fewestCopies_6 ?_
  refine R_letS (fun S3 => ?_)
  refine R_aload_n C dX0_fewestCopies_9 rfl 0 rfl ?_
  refine R_iconst (v := (2 : Int32)) C dX0_fewestCopies_10 (by decide) ?_
  refine R_aload_n C dX0_fewestCopies_11 rfl 0 rfl ?_
  refine gtX_X0_size C wd_1_153 dX0_fewestCopies_12 ?_
  refine R_imul C dX0_fewestCopies_15 ?_
  refine ptX_X0_fewest C wd_1_155 dX0_fewestCopies_16 ?_
  refine R_letS (fun S4 => ?_)
  refine R_aload_n C dX0_fewestCopies_19 rfl 0 rfl ?_
  refine R_iconst (v := (0 : Int32)) C dX0_fewestCopies_20 (by decide) ?_
  refine R_iconst (v := (0 : Int32)) C dX0_fewestCopies_21 (by decide) ?_
  refine R_iconst (v := (0 : Int32)) C dX0_fewestCopies_22 (by decide) ?_
  refine R_callv (As := [.int (0 : Int32), .int (0 : Int32), .int (0 : Int32)]) (st := []) C (kX0_dealFrom l D a cA 10 S4 (0 : Int32) (0 : Int32) (0 : Int32)) (by decide) (by decide) wd_2_161 kwX0_dealFrom 4 rfl rfl rfl rfl (Nat.le_of_ble_eq_true rfl) dX0_fewestCopies_23 (fun r5 S6 => ?_)
  refine R_aload_n C dX0_fewestCopies_26 rfl 0 rfl ?_
  refine gtX_X0_fewest C wd_1_155 dX0_fewestCopies_27 ?_
  exact R_reti C dX0_fewestCopies_30
set_option maxHeartbeats 4000000 in
set_option maxRecDepth 100000 in
theorem kX0_fewestCopies (l : Launch) (D : va_G) (a : Nat → Nat) (cA : ClassId) (S : St) (v1 : Int32) : CI l D (wX a cA) [(cA, .int)] yX0_fewestCopies (.code yX0_fewestCopies cX0_fewestCopies 2 (some .int)) 22 [.ref (a 4), .int v1] (fX0_fewestCopies v1 S) S := CI_of rfl (Nat.le_of_ble_eq_true rfl) (fun p e s m args below meth c A C => uX0_fewestCopies C v1 S)
theorem dX6_best_0 : decode cX6_best 0 = .ok (.aload_n 0, 1) := by decide +kernel
theorem dX6_best_1 : decode cX6_best 1 = .ok (.getfield 23, 3) := by decide +kernel
theorem dX6_best_4 : decode cX6_best 4 = .ok (.getfield 139, 3) := by decide +kernel
theorem dX6_best_7 : decode cX6_best 7 = .ok (.iconst 1, 1) := by decide +kernel
theorem dX6_best_8 : decode cX6_best 8 = .ok (.if_icmp .lt 26, 3) := by decide +kernel
theorem dX6_best_11 : decode cX6_best 11 = .ok (.aload_n 0, 1) := by decide +kernel
theorem dX6_best_12 : decode cX6_best 12 = .ok (.getfield 23, 3) := by decide +kernel
theorem dX6_best_15 : decode cX6_best 15 = .ok (.getfield 139, 3) := by decide +kernel
theorem dX6_best_18 : decode cX6_best 18 = .ok (.bipush 8, 2) := by decide +kernel
theorem dX6_best_20 : decode cX6_best 20 = .ok (.if_icmp .gt 14, 3) := by decide +kernel
theorem dX6_best_23 : decode cX6_best 23 = .ok (.aload_n 0, 1) := by decide +kernel
theorem dX6_best_24 : decode cX6_best 24 = .ok (.getfield 23, 3) := by decide +kernel
theorem dX6_best_27 : decode cX6_best 27 = .ok (.getfield 111, 3) := by decide +kernel
theorem dX6_best_30 : decode cX6_best 30 = .ok (.iconst 3, 1) := by decide +kernel
theorem dX6_best_31 : decode cX6_best 31 = .ok (.if_icmp .le 5, 3) := by decide +kernel
theorem dX6_best_34 : decode cX6_best 34 = .ok (.iconst (-1), 1) := by decide +kernel
theorem dX6_best_35 : decode cX6_best 35 = .ok (.ireturn, 1) := by decide +kernel
theorem dX6_best_36 : decode cX6_best 36 = .ok (.aload_n 0, 1) := by decide +kernel
theorem dX6_best_37 : decode cX6_best 37 = .ok (.getfield 46, 3) := by decide +kernel
theorem dX6_best_40 : decode cX6_best 40 = .ok (.aload_n 0, 1) := by decide +kernel
theorem dX6_best_41 : decode cX6_best 41 = .ok (.getfield 32, 3) := by decide +kernel
theorem dX6_best_44 : decode cX6_best 44 = .ok (.aload_n 0, 1) := by decide +kernel
theorem dX6_best_45 : decode cX6_best 45 = .ok (.getfield 23, 3) := by decide +kernel
theorem dX6_best_48 : decode cX6_best 48 = .ok (.getfield 139, 3) := by decide +kernel
theorem dX6_best_51 : decode cX6_best 51 = .ok (.invokevirtual 142, 3) := by decide +kernel
theorem dX6_best_54 : decode cX6_best 54 = .ok (.invokevirtual 145, 3) := by decide +kernel
theorem dX6_best_57 : decode cX6_best 57 = .ok (.ireturn, 1) := by decide +kernel
set_option maxHeartbeats 4000000 in
set_option maxRecDepth 100000 in
theorem uX6_best_34 (C : CX D [(cA, .int)] p s m args meth c A cX6_best 1 RX6 (some .int)) (S : St) : RU D (wX a cA) p l e 23 s m args below meth c A 1 (QI D (wX a cA) [(cA, .int)] A) (fX6_best_34 S) 34 [] [] S := by
  unfold fX6_best_34
  refine R_iconst (v := (-1 : Int32)) C dX6_best_34 (by decide) ?_
  exact R_reti C dX6_best_35
set_option maxHeartbeats 4000000 in
set_option maxRecDepth 100000 in
theorem uX6_best (C : CX D [(cA, .int)] p s m args meth c A cX6_best 1 RX6 (some .int)) (S : St) : RU D (wX a cA) p l e 23 s m args below meth c A 1 (QI D (wX a cA) [(cA, .int)] A) (fX6_best S) 0 [] [(0, .ref (a 0))] S := by
  unfold fX6_best
  refine R_aload_n C dX6_best_0 rfl 0 rfl ?_
  refine gtX_X6_net C wd_1_205 dX6_best_1 ?_
  refine gtX_X4_live C wd_1_69 dX6_best_4 ?_
  refine R_iconst (v := (1 : Int32)) C dX6_best_7 (by decide) ?_
  refine R_icmp_lt (tgt := 34) C dX6_best_8 (by decide) ?_ ?_
  · refine R_sub [] rfl ?_
    exact uX6_best_34 C S
  · refine R_aload_n C dX6_best_11 rfl 0 rfl ?_
    refine gtX_X6_net C wd_1_205 dX6_best_12 ?_
    refine gtX_X4_live C wd_1_69 dX6_best_15 ?_
    refine R_bipush (v := (8 : Int32)) C dX6_best_18 (by decide) ?_
    refine R_icmp_gt (tgt := 34) C dX6_best_20 (by decide) ?_ ?_
    · refine R_sub [] rfl ?_
      exact uX6_best_34 C S
    · refine R_aload_n C dX6_best_23 rfl 0 rfl ?_
      refine gtX_X6_net C wd_1_205 dX6_best_24 ?_
      refine gtX_X4_hosts C wd_1_61 dX6_best_27 ?_
      refine R_iconst (v := (3 : Int32)) C dX6_best_30 (by decide) ?_
      refine R_icmp_le (tgt := 36) C dX6_best_31 (by decide) ?_ ?_
      · refine R_aload_n C dX6_best_36 rfl 0 rfl ?_
        refine gtX_X6_bestSearch C wd_1_208 dX6_best_37 ?_
        refine R_aload_n C dX6_best_40 rfl 0 rfl ?_
        refine gtX_X6_dealing C wd_1_206 dX6_best_41 ?_
        refine R_aload_n C dX6_best_44 rfl 0 rfl ?_
        refine gtX_X6_net C wd_1_205 dX6_best_45 ?_
        refine gtX_X4_live C wd_1_69 dX6_best_48 ?_
        refine R_calli (As := [.int (S.1 4)]) (st := [.ref (a 4)]) C (kX1_roomFor l D a cA S (S.1 4)) (by decide) (by decide) wd_2_88 kwX1_roomFor 2 rfl rfl rfl rfl (Nat.le_of_ble_eq_true rfl) dX6_best_51 (fun r1 S2 => ?_)
        refine R_calli (As := [.int r1]) (st := []) C (kX0_fewestCopies l D a cA S2 r1) (by decide) (by decide) wd_2_152 kwX0_fewestCopies 4 rfl rfl rfl rfl (Nat.le_of_ble_eq_true rfl) dX6_best_54 (fun r3 S4 => ?_)
        exact R_reti C dX6_best_57
      · refine R_sub [] rfl ?_
        exact uX6_best_34 C S
set_option maxHeartbeats 4000000 in
set_option maxRecDepth 100000 in
theorem kX6_best (l : Launch) (D : va_G) (a : Nat → Nat) (cA : ClassId) (S : St) : CI l D (wX a cA) [(cA, .int)] yX6_best (.code yX6_best cX6_best 1 (some .int)) 23 [.ref (a 0)] (fX6_best S) S := CI_of rfl (Nat.le_of_ble_eq_true rfl) (fun p e s m args below meth c A C => uX6_best C S)
theorem dX5_spreadAlong_0 : decode cX5_spreadAlong 0 = .ok (.aload_n 0, 1) := by decide +kernel
theorem dX5_spreadAlong_1 : decode cX5_spreadAlong 1 = .ok (.getfield 15, 3) := by decide +kernel
theorem dX5_spreadAlong_4 : decode cX5_spreadAlong 4 = .ok (.iload_n 1, 1) := by decide +kernel
theorem dX5_spreadAlong_5 : decode cX5_spreadAlong 5 = .ok (.iaload, 1) := by decide +kernel
theorem dX5_spreadAlong_6 : decode cX5_spreadAlong 6 = .ok (.aload_n 0, 1) := by decide +kernel
theorem dX5_spreadAlong_7 : decode cX5_spreadAlong 7 = .ok (.getfield 15, 3) := by decide +kernel
theorem dX5_spreadAlong_10 : decode cX5_spreadAlong 10 = .ok (.iload_n 2, 1) := by decide +kernel
theorem dX5_spreadAlong_11 : decode cX5_spreadAlong 11 = .ok (.iaload, 1) := by decide +kernel
theorem dX5_spreadAlong_12 : decode cX5_spreadAlong 12 = .ok (.if_icmp .ge 7, 3) := by decide +kernel
theorem dX5_spreadAlong_15 : decode cX5_spreadAlong 15 = .ok (.iload_n 2, 1) := by decide +kernel
theorem dX5_spreadAlong_16 : decode cX5_spreadAlong 16 = .ok (.goto 4, 3) := by decide +kernel
theorem dX5_spreadAlong_19 : decode cX5_spreadAlong 19 = .ok (.iload_n 1, 1) := by decide +kernel
theorem dX5_spreadAlong_20 : decode cX5_spreadAlong 20 = .ok (.istore_n 3, 1) := by decide +kernel
theorem dX5_spreadAlong_21 : decode cX5_spreadAlong 21 = .ok (.aload_n 0, 1) := by decide +kernel
theorem dX5_spreadAlong_22 : decode cX5_spreadAlong 22 = .ok (.getfield 15, 3) := by decide +kernel
theorem dX5_spreadAlong_25 : decode cX5_spreadAlong 25 = .ok (.iload_n 1, 1) := by decide +kernel
theorem dX5_spreadAlong_26 : decode cX5_spreadAlong 26 = .ok (.iaload, 1) := by decide +kernel
theorem dX5_spreadAlong_27 : decode cX5_spreadAlong 27 = .ok (.aload_n 0, 1) := by decide +kernel
theorem dX5_spreadAlong_28 : decode cX5_spreadAlong 28 = .ok (.getfield 15, 3) := by decide +kernel
theorem dX5_spreadAlong_31 : decode cX5_spreadAlong 31 = .ok (.iload_n 2, 1) := by decide +kernel
theorem dX5_spreadAlong_32 : decode cX5_spreadAlong 32 = .ok (.iaload, 1) := by decide +kernel
theorem dX5_spreadAlong_33 : decode cX5_spreadAlong 33 = .ok (.invokestatic 55, 3) := by decide +kernel
theorem dX5_spreadAlong_36 : decode cX5_spreadAlong 36 = .ok (.istore 4, 2) := by decide +kernel
theorem dX5_spreadAlong_38 : decode cX5_spreadAlong 38 = .ok (.iload 4, 2) := by decide +kernel
theorem dX5_spreadAlong_40 : decode cX5_spreadAlong 40 = .ok (.aload_n 0, 1) := by decide +kernel
theorem dX5_spreadAlong_41 : decode cX5_spreadAlong 41 = .ok (.getfield 9, 3) := by decide +kernel
theorem dX5_spreadAlong_44 : decode cX5_spreadAlong 44 = .ok (.iload_n 3, 1) := by decide +kernel
theorem dX5_spreadAlong_45 : decode cX5_spreadAlong 45 = .ok (.iaload, 1) := by decide +kernel
theorem dX5_spreadAlong_46 : decode cX5_spreadAlong 46 = .ok (.if_icmp .lt 5, 3) := by decide +kernel
theorem dX5_spreadAlong_49 : decode cX5_spreadAlong 49 = .ok (.iconst 0, 1) := by decide +kernel
theorem dX5_spreadAlong_50 : decode cX5_spreadAlong 50 = .ok (.ireturn, 1) := by decide +kernel
theorem dX5_spreadAlong_51 : decode cX5_spreadAlong 51 = .ok (.aload_n 0, 1) := by decide +kernel
theorem dX5_spreadAlong_52 : decode cX5_spreadAlong 52 = .ok (.getfield 9, 3) := by decide +kernel
theorem dX5_spreadAlong_55 : decode cX5_spreadAlong 55 = .ok (.iload_n 3, 1) := by decide +kernel
theorem dX5_spreadAlong_56 : decode cX5_spreadAlong 56 = .ok (.iload 4, 2) := by decide +kernel
theorem dX5_spreadAlong_58 : decode cX5_spreadAlong 58 = .ok (.iastore, 1) := by decide +kernel
theorem dX5_spreadAlong_59 : decode cX5_spreadAlong 59 = .ok (.iconst 1, 1) := by decide +kernel
theorem dX5_spreadAlong_60 : decode cX5_spreadAlong 60 = .ok (.ireturn, 1) := by decide +kernel
set_option maxHeartbeats 4000000 in
set_option maxRecDepth 100000 in
theorem uX5_spreadAlong_20 (C : CX D [(cA, .int)] p s m args meth c A cX5_spreadAlong 5 RX5 (some .boolean)) (v1 v2 t0 : Int32) (S : St) : RU D (wX a cA) p l e 1 s m args below meth c A 5 (QI D (wX a cA) [(cA, .int)] A) (fX5_spreadAlong_20 v1 v2 t0 S) 20 [.int t0] [(0, .ref (a 5)), (1, .int v1), (2, .int v2)] S := by
  unfold fX5_spreadAlong_20
  refine R_istore_n (lv' := [(3, .int t0), (0, .ref (a 5)), (1, .int v1), (2, .int v2)]) C dX5_spreadAlong_20 rfl (by decide) rfl ?_
  refine R_aload_n C dX5_spreadAlong_21 rfl 1 rfl ?_
  refine gtX_X5_before C wd_1_180 dX5_spreadAlong_22 ?_
  refine R_iload_n C dX5_spreadAlong_25 rfl 2 rfl ?_
  refine ldX12 C dX5_spreadAlong_26 ?_
  refine R_aload_n C dX5_spreadAlong_27 rfl 1 rfl ?_
  refine gtX_X5_before C wd_1_180 dX5_spreadAlong_28 ?_
  refine R_iload_n C dX5_spreadAlong_31 rfl 3 rfl ?_
  refine ldX12 C dX5_spreadAlong_32 ?_
  refine R_mmin C wd_2_191 wd_1_23 wd_1_3 wd_1_24 (by omega) (Nat.le_of_ble_eq_true rfl) dX5_spreadAlong_33 ?_
  refine R_let (fun x1 => ?_)
  refine R_istore (lv' := [(4, .int x1), (3, .int t0), (0, .ref (a 5)), (1, .int v1), (2, .int v2)]) C dX5_spreadAlong_36 (by decide) rfl ?_
  refine R_iload C dX5_spreadAlong_38 0 rfl ?_
  refine R_aload_n C dX5_spreadAlong_40 rfl 2 rfl ?_
  refine gtX_X5_values C wd_1_178 dX5_spreadAlong_41 ?_
  refine R_iload_n C dX5_spreadAlong_44 rfl 1 rfl ?_
  refine ldX11 C dX5_spreadAlong_45 ?_
  refine R_icmp_lt (tgt := 51) C dX5_spreadAlong_46 (by decide) ?_ ?_
  · refine R_aload_n C dX5_spreadAlong_51 rfl 2 rfl ?_
    refine gtX_X5_values C wd_1_178 dX5_spreadAlong_52 ?_
    refine R_iload_n C dX5_spreadAlong_55 rfl 1 rfl ?_
    refine R_iload C dX5_spreadAlong_56 0 rfl ?_
    refine svX11 C dX5_spreadAlong_58 ?_
    refine R_letS (fun S2 => ?_)
    refine R_iconst (v := (1 : Int32)) C dX5_spreadAlong_59 (by decide) ?_
    exact R_retz C dX5_spreadAlong_60
  · refine R_iconst (v := (0 : Int32)) C dX5_spreadAlong_49 (by decide) ?_
    exact R_retz C dX5_spreadAlong_50
set_option maxHeartbeats 4000000 in
set_option maxRecDepth 100000 in
theorem uX5_spreadAlong (C : CX D [(cA, .int)] p s m args meth c A cX5_spreadAlong 5 RX5 (some .boolean)) (v1 v2 : Int32) (S : St) : RU D (wX a cA) p l e 1 s m args below meth c A 5 (QI D (wX a cA) [(cA, .int)] A) (fX5_spreadAlong v1 v2 S) 0 [] [(0, .ref (a 5)), (1, .int v1), (2, .int v2)] S := by
  unfold fX5_spreadAlong
  refine R_aload_n C dX5_spreadAlong_0 rfl 0 rfl ?_
  refine gtX_X5_before C wd_1_180 dX5_spreadAlong_1 ?_
  refine R_iload_n C dX5_spreadAlong_4 rfl 1 rfl ?_
  refine ldX12 C dX5_spreadAlong_5 ?_
  refine R_aload_n C dX5_spreadAlong_6 rfl 0 rfl ?_
  refine gtX_X5_before C wd_1_180 dX5_spreadAlong_7 ?_
  refine R_iload_n C dX5_spreadAlong_10 rfl 2 rfl ?_
  refine ldX12 C dX5_spreadAlong_11 ?_
  refine R_icmp_ge (tgt := 19) C dX5_spreadAlong_12 (by decide) ?_ ?_
  · refine R_iload_n C dX5_spreadAlong_19 rfl 1 rfl ?_
    exact uX5_spreadAlong_20 C v1 v2 v1 S
  · refine R_iload_n C dX5_spreadAlong_15 rfl 2 rfl ?_
    refine R_goto (tgt := 20) C dX5_spreadAlong_16 (by decide) ?_
    exact uX5_spreadAlong_20 C v1 v2 v2 S
set_option maxHeartbeats 4000000 in
set_option maxRecDepth 100000 in
theorem kX5_spreadAlong (l : Launch) (D : va_G) (a : Nat → Nat) (cA : ClassId) (S : St) (v1 v2 : Int32) : CI l D (wX a cA) [(cA, .int)] yX5_spreadAlong (.code yX5_spreadAlong cX5_spreadAlong 5 (some .boolean)) 1 [.ref (a 5), .int v1, .int v2] (fX5_spreadAlong v1 v2 S) S := CI_of rfl (Nat.le_of_ble_eq_true rfl) (fun p e s m args below meth c A C => uX5_spreadAlong C v1 v2 S)
end
