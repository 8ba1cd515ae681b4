/-! walks of the class -/
section
variable {D : va_G} {a : Nat → Nat} {cA cZ : ClassId} {p : Program} {l : Launch} {e : Env} {s : State} {m : MethodId} {args : Array Value} {below : List Frame} {meth : Method} {c : Code} {A : Nat → Prop}

theorem dX5_goOneRound_0 : decode cX5_goOneRound 0 = .ok (.aload_n 0, 1) := by decide +kernel
theorem dX5_goOneRound_1 : decode cX5_goOneRound 1 = .ok (.getfield 9, 3) := by decide +kernel
theorem dX5_goOneRound_4 : decode cX5_goOneRound 4 = .ok (.iconst 0, 1) := by decide +kernel
theorem dX5_goOneRound_5 : decode cX5_goOneRound 5 = .ok (.aload_n 0, 1) := by decide +kernel
theorem dX5_goOneRound_6 : decode cX5_goOneRound 6 = .ok (.getfield 15, 3) := by decide +kernel
theorem dX5_goOneRound_9 : decode cX5_goOneRound 9 = .ok (.iconst 0, 1) := by decide +kernel
theorem dX5_goOneRound_10 : decode cX5_goOneRound 10 = .ok (.bipush 40, 2) := by decide +kernel
theorem dX5_goOneRound_12 : decode cX5_goOneRound 12 = .ok (.invokestatic 30, 3) := by decide +kernel
theorem dX5_goOneRound_15 : decode cX5_goOneRound 15 = .ok (.iconst 0, 1) := by decide +kernel
theorem dX5_goOneRound_16 : decode cX5_goOneRound 16 = .ok (.istore_n 1, 1) := by decide +kernel
theorem dX5_goOneRound_17 : decode cX5_goOneRound 17 = .ok (.iconst 0, 1) := by decide +kernel
theorem dX5_goOneRound_18 : decode cX5_goOneRound 18 = .ok (.istore_n 2, 1) := by decide +kernel
theorem dX5_goOneRound_19 : decode cX5_goOneRound 19 = .ok (.iload_n 2, 1) := by decide +kernel
theorem dX5_goOneRound_20 : decode cX5_goOneRound 20 = .ok (.aload_n 0, 1) := by decide +kernel
theorem dX5_goOneRound_21 : decode cX5_goOneRound 21 = .ok (.getfield 18, 3) := by decide +kernel
theorem dX5_goOneRound_24 : decode cX5_goOneRound 24 = .ok (.getfield 36, 3) := by decide +kernel
theorem dX5_goOneRound_27 : decode cX5_goOneRound 27 = .ok (.if_icmp .ge 47, 3) := by decide +kernel
theorem dX5_goOneRound_30 : decode cX5_goOneRound 30 = .ok (.aload_n 0, 1) := by decide +kernel
theorem dX5_goOneRound_31 : decode cX5_goOneRound 31 = .ok (.getfield 18, 3) := by decide +kernel
theorem dX5_goOneRound_34 : decode cX5_goOneRound 34 = .ok (.iload_n 2, 1) := by decide +kernel
theorem dX5_goOneRound_35 : decode cX5_goOneRound 35 = .ok (.invokevirtual 41, 3) := by decide +kernel
theorem dX5_goOneRound_38 : decode cX5_goOneRound 38 = .ok (.ifCond .eq 30, 3) := by decide +kernel
theorem dX5_goOneRound_41 : decode cX5_goOneRound 41 = .ok (.aload_n 0, 1) := by decide +kernel
theorem dX5_goOneRound_42 : decode cX5_goOneRound 42 = .ok (.aload_n 0, 1) := by decide +kernel
theorem dX5_goOneRound_43 : decode cX5_goOneRound 43 = .ok (.getfield 18, 3) := by decide +kernel
theorem dX5_goOneRound_46 : decode cX5_goOneRound 46 = .ok (.getfield 45, 3) := by decide +kernel
theorem dX5_goOneRound_49 : decode cX5_goOneRound 49 = .ok (.iload_n 2, 1) := by decide +kernel
theorem dX5_goOneRound_50 : decode cX5_goOneRound 50 = .ok (.iaload, 1) := by decide +kernel
theorem dX5_goOneRound_51 : decode cX5_goOneRound 51 = .ok (.aload_n 0, 1) := by decide +kernel
theorem dX5_goOneRound_52 : decode cX5_goOneRound 52 = .ok (.getfield 18, 3) := by decide +kernel
theorem dX5_goOneRound_55 : decode cX5_goOneRound 55 = .ok (.getfield 48, 3) := by decide +kernel
theorem dX5_goOneRound_58 : decode cX5_goOneRound 58 = .ok (.iload_n 2, 1) := by decide +kernel
theorem dX5_goOneRound_59 : decode cX5_goOneRound 59 = .ok (.iaload, 1) := by decide +kernel
theorem dX5_goOneRound_60 : decode cX5_goOneRound 60 = .ok (.invokevirtual 51, 3) := by decide +kernel
theorem dX5_goOneRound_63 : decode cX5_goOneRound 63 = .ok (.ifCond .eq 5, 3) := by decide +kernel
theorem dX5_goOneRound_66 : decode cX5_goOneRound 66 = .ok (.iconst 1, 1) := by decide +kernel
theorem dX5_goOneRound_67 : decode cX5_goOneRound 67 = .ok (.istore_n 1, 1) := by decide +kernel
theorem dX5_goOneRound_68 : decode cX5_goOneRound 68 = .ok (.iinc 2 1, 3) := by decide +kernel
theorem dX5_goOneRound_71 : decode cX5_goOneRound 71 = .ok (.goto (-52), 3) := by decide +kernel
theorem dX5_goOneRound_74 : decode cX5_goOneRound 74 = .ok (.iload_n 1, 1) := by decide +kernel
theorem dX5_goOneRound_75 : decode cX5_goOneRound 75 = .ok (.ireturn, 1) := by decide +kernel
set_option maxHeartbeats 4000000 in
set_option maxRecDepth 100000 in
theorem uX5_goOneRound_68 (C : CX D [(cA, .int)] p s m args meth c A cX5_goOneRound 3 RX5 (some .boolean)) (k19 : Int32 → Int32 → St → Rs) (h19 : ∀ (v1 v2 : Int32) (S : St), RU D (wX a cA) p l e 2 s m args below meth c A 3 (QI D (wX a cA) [(cA, .int)] A) (k19 v1 v2 S) 19 [] [(0, .ref (a 5)), (1, .int v1), (2, .int v2)] S) (v1 v2 : Int32) (S : St) : RU D (wX a cA) p l e 2 s m args below meth c A 3 (QI D (wX a cA) [(cA, .int)] A) (fX5_goOneRound_68 k19 v1 v2 S) 68 [] [(0, .ref (a 5)), (1, .int v1), (2, .int v2)] S := by
  unfold fX5_goOneRound_68
  refine R_iinc (v := v2 + 1) (lv' := [(2, .int (v2 + 1)), (0, .ref (a 5)), (1, .int v1)]) C dX5_goOneRound_68 2 rfl rfl (by decide) rfl ?_
  refine R_goto (tgt := 19) C dX5_goOneRound_71 (by decide) ?_
  refine R_sub [1, 2, 0] rfl ?_
  exact h19 v1 (v2 + 1) S
set_option maxHeartbeats 4000000 in
set_option maxRecDepth 100000 in
theorem uX5_goOneRound_19_b (C : CX D [(cA, .int)] p s m args meth c A cX5_goOneRound 3 RX5 (some .boolean)) (k19 : Int32 → Int32 → St → Rs) (h19 : ∀ (v1 v2 : Int32) (S : St), RU D (wX a cA) p l e 2 s m args below meth c A 3 (QI D (wX a cA) [(cA, .int)] A) (k19 v1 v2 S) 19 [] [(0, .ref (a 5)), (1, .int v1), (2, .int v2)] S) (v1 v2 : Int32) (S : St) : RU D (wX a cA) p l e 2 s m args below meth c A 3 (QI D (wX a cA) [(cA, .int)] A) (fX5_goOneRound_19_b k19 v1 v2 S) 19 [] [(0, .ref (a 5)), (1, .int v1), (2, .int v2)] S := by
  unfold fX5_goOneRound_19_b
  refine R_iload_n C dX5_goOneRound_19 rfl 2 rfl ?_
  refine R_aload_n C dX5_goOneRound_20 rfl 0 rfl ?_
  refine gtX_X5_net C wd_1_177 dX5_goOneRound_21 ?_
  refine gtX_X4_came C wd_1_66 dX5_goOneRound_24 ?_
  refine R_icmp_ge (tgt := 74) C dX5_goOneRound_27 (by decide) ?_ ?_
  · refine R_iload_n C dX5_goOneRound_74 rfl 1 rfl ?_
    exact R_retz C dX5_goOneRound_75
  · refine R_aload_n C dX5_goOneRound_30 rfl 0 rfl ?_
    refine gtX_X5_net C wd_1_177 dX5_goOneRound_31 ?_
    refine R_iload_n C dX5_goOneRound_34 rfl 2 rfl ?_
    refine R_calli (As := [.int v2]) (st := []) C (kX4_isLive l D a cA S v2) (by decide) (by decide) wd_2_186 kwX4_isLive 1 rfl rfl rfl rfl (Nat.le_of_ble_eq_true rfl) dX5_goOneRound_35 (fun r1 S2 => ?_)
    refine R_if_eq (tgt := 68) C dX5_goOneRound_38 (by decide) ?_ ?_
    · exact uX5_goOneRound_68 C k19 h19 v1 v2 S2
    · refine R_aload_n C dX5_goOneRound_41 rfl 0 rfl ?_
      refine R_aload_n C dX5_goOneRound_42 rfl 0 rfl ?_
      refine gtX_X5_net C wd_1_177 dX5_goOneRound_43 ?_
      refine gtX_X4_firstEnd C wd_1_35 dX5_goOneRound_46 ?_
      refine R_iload_n C dX5_goOneRound_49 rfl 2 rfl ?_
      refine ldX1 C dX5_goOneRound_50 ?_
      refine R_aload_n C dX5_goOneRound_51 rfl 0 rfl ?_
      refine gtX_X5_net C wd_1_177 dX5_goOneRound_52 ?_
      refine gtX_X4_secondEnd C wd_1_40 dX5_goOneRound_55 ?_
      refine R_iload_n C dX5_goOneRound_58 rfl 2 rfl ?_
      refine ldX2 C dX5_goOneRound_59 ?_
      refine R_calli (As := [.int (S2.2 1 (ix v2)), .int (S2.2 2 (ix v2))]) (st := []) C (kX5_spreadAlong l D a cA S2 (S2.2 1 (ix v2)) (S2.2 2 (ix v2))) (by decide) (by decide) wd_2_187 kwX5_spreadAlong 5 rfl rfl rfl rfl (Nat.le_of_ble_eq_true rfl) dX5_goOneRound_60 (fun r3 S4 => ?_)
      refine R_if_eq (tgt := 68) C dX5_goOneRound_63 (by decide) ?_ ?_
      · exact uX5_goOneRound_68 C k19 h19 v1 v2 S4
      · refine R_iconst (v := (1 : Int32)) C dX5_goOneRound_66 (by decide) ?_
        refine R_istore_n (lv' := [(1, .int (1 : Int32)), (0, .ref (a 5)), (2, .int v2)]) C dX5_goOneRound_67 rfl (by decide) rfl ?_
        refine R_sub [1, 0, 2] rfl ?_
        exact uX5_goOneRound_68 C k19 h19 (1 : Int32) v2 S4
set_option maxHeartbeats 4000000 in
set_option maxRecDepth 100000 in
theorem uX5_goOneRound_19 (C : CX D [(cA, .int)] p s m args meth c A cX5_goOneRound 3 RX5 (some .boolean)) : ∀ (n : Nat) (v1 v2 : Int32) (S : St), RU D (wX a cA) p l e 2 s m args below meth c A 3 (QI D (wX a cA) [(cA, .int)] A) (fX5_goOneRound_19 n v1 v2 S) 19 [] [(0, .ref (a 5)), (1, .int v1), (2, .int v2)] S := by
  intro n
  induction n with
  | zero => intro v1 v2 S; exact R_none
  | succ n ih => intro v1 v2 S; exact uX5_goOneRound_19_b C _ ih v1 v2 S
set_option maxHeartbeats 4000000 in
set_option maxRecDepth 100000 in
theorem uX5_goOneRound (C : CX D [(cA, .int)] p s m args meth c A cX5_goOneRound 3 RX5 (some .boolean)) (S : St) : RU D (wX a cA) p l e 2 s m args below meth c A 3 (QI D (wX a cA) [(cA, .int)] A) (fX5_goOneRound S) 0 [] [(0, .ref (a 5))] S := by
  unfold fX5_goOneRound
  refine R_aload_n C dX5_goOneRound_0 rfl 0 rfl ?_
  refine gtX_X5_values C wd_1_178 dX5_goOneRound_1 ?_
  refine R_iconst (v := (0 : Int32)) C dX5_goOneRound_4 (by decide) ?_
  refine R_aload_n C dX5_goOneRound_5 rfl 0 rfl ?_
  refine gtX_X5_before C wd_1_180 dX5_goOneRound_6 ?_
  refine R_iconst (v := (0 : Int32)) C dX5_goOneRound_9 (by decide) ?_
  refine R_bipush (v := (40 : Int32)) C dX5_goOneRound_10 (by decide) ?_
  refine R_copy C wd_2_183 wd_2_185 wd_2_184 wd_1_10 (by omega) (by decide) 18 19 0 rfl rfl rfl (by decide) (by decide) (S1 := sR S 12 (va_cpy (S.2 11) (S.2 12) 0 0 40)) rfl dX5_goOneRound_12 ?_
  refine R_letS (fun S1 => ?_)
  refine R_iconst (v := (0 : Int32)) C dX5_goOneRound_15 (by decide) ?_
  refine R_istore_n (lv' := [(1, .int (0 : Int32)), (0, .ref (a 5))]) C dX5_goOneRound_16 rfl (by decide) rfl ?_
  refine R_iconst (v := (0 : Int32)) C dX5_goOneRound_17 (by decide) ?_
  refine R_istore_n (lv' := [(2, .int (0 : Int32)), (1, .int (0 : Int32)), (0, .ref (a 5))]) C dX5_goOneRound_18 rfl (by decide) rfl ?_
  refine R_sub [2, 1, 0] rfl ?_
  exact uX5_goOneRound_19 C FU (0 : Int32) (0 : Int32) S1
set_option maxHeartbeats 4000000 in
set_option maxRecDepth 100000 in
theorem kX5_goOneRound (l : Launch) (D : va_G) (a : Nat → Nat) (cA : ClassId) (S : St) : CI l D (wX a cA) [(cA, .int)] yX5_goOneRound (.code yX5_goOneRound cX5_goOneRound 3 (some .boolean)) 2 [.ref (a 5)] (fX5_goOneRound S) S := CI_of rfl (Nat.le_of_ble_eq_true rfl) (fun p e s m args below meth c A C => uX5_goOneRound C S)
theorem dX5_spread_0 : decode cX5_spread 0 = .ok (.iconst 0, 1) := by decide +kernel
theorem dX5_spread_1 : decode cX5_spread 1 = .ok (.istore_n 1, 1) := by decide +kernel
theorem dX5_spread_2 : decode cX5_spread 2 = .ok (.iload_n 1, 1) := by decide +kernel
theorem dX5_spread_3 : decode cX5_spread 3 = .ok (.bipush 40, 2) := by decide +kernel
theorem dX5_spread_5 : decode cX5_spread 5 = .ok (.if_icmp .ge 16, 3) := by decide +kernel
theorem dX5_spread_8 : decode cX5_spread 8 = .ok (.aload_n 0, 1) := by decide +kernel
theorem dX5_spread_9 : decode cX5_spread 9 = .ok (.getfield 9, 3) := by decide +kernel
theorem dX5_spread_12 : decode cX5_spread 12 = .ok (.iload_n 1, 1) := by decide +kernel
theorem dX5_spread_13 : decode cX5_spread 13 = .ok (.iload_n 1, 1) := by decide +kernel
theorem dX5_spread_14 : decode cX5_spread 14 = .ok (.iastore, 1) := by decide +kernel
theorem dX5_spread_15 : decode cX5_spread 15 = .ok (.iinc 1 1, 3) := by decide +kernel
theorem dX5_spread_18 : decode cX5_spread 18 = .ok (.goto (-16), 3) := by decide +kernel
theorem dX5_spread_21 : decode cX5_spread 21 = .ok (.aload_n 0, 1) := by decide +kernel
theorem dX5_spread_22 : decode cX5_spread 22 = .ok (.iconst 0, 1) := by decide +kernel
theorem dX5_spread_23 : decode cX5_spread 23 = .ok (.putfield 22, 3) := by decide +kernel
theorem dX5_spread_26 : decode cX5_spread 26 = .ok (.iconst 1, 1) := by decide +kernel
theorem dX5_spread_27 : decode cX5_spread 27 = .ok (.istore_n 1, 1) := by decide +kernel
theorem dX5_spread_28 : decode cX5_spread 28 = .ok (.iload_n 1, 1) := by decide +kernel
theorem dX5_spread_29 : decode cX5_spread 29 = .ok (.ifCond .eq 30, 3) := by decide +kernel
theorem dX5_spread_32 : decode cX5_spread 32 = .ok (.aload_n 0, 1) := by decide +kernel
theorem dX5_spread_33 : decode cX5_spread 33 = .ok (.getfield 22, 3) := by decide +kernel
theorem dX5_spread_36 : decode cX5_spread 36 = .ok (.bipush 40, 2) := by decide +kernel
theorem dX5_spread_38 : decode cX5_spread 38 = .ok (.if_icmp .gt 21, 3) := by decide +kernel
theorem dX5_spread_41 : decode cX5_spread 41 = .ok (.aload_n 0, 1) := by decide +kernel
theorem dX5_spread_42 : decode cX5_spread 42 = .ok (.invokevirtual 26, 3) := by decide +kernel
theorem dX5_spread_45 : decode cX5_spread 45 = .ok (.istore_n 1, 1) := by decide +kernel
theorem dX5_spread_46 : decode cX5_spread 46 = .ok (.aload_n 0, 1) := by decide +kernel
theorem dX5_spread_47 : decode cX5_spread 47 = .ok (.dup, 1) := by decide +kernel
theorem dX5_spread_48 : decode cX5_spread 48 = .ok (.getfield 22, 3) := by decide +kernel
theorem dX5_spread_51 : decode cX5_spread 51 = .ok (.iconst 1, 1) := by decide +kernel
theorem dX5_spread_52 : decode cX5_spread 52 = .ok (.iadd, 1) := by decide +kernel
theorem dX5_spread_53 : decode cX5_spread 53 = .ok (.putfield 22, 3) := by decide +kernel
theorem dX5_spread_56 : decode cX5_spread 56 = .ok (.goto (-28), 3) := by decide +kernel
theorem dX5_spread_59 : decode cX5_spread 59 = .ok (.return_, 1) := by decide +kernel
set_option maxHeartbeats 4000000 in
set_option maxRecDepth 100000 in
theorem uX5_spread_59 (C : CX D [(cA, .int)] p s m args meth c A cX5_spread 2 RX5 none) (S : St) : RU D (wX a cA) p l e 3 s m args below meth c A 2 (QV D (wX a cA) [(cA, .int)] A) (fX5_spread_59 S) 59 [] [] S := by
  unfold fX5_spread_59
  exact R_retv C dX5_spread_59
set_option maxHeartbeats 4000000 in
set_option maxRecDepth 100000 in
theorem uX5_spread_28_b (C : CX D [(cA, .int)] p s m args meth c A cX5_spread 2 RX5 none) (k28 : Int32 → St → Rs) (h28 : ∀ (v1 : Int32) (S : St), RU D (wX a cA) p l e 3 s m args below meth c A 2 (QV D (wX a cA) [(cA, .int)] A) (k28 v1 S) 28 [] [(0, .ref (a 5)), (1, .int v1)] S) (v1 : Int32) (S : St) : RU D (wX a cA) p l e 3 s m args below meth c A 2 (QV D (wX a cA) [(cA, .int)] A) (fX5_spread_28_b k28 v1 S) 28 [] [(0, .ref (a 5)), (1, .int v1)] S := by
  unfold fX5_spread_28_b
  refine R_iload_n C dX5_spread_28 rfl 1 rfl ?_
  refine R_if_eq (tgt := 59) C dX5_spread_29 (by decide) ?_ ?_
  · refine R_sub [] rfl ?_
    exact uX5_spread_59 C S
  · refine R_aload_n C dX5_spread_32 rfl 0 rfl ?_
    refine gtX_X5_rounds C wd_1_181 dX5_spread_33 ?_
    refine R_bipush (v := (40 : Int32)) C dX5_spread_36 (by decide) ?_
    refine R_icmp_gt (tgt := 59) C dX5_spread_38 (by decide) ?_ ?_
    · refine R_sub [] rfl ?_
      exact uX5_spread_59 C S
    · refine R_aload_n C dX5_spread_41 rfl 0 rfl ?_
      refine R_calli (As := []) (st := []) C (kX5_goOneRound l D a cA S) (by decide) (by decide) wd_2_179 kwX5_goOneRound 5 rfl rfl rfl rfl (Nat.le_of_ble_eq_true rfl) dX5_spread_42 (fun r1 S2 => ?_)
      refine R_istore_n (lv' := [(1, .int r1), (0, .ref (a 5))]) C dX5_spread_45 rfl (by decide) rfl ?_
      refine R_aload_n C dX5_spread_46 rfl 1 rfl ?_
      refine R_dup C dX5_spread_47 rfl ?_
      refine gtX_X5_rounds C wd_1_181 dX5_spread_48 ?_
      refine R_iconst (v := (1 : Int32)) C dX5_spread_51 (by decide) ?_
      refine R_iadd C dX5_spread_52 ?_
      refine ptX_X5_rounds C wd_1_181 dX5_spread_53 ?_
      refine R_letS (fun S3 => ?_)
      refine R_goto (tgt := 28) C dX5_spread_56 (by decide) ?_
      refine R_sub [1, 0] rfl ?_
      exact h28 r1 S3
set_option maxHeartbeats 4000000 in
set_option maxRecDepth 100000 in
theorem uX5_spread_28 (C : CX D [(cA, .int)] p s m args meth c A cX5_spread 2 RX5 none) : ∀ (n : Nat) (v1 : Int32) (S : St), RU D (wX a cA) p l e 3 s m args below meth c A 2 (QV D (wX a cA) [(cA, .int)] A) (fX5_spread_28 n v1 S) 28 [] [(0, .ref (a 5)), (1, .int v1)] S := by
  intro n
  induction n with
  | zero => intro v1 S; exact R_none
  | succ n ih => intro v1 S; exact uX5_spread_28_b C _ ih v1 S
set_option maxHeartbeats 4000000 in
set_option maxRecDepth 100000 in
theorem uX5_spread_2_b (C : CX D [(cA, .int)] p s m args meth c A cX5_spread 2 RX5 none) (k2 : Int32 → St → Rs) (h2 : ∀ (v1 : Int32) (S : St), RU D (wX a cA) p l e 3 s m args below meth c A 2 (QV D (wX a cA) [(cA, .int)] A) (k2 v1 S) 2 [] [(0, .ref (a 5)), (1, .int v1)] S) (v1 : Int32) (S : St) : RU D (wX a cA) p l e 3 s m args below meth c A 2 (QV D (wX a cA) [(cA, .int)] A) (fX5_spread_2_b k2 v1 S) 2 [] [(0, .ref (a 5)), (1, .int v1)] S := by
  unfold fX5_spread_2_b
  refine R_iload_n C dX5_spread_2 rfl 1 rfl ?_
  refine R_bipush (v := (40 : Int32)) C dX5_spread_3 (by decide) ?_
  refine R_icmp_ge (tgt := 21) C dX5_spread_5 (by decide) ?_ ?_
  · refine R_aload_n C dX5_spread_21 rfl 0 rfl ?_
    refine R_iconst (v := (0 : Int32)) C dX5_spread_22 (by decide) ?_
    refine ptX_X5_rounds C wd_1_181 dX5_spread_23 ?_
    refine R_letS (fun S1 => ?_)
    refine R_iconst (v := (1 : Int32)) C dX5_spread_26 (by decide) ?_
    refine R_istore_n (lv' := [(1, .int (1 : Int32)), (0, .ref (a 5))]) C dX5_spread_27 rfl (by decide) rfl ?_
    refine R_sub [1, 0] rfl ?_
    exact uX5_spread_28 C FU (1 : Int32) S1
  · refine R_aload_n C dX5_spread_8 rfl 0 rfl ?_
    refine gtX_X5_values C wd_1_178 dX5_spread_9 ?_
    refine R_iload_n C dX5_spread_12 rfl 1 rfl ?_
    refine R_iload_n C dX5_spread_13 rfl 1 rfl ?_
    refine svX11 C dX5_spread_14 ?_
    refine R_letS (fun S2 => ?_)
    refine R_iinc (v := v1 + 1) (lv' := [(1, .int (v1 + 1)), (0, .ref (a 5))]) C dX5_spread_15 1 rfl rfl (by decide) rfl ?_
    refine R_goto (tgt := 2) C dX5_spread_18 (by decide) ?_
    refine R_sub [1, 0] rfl ?_
    exact h2 (v1 + 1) S2
set_option maxHeartbeats 4000000 in
set_option maxRecDepth 100000 in
theorem uX5_spread_2 (C : CX D [(cA, .int)] p s m args meth c A cX5_spread 2 RX5 none) : ∀ (n : Nat) (v1 : Int32) (S : St), RU D (wX a cA) p l e 3 s m args below meth c A 2 (QV D (wX a cA) [(cA, .int)] A) (fX5_spread_2 n v1 S) 2 [] [(0, .ref (a 5)), (1, .int v1)] S := by
  intro n
  induction n with
  | zero => intro v1 S; exact R_none
  | succ n ih => intro v1 S; exact uX5_spread_2_b C _ ih v1 S
set_option maxHeartbeats 4000000 in
set_option maxRecDepth 100000 in
theorem uX5_spread (C : CX D [(cA, .int)] p s m args meth c A cX5_spread 2 RX5 none) (S : St) : RU D (wX a cA) p l e 3 s m args below meth c A 2 (QV D (wX a cA) [(cA, .int)] A) (fX5_spread S) 0 [] [(0, .ref (a 5))] S := by
  unfold fX5_spread
  refine R_iconst (v := (0 : Int32)) C dX5_spread_0 (by decide) ?_
  refine R_istore_n (lv' := [(1, .int (0 : Int32)), (0, .ref (a 5))]) C dX5_spread_1 rfl (by decide) rfl ?_
  refine R_sub [1, 0] rfl ?_
  exact uX5_spread_2 C FU (0 : Int32) S
set_option maxHeartbeats 4000000 in
set_option maxRecDepth 100000 in
theorem kX5_spread (l : Launch) (D : va_G) (a : Nat → Nat) (cA : ClassId) (S : St) : CV l D (wX a cA) [(cA, .int)] yX5_spread (.code yX5_spread cX5_spread 2 none) 3 [.ref (a 5)] (fX5_spread S) S := CV_of rfl (Nat.le_of_ble_eq_true rfl) (fun p e s m args below meth c A C => uX5_spread C S)
theorem dX6_part_0 : decode cX6_part 0 = .ok (.iload_n 1, 1) := by decide +kernel
theorem dX6_part_1 : decode cX6_part 1 = .ok (.invokestatic 68, 3) := by decide +kernel
theorem dX6_part_4 : decode cX6_part 4 = .ok (.ifCond .ne 5, 3) := by decide +kernel
theorem dX6_part_7 : decode cX6_part 7 = .ok (.iconst (-1), 1) := by decide +kernel
theorem dX6_part_8 : decode cX6_part 8 = .ok (.ireturn, 1) := by decide +kernel
theorem dX6_part_9 : decode cX6_part 9 = .ok (.aload_n 0, 1) := by decide +kernel
theorem dX6_part_10 : decode cX6_part 10 = .ok (.getfield 53, 3) := by decide +kernel
theorem dX6_part_13 : decode cX6_part 13 = .ok (.invokevirtual 148, 3) := by decide +kernel
theorem dX6_part_16 : decode cX6_part 16 = .ok (.aload_n 0, 1) := by decide +kernel
theorem dX6_part_17 : decode cX6_part 17 = .ok (.getfield 53, 3) := by decide +kernel
theorem dX6_part_20 : decode cX6_part 20 = .ok (.getfield 151, 3) := by decide +kernel
theorem dX6_part_23 : decode cX6_part 23 = .ok (.iload_n 1, 1) := by decide +kernel
theorem dX6_part_24 : decode cX6_part 24 = .ok (.iaload, 1) := by decide +kernel
theorem dX6_part_25 : decode cX6_part 25 = .ok (.ireturn, 1) := by decide +kernel
set_option maxHeartbeats 4000000 in
set_option maxRecDepth 100000 in
theorem uX6_part (C : CX D [(cA, .int)] p s m args meth c A cX6_part 2 RX6 (some .int)) (v1 : Int32) (S : St) : RU D (wX a cA) p l e 4 s m args below meth c A 2 (QI D (wX a cA) [(cA, .int)] A) (fX6_part v1 S) 0 [] [(0, .ref (a 0)), (1, .int v1)] S := by
  unfold fX6_part
  refine R_iload_n C dX6_part_0 rfl 1 rfl ?_
  refine R_calls (As := [.int v1]) (st := []) C (kX6_isPoint l D a cA S v1) (by decide) (by decide) wd_1_237 kwX6_isPoint rfl rfl (Nat.le_of_ble_eq_true rfl) dX6_part_1 (fun r1 S2 => ?_)
  refine R_if_ne (tgt := 9) C dX6_part_4 (by decide) ?_ ?_
  · refine R_iconst (v := (-1 : Int32)) C dX6_part_7 (by decide) ?_
    exact R_reti C dX6_part_8
  · refine R_aload_n C dX6_part_9 rfl 0 rfl ?_
    refine gtX_X6_spreading C wd_1_209 dX6_part_10 ?_
    refine R_callv (As := []) (st := []) C (kX5_spread l D a cA S2) (by decide) (by decide) wd_2_175 kwX5_spread 5 rfl rfl rfl rfl (Nat.le_of_ble_eq_true rfl) dX6_part_13 (fun r3 S4 => ?_)
    refine R_aload_n C dX6_part_16 rfl 0 rfl ?_
    refine gtX_X6_spreading C wd_1_209 dX6_part_17 ?_
    refine gtX_X5_values C wd_1_179 dX6_part_20 ?_
    refine R_iload_n C dX6_part_23 rfl 1 rfl ?_
    refine ldX11 C dX6_part_24 ?_
    exact R_reti C dX6_part_25
set_option maxHeartbeats 4000000 in
set_option maxRecDepth 100000 in
theorem kX6_part (l : Launch) (D : va_G) (a : Nat → Nat) (cA : ClassId) (S : St) (v1 : Int32) : CI l D (wX a cA) [(cA, .int)] yX6_part (.code yX6_part cX6_part 2 (some .int)) 4 [.ref (a 0), .int v1] (fX6_part v1 S) S := CI_of rfl (Nat.le_of_ble_eq_true rfl) (fun p e s m args below meth c A C => uX6_part C v1 S)
theorem dX4_pointsWithCopies_0 : decode cX4_pointsWithCopies 0 = .ok (.iconst 0, 1) := by decide +kernel
theorem dX4_pointsWithCopies_1 : decode cX4_pointsWithCopies 1 = .ok (.istore_n 1, 1) := by decide +kernel
theorem dX4_pointsWithCopies_2 : decode cX4_pointsWithCopies 2 = .ok (.iconst 0, 1) := by decide +kernel
theorem dX4_pointsWithCopies_3 : decode cX4_pointsWithCopies 3 = .ok (.istore_n 2, 1) := by decide +kernel
theorem dX4_pointsWithCopies_4 : decode cX4_pointsWithCopies 4 = .ok (.iload_n 2, 1) := by decide +kernel
theorem dX4_pointsWithCopies_5 : decode cX4_pointsWithCopies 5 = .ok (.bipush 40, 2) := by decide +kernel
theorem dX4_pointsWithCopies_7 : decode cX4_pointsWithCopies 7 = .ok (.if_icmp .ge 21, 3) := by decide +kernel
theorem dX4_pointsWithCopies_10 : decode cX4_pointsWithCopies 10 = .ok (.aload_n 0, 1) := by decide +kernel
theorem dX4_pointsWithCopies_11 : decode cX4_pointsWithCopies 11 = .ok (.getfield 27, 3) := by decide +kernel
theorem dX4_pointsWithCopies_14 : decode cX4_pointsWithCopies 14 = .ok (.iload_n 2, 1) := by decide +kernel
theorem dX4_pointsWithCopies_15 : decode cX4_pointsWithCopies 15 = .ok (.iaload, 1) := by decide +kernel
theorem dX4_pointsWithCopies_16 : decode cX4_pointsWithCopies 16 = .ok (.ifCond .eq 6, 3) := by decide +kernel
theorem dX4_pointsWithCopies_19 : decode cX4_pointsWithCopies 19 = .ok (.iinc 1 1, 3) := by decide +kernel
theorem dX4_pointsWithCopies_22 : decode cX4_pointsWithCopies 22 = .ok (.iinc 2 1, 3) := by decide +kernel
theorem dX4_pointsWithCopies_25 : decode cX4_pointsWithCopies 25 = .ok (.goto (-21), 3) := by decide +kernel
theorem dX4_pointsWithCopies_28 : decode cX4_pointsWithCopies 28 = .ok (.iload_n 1, 1) := by decide +kernel
theorem dX4_pointsWithCopies_29 : decode cX4_pointsWithCopies 29 = .ok (.ireturn, 1) := by decide +kernel
set_option maxHeartbeats 4000000 in
set_option maxRecDepth 100000 in
theorem uX4_pointsWithCopies_22 (C : CX D [(cA, .int)] p s m args meth c A cX4_pointsWithCopies 3 RX4 (some .int)) (k4 : Int32 → Int32 → St → Rs) (h4 : ∀ (v1 v2 : Int32) (S : St), RU D (wX a cA) p l e 1 s m args below meth c A 3 (QI D (wX a cA) [(cA, .int)] A) (k4 v1 v2 S) 4 [] [(0, .ref (a 1)), (1, .int v1), (2, .int v2)] S) (v1 v2 : Int32) (S : St) : RU D (wX a cA) p l e 1 s m args below meth c A 3 (QI D (wX a cA) [(cA, .int)] A) (fX4_pointsWithCopies_22 k4 v1 v2 S) 22 [] [(0, .ref (a 1)), (1, .int v1), (2, .int v2)] S := by
  unfold fX4_pointsWithCopies_22
  refine R_iinc (v := v2 + 1) (lv' := [(2, .int (v2 + 1)), (0, .ref (a 1)), (1, .int v1)]) C dX4_pointsWithCopies_22 2 rfl rfl (by decide) rfl ?_
  refine R_goto (tgt := 4) C dX4_pointsWithCopies_25 (by decide) ?_
  refine R_sub [1, 2, 0] rfl ?_
  exact h4 v1 (v2 + 1) S
set_option maxHeartbeats 4000000 in
set_option maxRecDepth 100000 in
theorem uX4_pointsWithCopies_4_b (C : CX D [(cA, .int)] p s m args meth c A cX4_pointsWithCopies 3 RX4 (some .int)) (k4 : Int32 → Int32 → St → Rs) (h4 : ∀ (v1 v2 : Int32) (S : St), RU D (wX a cA) p l e 1 s m args below meth c A 3 (QI D (wX a cA) [(cA, .int)] A) (k4 v1 v2 S) 4 [] [(0, .ref (a 1)), (1, .int v1), (2, .int v2)] S) (v1 v2 : Int32) (S : St) : RU D (wX a cA) p l e 1 s m args below meth c A 3 (QI D (wX a cA) [(cA, .int)] A) (fX4_pointsWithCopies_4_b k4 v1 v2 S) 4 [] [(0, .ref (a 1)), (1, .int v1), (2, .int v2)] S := by
  unfold fX4_pointsWithCopies_4_b
  refine R_iload_n C dX4_pointsWithCopies_4 rfl 2 rfl ?_
  refine R_bipush (v := (40 : Int32)) C dX4_pointsWithCopies_5 (by decide) ?_
  refine R_icmp_ge (tgt := 28) C dX4_pointsWithCopies_7 (by decide) ?_ ?_
  · refine R_iload_n C dX4_pointsWithCopies_28 rfl 1 rfl ?_
    exact R_reti C dX4_pointsWithCopies_29
  · refine R_aload_n C dX4_pointsWithCopies_10 rfl 0 rfl ?_
    refine gtX_X4_copyBits C wd_1_53 dX4_pointsWithCopies_11 ?_
    refine R_iload_n C dX4_pointsWithCopies_14 rfl 2 rfl ?_
    refine ldX6 C dX4_pointsWithCopies_15 ?_
    refine R_if_eq (tgt := 22) C dX4_pointsWithCopies_16 (by decide) ?_ ?_
    · exact uX4_pointsWithCopies_22 C k4 h4 v1 v2 S
    · refine R_iinc (v := v1 + 1) (lv' := [(1, .int (v1 + 1)), (0, .ref (a 1)), (2, .int v2)]) C dX4_pointsWithCopies_19 1 rfl rfl (by decide) rfl ?_
      refine R_sub [1, 0, 2] rfl ?_
      exact uX4_pointsWithCopies_22 C k4 h4 (v1 + 1) v2 S
set_option maxHeartbeats 4000000 in
set_option maxRecDepth 100000 in
theorem uX4_pointsWithCopies_4 (C : CX D [(cA, .int)] p s m args meth c A cX4_pointsWithCopies 3 RX4 (some .int)) : ∀ (n : Nat) (v1 v2 : Int32) (S : St), RU D (wX a cA) p l e 1 s m args below meth c A 3 (QI D (wX a cA) [(cA, .int)] A) (fX4_pointsWithCopies_4 n v1 v2 S) 4 [] [(0, .ref (a 1)), (1, .int v1), (2, .int v2)] S := by
  intro n
  induction n with
  | zero => intro v1 v2 S; exact R_none
  | succ n ih => intro v1 v2 S; exact uX4_pointsWithCopies_4_b C _ ih v1 v2 S
set_option maxHeartbeats 4000000 in
set_option maxRecDepth 100000 in
theorem uX4_pointsWithCopies (C : CX D [(cA, .int)] p s m args meth c A cX4_pointsWithCopies 3 RX4 (some .int)) (S : St) : RU D (wX a cA) p l e 1 s m args below meth c A 3 (QI D (wX a cA) [(cA, .int)] A) (fX4_pointsWithCopies S) 0 [] [(0, .ref (a 1))] S := by
  unfold fX4_pointsWithCopies
  refine R_iconst (v := (0 : Int32)) C dX4_pointsWithCopies_0 (by decide) ?_
  refine R_istore_n (lv' := [(1, .int (0 : Int32)), (0, .ref (a 1))]) C dX4_pointsWithCopies_1 rfl (by decide) rfl ?_
  refine R_iconst (v := (0 : Int32)) C dX4_pointsWithCopies_2 (by decide) ?_
  refine R_istore_n (lv' := [(2, .int (0 : Int32)), (1, .int (0 : Int32)), (0, .ref (a 1))]) C dX4_pointsWithCopies_3 rfl (by decide) rfl ?_
  refine R_sub [2, 1, 0] rfl ?_
  exact uX4_pointsWithCopies_4 C FU (0 : Int32) (0 : Int32) S
set_option maxHeartbeats 4000000 in
set_option maxRecDepth 100000 in
theorem kX4_pointsWithCopies (l : Launch) (D : va_G) (a : Nat → Nat) (cA : ClassId) (S : St) : CI l D (wX a cA) [(cA, .int)] yX4_pointsWithCopies (.code yX4_pointsWithCopies cX4_pointsWithCopies 3 (some .int)) 1 [.ref (a 1)] (fX4_pointsWithCopies S) S := CI_of rfl (Nat.le_of_ble_eq_true rfl) (fun p e s m args below meth c A C => uX4_pointsWithCopies C S)
theorem dX5_letters_0 : decode cX5_letters 0 = .ok (.aload_n 0, 1) := by decide +kernel
theorem dX5_letters_1 : decode cX5_letters 1 = .ok (.getfield 18, 3) := by decide +kernel
theorem dX5_letters_4 : decode cX5_letters 4 = .ok (.getfield 61, 3) := by decide +kernel
theorem dX5_letters_7 : decode cX5_letters 7 = .ok (.aload_n 0, 1) := by decide +kernel
theorem dX5_letters_8 : decode cX5_letters 8 = .ok (.getfield 18, 3) := by decide +kernel
theorem dX5_letters_11 : decode cX5_letters 11 = .ok (.invokevirtual 64, 3) := by decide +kernel
theorem dX5_letters_14 : decode cX5_letters 14 = .ok (.isub, 1) := by decide +kernel
theorem dX5_letters_15 : decode cX5_letters 15 = .ok (.istore_n 1, 1) := by decide +kernel
theorem dX5_letters_16 : decode cX5_letters 16 = .ok (.aload_n 0, 1) := by decide +kernel
theorem dX5_letters_17 : decode cX5_letters 17 = .ok (.getfield 22, 3) := by decide +kernel
theorem dX5_letters_20 : decode cX5_letters 20 = .ok (.iconst 2, 1) := by decide +kernel
theorem dX5_letters_21 : decode cX5_letters 21 = .ok (.imul, 1) := by decide +kernel
theorem dX5_letters_22 : decode cX5_letters 22 = .ok (.iload_n 1, 1) := by decide +kernel
theorem dX5_letters_23 : decode cX5_letters 23 = .ok (.imul, 1) := by decide +kernel
theorem dX5_letters_24 : decode cX5_letters 24 = .ok (.ireturn, 1) := by decide +kernel
set_option maxHeartbeats 4000000 in
set_option maxRecDepth 100000 in
theorem uX5_letters (C : CX D [(cA, .int)] p s m args meth c A cX5_letters 2 RX5 (some .int)) (S : St) : RU D (wX a cA) p l e 2 s m args below meth c A 2 (QI D (wX a cA) [(cA, .int)] A) (fX5_letters S) 0 [] [(0, .ref (a 5))] S := by
  unfold fX5_letters
  refine R_aload_n C dX5_letters_0 rfl 0 rfl ?_
  refine gtX_X5_net C wd_1_177 dX5_letters_1 ?_
  refine gtX_X4_allCopies C wd_1_70 dX5_letters_4 ?_
  refine R_aload_n C dX5_letters_7 rfl 0 rfl ?_
  refine gtX_X5_net C wd_1_177 dX5_letters_8 ?_
  refine R_calli (As := []) (st := [.int (S.1 5)]) C (kX4_pointsWithCopies l D a cA S) (by decide) (by decide) wd_2_200 kwX4_pointsWithCopies 1 rfl rfl rfl rfl (Nat.le_of_ble_eq_true rfl) dX5_letters_11 (fun r1 S2 => ?_)
  refine R_isub C dX5_letters_14 ?_
  refine R_let (fun x3 => ?_)
  refine R_istore_n (lv' := [(1, .int x3), (0, .ref (a 5))]) C dX5_letters_15 rfl (by decide) rfl ?_
  refine R_aload_n C dX5_letters_16 rfl 1 rfl ?_
  refine gtX_X5_rounds C wd_1_181 dX5_letters_17 ?_
  refine R_iconst (v := (2 : Int32)) C dX5_letters_20 (by decide) ?_
  refine R_imul C dX5_letters_21 ?_
  refine R_iload_n C dX5_letters_22 rfl 0 rfl ?_
  refine R_imul C dX5_letters_23 ?_
  exact R_reti C dX5_letters_24
set_option maxHeartbeats 4000000 in
set_option maxRecDepth 100000 in
theorem kX5_letters (l : Launch) (D : va_G) (a : Nat → Nat) (cA : ClassId) (S : St) : CI l D (wX a cA) [(cA, .int)] yX5_letters (.code yX5_letters cX5_letters 2 (some .int)) 2 [.ref (a 5)] (fX5_letters S) S := CI_of rfl (Nat.le_of_ble_eq_true rfl) (fun p e s m args below meth c A C => uX5_letters C S)
theorem dX5_partsWithLines_0 : decode cX5_partsWithLines 0 = .ok (.iconst 0, 1) := by decide +kernel
theorem dX5_partsWithLines_1 : decode cX5_partsWithLines 1 = .ok (.istore_n 1, 1) := by decide +kernel
theorem dX5_partsWithLines_2 : decode cX5_partsWithLines 2 = .ok (.iconst 0, 1) := by decide +kernel
theorem dX5_partsWithLines_3 : decode cX5_partsWithLines 3 = .ok (.istore_n 2, 1) := by decide +kernel
theorem dX5_partsWithLines_4 : decode cX5_partsWithLines 4 = .ok (.iload_n 2, 1) := by decide +kernel
theorem dX5_partsWithLines_5 : decode cX5_partsWithLines 5 = .ok (.bipush 40, 2) := by decide +kernel
theorem dX5_partsWithLines_7 : decode cX5_partsWithLines 7 = .ok (.if_icmp .ge 34, 3) := by decide +kernel
theorem dX5_partsWithLines_10 : decode cX5_partsWithLines 10 = .ok (.aload_n 0, 1) := by decide +kernel
theorem dX5_partsWithLines_11 : decode cX5_partsWithLines 11 = .ok (.getfield 9, 3) := by decide +kernel
theorem dX5_partsWithLines_14 : decode cX5_partsWithLines 14 = .ok (.iload_n 2, 1) := by decide +kernel
theorem dX5_partsWithLines_15 : decode cX5_partsWithLines 15 = .ok (.iaload, 1) := by decide +kernel
theorem dX5_partsWithLines_16 : decode cX5_partsWithLines 16 = .ok (.iload_n 2, 1) := by decide +kernel
theorem dX5_partsWithLines_17 : decode cX5_partsWithLines 17 = .ok (.if_icmp .ne 18, 3) := by decide +kernel
theorem dX5_partsWithLines_20 : decode cX5_partsWithLines 20 = .ok (.aload_n 0, 1) := by decide +kernel
theorem dX5_partsWithLines_21 : decode cX5_partsWithLines 21 = .ok (.getfield 18, 3) := by decide +kernel
theorem dX5_partsWithLines_24 : decode cX5_partsWithLines 24 = .ok (.getfield 68, 3) := by decide +kernel
theorem dX5_partsWithLines_27 : decode cX5_partsWithLines 27 = .ok (.iload_n 2, 1) := by decide +kernel
theorem dX5_partsWithLines_28 : decode cX5_partsWithLines 28 = .ok (.iaload, 1) := by decide +kernel
theorem dX5_partsWithLines_29 : decode cX5_partsWithLines 29 = .ok (.ifCond .le 6, 3) := by decide +kernel
theorem dX5_partsWithLines_32 : decode cX5_partsWithLines 32 = .ok (.iinc 1 1, 3) := by decide +kernel
theorem dX5_partsWithLines_35 : decode cX5_partsWithLines 35 = .ok (.iinc 2 1, 3) := by decide +kernel
theorem dX5_partsWithLines_38 : decode cX5_partsWithLines 38 = .ok (.goto (-34), 3) := by decide +kernel
theorem dX5_partsWithLines_41 : decode cX5_partsWithLines 41 = .ok (.iload_n 1, 1) := by decide +kernel
theorem dX5_partsWithLines_42 : decode cX5_partsWithLines 42 = .ok (.ireturn, 1) := by decide +kernel
set_option maxHeartbeats 4000000 in
set_option maxRecDepth 100000 in
theorem uX5_partsWithLines_35 (C : CX D [(cA, .int)] p s m args meth c A cX5_partsWithLines 3 RX5 (some .int)) (k4 : Int32 → Int32 → St → Rs) (h4 : ∀ (v1 v2 : Int32) (S : St), RU D (wX a cA) p l e 1 s m args below meth c A 3 (QI D (wX a cA) [(cA, .int)] A) (k4 v1 v2 S) 4 [] [(0, .ref (a 5)), (1, .int v1), (2, .int v2)] S) (v1 v2 : Int32) (S : St) : RU D (wX a cA) p l e 1 s m args below meth c A 3 (QI D (wX a cA) [(cA, .int)] A) (fX5_partsWithLines_35 k4 v1 v2 S) 35 [] [(0, .ref (a 5)), (1, .int v1), (2, .int v2)] S := by
  unfold fX5_partsWithLines_35
  refine R_iinc (v := v2 + 1) (lv' := [(2, .int (v2 + 1)), (0, .ref (a 5)), (1, .int v1)]) C dX5_partsWithLines_35 2 rfl rfl (by decide) rfl ?_
  refine R_goto (tgt := 4) C dX5_partsWithLines_38 (by decide) ?_
  refine R_sub [1, 2, 0] rfl ?_
  exact h4 v1 (v2 + 1) S
set_option maxHeartbeats 4000000 in
set_option maxRecDepth 100000 in
theorem uX5_partsWithLines_4_b (C : CX D [(cA, .int)] p s m args meth c A cX5_partsWithLines 3 RX5 (some .int)) (k4 : Int32 → Int32 → St → Rs) (h4 : ∀ (v1 v2 : Int32) (S : St), RU D (wX a cA) p l e 1 s m args below meth c A 3 (QI D (wX a cA) [(cA, .int)] A) (k4 v1 v2 S) 4 [] [(0, .ref (a 5)), (1, .int v1), (2, .int v2)] S) (v1 v2 : Int32) (S : St) : RU D (wX a cA) p l e 1 s m args below meth c A 3 (QI D (wX a cA) [(cA, .int)] A) (fX5_partsWithLines_4_b k4 v1 v2 S) 4 [] [(0, .ref (a 5)), (1, .int v1), (2, .int v2)] S := by
  unfold fX5_partsWithLines_4_b
  refine R_iload_n C dX5_partsWithLines_4 rfl 2 rfl ?_
  refine R_bipush (v := (40 : Int32)) C dX5_partsWithLines_5 (by decide) ?_
  refine R_icmp_ge (tgt := 41) C dX5_partsWithLines_7 (by decide) ?_ ?_
  · refine R_iload_n C dX5_partsWithLines_41 rfl 1 rfl ?_
    exact R_reti C dX5_partsWithLines_42
  · refine R_aload_n C dX5_partsWithLines_10 rfl 0 rfl ?_
    refine gtX_X5_values C wd_1_178 dX5_partsWithLines_11 ?_
    refine R_iload_n C dX5_partsWithLines_14 rfl 2 rfl ?_
    refine ldX11 C dX5_partsWithLines_15 ?_
    refine R_iload_n C dX5_partsWithLines_16 rfl 2 rfl ?_
    refine R_icmp_ne (tgt := 35) C dX5_partsWithLines_17 (by decide) ?_ ?_
    · refine R_aload_n C dX5_partsWithLines_20 rfl 0 rfl ?_
      refine gtX_X5_net C wd_1_177 dX5_partsWithLines_21 ?_
      refine gtX_X4_degrees C wd_1_51 dX5_partsWithLines_24 ?_
      refine R_iload_n C dX5_partsWithLines_27 rfl 2 rfl ?_
      refine ldX5 C dX5_partsWithLines_28 ?_
      refine R_if_le (tgt := 35) C dX5_partsWithLines_29 (by decide) ?_ ?_
      · exact uX5_partsWithLines_35 C k4 h4 v1 v2 S
      · refine R_iinc (v := v1 + 1) (lv' := [(1, .int (v1 + 1)), (0, .ref (a 5)), (2, .int v2)]) C dX5_partsWithLines_32 1 rfl rfl (by decide) rfl ?_
        refine R_sub [1, 0, 2] rfl ?_
        exact uX5_partsWithLines_35 C k4 h4 (v1 + 1) v2 S
    · exact uX5_partsWithLines_35 C k4 h4 v1 v2 S
set_option maxHeartbeats 4000000 in
set_option maxRecDepth 100000 in
theorem uX5_partsWithLines_4 (C : CX D [(cA, .int)] p s m args meth c A cX5_partsWithLines 3 RX5 (some .int)) : ∀ (n : Nat) (v1 v2 : Int32) (S : St), RU D (wX a cA) p l e 1 s m args below meth c A 3 (QI D (wX a cA) [(cA, .int)] A) (fX5_partsWithLines_4 n v1 v2 S) 4 [] [(0, .ref (a 5)), (1, .int v1), (2, .int v2)] S := by
  intro n
  induction n with
  | zero => intro v1 v2 S; exact R_none
  | succ n ih => intro v1 v2 S; exact uX5_partsWithLines_4_b C _ ih v1 v2 S
set_option maxHeartbeats 4000000 in
set_option maxRecDepth 100000 in
theorem uX5_partsWithLines (C : CX D [(cA, .int)] p s m args meth c A cX5_partsWithLines 3 RX5 (some .int)) (S : St) : RU D (wX a cA) p l e 1 s m args below meth c A 3 (QI D (wX a cA) [(cA, .int)] A) (fX5_partsWithLines S) 0 [] [(0, .ref (a 5))] S := by
  unfold fX5_partsWithLines
  refine R_iconst (v := (0 : Int32)) C dX5_partsWithLines_0 (by decide) ?_
  refine R_istore_n (lv' := [(1, .int (0 : Int32)), (0, .ref (a 5))]) C dX5_partsWithLines_1 rfl (by decide) rfl ?_
  refine R_iconst (v := (0 : Int32)) C dX5_partsWithLines_2 (by decide) ?_
  refine R_istore_n (lv' := [(2, .int (0 : Int32)), (1, .int (0 : Int32)), (0, .ref (a 5))]) C dX5_partsWithLines_3 rfl (by decide) rfl ?_
  refine R_sub [2, 1, 0] rfl ?_
  exact uX5_partsWithLines_4 C FU (0 : Int32) (0 : Int32) S
set_option maxHeartbeats 4000000 in
set_option maxRecDepth 100000 in
theorem kX5_partsWithLines (l : Launch) (D : va_G) (a : Nat → Nat) (cA : ClassId) (S : St) : CI l D (wX a cA) [(cA, .int)] yX5_partsWithLines (.code yX5_partsWithLines cX5_partsWithLines 3 (some .int)) 1 [.ref (a 5)] (fX5_partsWithLines S) S := CI_of rfl (Nat.le_of_ble_eq_true rfl) (fun p e s m args below meth c A C => uX5_partsWithLines C S)
theorem dX6_run_0 : decode cX6_run 0 = .ok (.iload_n 1, 1) := by decide +kernel
theorem dX6_run_1 : decode cX6_run 1 = .ok (.ifCond .lt 8, 3) := by decide +kernel
theorem dX6_run_4 : decode cX6_run 4 = .ok (.iload_n 1, 1) := by decide +kernel
theorem dX6_run_5 : decode cX6_run 5 = .ok (.iconst 2, 1) := by decide +kernel
theorem dX6_run_6 : decode cX6_run 6 = .ok (.if_icmp .le 5, 3) := by decide +kernel
theorem dX6_run_9 : decode cX6_run 9 = .ok (.iconst (-1), 1) := by decide +kernel
theorem dX6_run_10 : decode cX6_run 10 = .ok (.ireturn, 1) := by decide +kernel
theorem dX6_run_11 : decode cX6_run 11 = .ok (.aload_n 0, 1) := by decide +kernel
theorem dX6_run_12 : decode cX6_run 12 = .ok (.getfield 53, 3) := by decide +kernel
theorem dX6_run_15 : decode cX6_run 15 = .ok (.invokevirtual 148, 3) := by decide +kernel
theorem dX6_run_18 : decode cX6_run 18 = .ok (.iload_n 1, 1) := by decide +kernel
theorem dX6_run_19 : decode cX6_run 19 = .ok (.lookupswitch 41 #[(0, 25), (1, 33)], 25) := by decide +kernel
theorem dX6_run_44 : decode cX6_run 44 = .ok (.aload_n 0, 1) := by decide +kernel
theorem dX6_run_45 : decode cX6_run 45 = .ok (.getfield 53, 3) := by decide +kernel
theorem dX6_run_48 : decode cX6_run 48 = .ok (.getfield 154, 3) := by decide +kernel
theorem dX6_run_51 : decode cX6_run 51 = .ok (.ireturn, 1) := by decide +kernel
theorem dX6_run_52 : decode cX6_run 52 = .ok (.aload_n 0, 1) := by decide +kernel
theorem dX6_run_53 : decode cX6_run 53 = .ok (.getfield 53, 3) := by decide +kernel
theorem dX6_run_56 : decode cX6_run 56 = .ok (.invokevirtual 157, 3) := by decide +kernel
theorem dX6_run_59 : decode cX6_run 59 = .ok (.ireturn, 1) := by decide +kernel
theorem dX6_run_60 : decode cX6_run 60 = .ok (.aload_n 0, 1) := by decide +kernel
theorem dX6_run_61 : decode cX6_run 61 = .ok (.getfield 53, 3) := by decide +kernel
theorem dX6_run_64 : decode cX6_run 64 = .ok (.invokevirtual 161, 3) := by decide +kernel
theorem dX6_run_67 : decode cX6_run 67 = .ok (.ireturn, 1) := by decide +kernel
set_option maxHeartbeats 4000000 in
set_option maxRecDepth 100000 in
theorem uX6_run_9 (C : CX D [(cA, .int)] p s m args meth c A cX6_run 2 RX6 (some .int)) (S : St) : RU D (wX a cA) p l e 4 s m args below meth c A 2 (QI D (wX a cA) [(cA, .int)] A) (fX6_run_9 S) 9 [] [] S := by
  unfold fX6_run_9
  refine R_iconst (v := (-1 : Int32)) C dX6_run_9 (by decide) ?_
  exact R_reti C dX6_run_10
set_option maxHeartbeats 4000000 in
set_option maxRecDepth 100000 in
theorem uX6_run (C : CX D [(cA, .int)] p s m args meth c A cX6_run 2 RX6 (some .int)) (v1 : Int32) (S : St) : RU D (wX a cA) p l e 4 s m args below meth c A 2 (QI D (wX a cA) [(cA, .int)] A) (fX6_run v1 S) 0 [] [(0, .ref (a 0)), (1, .int v1)] S := by
  unfold fX6_run
  refine R_iload_n C dX6_run_0 rfl 1 rfl ?_
  refine R_if_lt (tgt := 9) C dX6_run_1 (by decide) ?_ ?_
  · refine R_sub [] rfl ?_
    exact uX6_run_9 C S
  · refine R_iload_n C dX6_run_4 rfl 1 rfl ?_
    refine R_iconst (v := (2 : Int32)) C dX6_run_5 (by decide) ?_
    refine R_icmp_le (tgt := 11) C dX6_run_6 (by decide) ?_ ?_
    · refine R_aload_n C dX6_run_11 rfl 0 rfl ?_
      refine gtX_X6_spreading C wd_1_209 dX6_run_12 ?_
      refine R_callv (As := []) (st := []) C (kX5_spread l D a cA S) (by decide) (by decide) wd_2_175 kwX5_spread 5 rfl rfl rfl rfl (Nat.le_of_ble_eq_true rfl) dX6_run_15 (fun r1 S2 => ?_)
      refine R_iload_n C dX6_run_18 rfl 1 rfl ?_
      refine R_eq (v := 0) (fun _ => ?_) (fun q0 => ?_)
      · refine R_lsw (tgt := 44) C dX6_run_19 (by decide) (by decide +kernel : _ = (25 : Int)) (by decide) ?_
        refine R_aload_n C dX6_run_44 rfl 0 rfl ?_
        refine gtX_X6_spreading C wd_1_209 dX6_run_45 ?_
        refine gtX_X5_rounds C wd_1_182 dX6_run_48 ?_
        exact R_reti C dX6_run_51
      refine R_eq (v := 1) (fun _ => ?_) (fun q1 => ?_)
      · refine R_lsw (tgt := 52) C dX6_run_19 (by decide) (by decide +kernel : _ = (33 : Int)) (by decide) ?_
        refine R_aload_n C dX6_run_52 rfl 0 rfl ?_
        refine gtX_X6_spreading C wd_1_209 dX6_run_53 ?_
        refine R_calli (As := []) (st := []) C (kX5_letters l D a cA S2) (by decide) (by decide) wd_2_196 kwX5_letters 5 rfl rfl rfl rfl (Nat.le_of_ble_eq_true rfl) dX6_run_56 (fun r3 S4 => ?_)
        exact R_reti C dX6_run_59
      refine R_lsw (tgt := 60) C dX6_run_19 (by decide) (off := 41) ((lv_osw q0 rfl).trans ((lv_osw q1 rfl).trans (rfl))) (by decide) ?_
      refine R_aload_n C dX6_run_60 rfl 0 rfl ?_
      refine gtX_X6_spreading C wd_1_209 dX6_run_61 ?_
      refine R_calli (As := []) (st := []) C (kX5_partsWithLines l D a cA S2) (by decide) (by decide) wd_2_204 kwX5_partsWithLines 5 rfl rfl rfl rfl (Nat.le_of_ble_eq_true rfl) dX6_run_64 (fun r5 S6 => ?_)
      exact R_reti C dX6_run_67
    · refine R_sub [] rfl ?_
      exact uX6_run_9 C S
set_option maxHeartbeats 4000000 in
set_option maxRecDepth 100000 in
theorem kX6_run (l : Launch) (D : va_G) (a : Nat → Nat) (cA : ClassId) (S : St) (v1 : Int32) : CI l D (wX a cA) [(cA, .int)] yX6_run (.code yX6_run cX6_run 2 (some .int)) 4 [.ref (a 0), .int v1] (fX6_run v1 S) S := CI_of rfl (Nat.le_of_ble_eq_true rfl) (fun p e s m args below meth c A C => uX6_run C v1 S)
theorem dX2_leastMasterFor_0 : decode cX2_leastMasterFor 0 = .ok (.iconst (-1), 1) := by decide +kernel
theorem dX2_leastMasterFor_1 : decode cX2_leastMasterFor 1 = .ok (.istore_n 2, 1) := by decide +kernel
theorem dX2_leastMasterFor_2 : decode cX2_leastMasterFor 2 = .ok (.iconst 0, 1) := by decide +kernel
theorem dX2_leastMasterFor_3 : decode cX2_leastMasterFor 3 = .ok (.istore_n 3, 1) := by decide +kernel
theorem dX2_leastMasterFor_4 : decode cX2_leastMasterFor 4 = .ok (.iload_n 3, 1) := by decide +kernel
theorem dX2_leastMasterFor_5 : decode cX2_leastMasterFor 5 = .ok (.aload_n 0, 1) := by decide +kernel
theorem dX2_leastMasterFor_6 : decode cX2_leastMasterFor 6 = .ok (.getfield 15, 3) := by decide +kernel
theorem dX2_leastMasterFor_9 : decode cX2_leastMasterFor 9 = .ok (.getfield 29, 3) := by decide +kernel
theorem dX2_leastMasterFor_12 : decode cX2_leastMasterFor 12 = .ok (.if_icmp .ge 43, 3) := by decide +kernel
theorem dX2_leastMasterFor_15 : decode cX2_leastMasterFor 15 = .ok (.aload_n 0, 1) := by decide +kernel
theorem dX2_leastMasterFor_16 : decode cX2_leastMasterFor 16 = .ok (.getfield 15, 3) := by decide +kernel
theorem dX2_leastMasterFor_19 : decode cX2_leastMasterFor 19 = .ok (.iload_n 1, 1) := by decide +kernel
theorem dX2_leastMasterFor_20 : decode cX2_leastMasterFor 20 = .ok (.iload_n 3, 1) := by decide +kernel
theorem dX2_leastMasterFor_21 : decode cX2_leastMasterFor 21 = .ok (.invokevirtual 35, 3) := by decide +kernel
theorem dX2_leastMasterFor_24 : decode cX2_leastMasterFor 24 = .ok (.ifCond .eq 25, 3) := by decide +kernel
theorem dX2_leastMasterFor_27 : decode cX2_leastMasterFor 27 = .ok (.iload_n 2, 1) := by decide +kernel
theorem dX2_leastMasterFor_28 : decode cX2_leastMasterFor 28 = .ok (.iconst (-1), 1) := by decide +kernel
theorem dX2_leastMasterFor_29 : decode cX2_leastMasterFor 29 = .ok (.if_icmp .eq 18, 3) := by decide +kernel
theorem dX2_leastMasterFor_32 : decode cX2_leastMasterFor 32 = .ok (.aload_n 0, 1) := by decide +kernel
theorem dX2_leastMasterFor_33 : decode cX2_leastMasterFor 33 = .ok (.getfield 9, 3) := by decide +kernel
theorem dX2_leastMasterFor_36 : decode cX2_leastMasterFor 36 = .ok (.iload_n 3, 1) := by decide +kernel
theorem dX2_leastMasterFor_37 : decode cX2_leastMasterFor 37 = .ok (.iaload, 1) := by decide +kernel
theorem dX2_leastMasterFor_38 : decode cX2_leastMasterFor 38 = .ok (.aload_n 0, 1) := by decide +kernel
theorem dX2_leastMasterFor_39 : decode cX2_leastMasterFor 39 = .ok (.getfield 9, 3) := by decide +kernel
theorem dX2_leastMasterFor_42 : decode cX2_leastMasterFor 42 = .ok (.iload_n 2, 1) := by decide +kernel
theorem dX2_leastMasterFor_43 : decode cX2_leastMasterFor 43 = .ok (.iaload, 1) := by decide +kernel
theorem dX2_leastMasterFor_44 : decode cX2_leastMasterFor 44 = .ok (.if_icmp .ge 5, 3) := by decide +kernel
theorem dX2_leastMasterFor_47 : decode cX2_leastMasterFor 47 = .ok (.iload_n 3, 1) := by decide +kernel
theorem dX2_leastMasterFor_48 : decode cX2_leastMasterFor 48 = .ok (.istore_n 2, 1) := by decide +kernel
theorem dX2_leastMasterFor_49 : decode cX2_leastMasterFor 49 = .ok (.iinc 3 1, 3) := by decide +kernel
theorem dX2_leastMasterFor_52 : decode cX2_leastMasterFor 52 = .ok (.goto (-48), 3) := by decide +kernel
theorem dX2_leastMasterFor_55 : decode cX2_leastMasterFor 55 = .ok (.iload_n 2, 1) := by decide +kernel
theorem dX2_leastMasterFor_56 : decode cX2_leastMasterFor 56 = .ok (.ireturn, 1) := by decide +kernel
set_option maxHeartbeats 4000000 in
set_option maxRecDepth 100000 in
theorem uX2_leastMasterFor_49 (C : CX D [(cA, .int)] p s m args meth c A cX2_leastMasterFor 4 RX2 (some .int)) (k4 : Int32 → Int32 → Int32 → St → Rs) (h4 : ∀ (v1 v2 v3 : Int32) (S : St), RU D (wX a cA) p l e 2 s m args below meth c A 4 (QI D (wX a cA) [(cA, .int)] A) (k4 v1 v2 v3 S) 4 [] [(0, .ref (a 6)), (1, .int v1), (2, .int v2), (3, .int v3)] S) (v1 v2 v3 : Int32) (S : St) : RU D (wX a cA) p l e 2 s m args below meth c A 4 (QI D (wX a cA) [(cA, .int)] A) (fX2_leastMasterFor_49 k4 v1 v2 v3 S) 49 [] [(0, .ref (a 6)), (1, .int v1), (2, .int v2), (3, .int v3)] S := by
  unfold fX2_leastMasterFor_49
  refine R_iinc (v := v3 + 1) (lv' := [(3, .int (v3 + 1)), (0, .ref (a 6)), (1, .int v1), (2, .int v2)]) C dX2_leastMasterFor_49 3 rfl rfl (by decide) rfl ?_
  refine R_goto (tgt := 4) C dX2_leastMasterFor_52 (by decide) ?_
  refine R_sub [1, 2, 3, 0] rfl ?_
  exact h4 v1 v2 (v3 + 1) S
set_option maxHeartbeats 4000000 in
set_option maxRecDepth 100000 in
theorem uX2_leastMasterFor_47 (C : CX D [(cA, .int)] p s m args meth c A cX2_leastMasterFor 4 RX2 (some .int)) (k4 : Int32 → Int32 → Int32 → St → Rs) (h4 : ∀ (v1 v2 v3 : Int32) (S : St), RU D (wX a cA) p l e 2 s m args below meth c A 4 (QI D (wX a cA) [(cA, .int)] A) (k4 v1 v2 v3 S) 4 [] [(0, .ref (a 6)), (1, .int v1), (2, .int v2), (3, .int v3)] S) (v1 v3 : Int32) (S : St) : RU D (wX a cA) p l e 2 s m args below meth c A 4 (QI D (wX a cA) [(cA, .int)] A) (fX2_leastMasterFor_47 k4 v1 v3 S) 47 [] [(0, .ref (a 6)), (1, .int v1), (3, .int v3)] S := by
  unfold fX2_leastMasterFor_47
  refine R_iload_n C dX2_leastMasterFor_47 rfl 2 rfl ?_
  refine R_istore_n (lv' := [(2, .int v3), (0, .ref (a 6)), (1, .int v1), (3, .int v3)]) C dX2_leastMasterFor_48 rfl (by decide) rfl ?_
  refine R_sub [1, 2, 0, 3] rfl ?_
  exact uX2_leastMasterFor_49 C k4 h4 v1 v3 v3 S
set_option maxHeartbeats 4000000 in
set_option maxRecDepth 100000 in
theorem uX2_leastMasterFor_4_b (C : CX D [(cA, .int)] p s m args meth c A cX2_leastMasterFor 4 RX2 (some .int)) (k4 : Int32 → Int32 → Int32 → St → Rs) (h4 : ∀ (v1 v2 v3 : Int32) (S : St), RU D (wX a cA) p l e 2 s m args below meth c A 4 (QI D (wX a cA) [(cA, .int)] A) (k4 v1 v2 v3 S) 4 [] [(0, .ref (a 6)), (1, .int v1), (2, .int v2), (3, .int v3)] S) (v1 v2 v3 : Int32) (S : St) : RU D (wX a cA) p l e 2 s m args below meth c A 4 (QI D (wX a cA) [(cA, .int)] A) (fX2_leastMasterFor_4_b k4 v1 v2 v3 S) 4 [] [(0, .ref (a 6)), (1, .int v1), (2, .int v2), (3, .int v3)] S := by
  unfold fX2_leastMasterFor_4_b
  refine R_iload_n C dX2_leastMasterFor_4 rfl 3 rfl ?_
  refine R_aload_n C dX2_leastMasterFor_5 rfl 0 rfl ?_
  refine gtX_X2_net C wd_1_198 dX2_leastMasterFor_6 ?_
  refine gtX_X4_hosts C wd_1_58 dX2_leastMasterFor_9 ?_
  refine R_icmp_ge (tgt := 55) C dX2_leastMasterFor_12 (by decide) ?_ ?_
  · refine R_iload_n C dX2_leastMasterFor_55 rfl 2 rfl ?_
    exact R_reti C dX2_leastMasterFor_56
  · refine R_aload_n C dX2_leastMasterFor_15 rfl 0 rfl ?_
    refine gtX_X2_net C wd_1_198 dX2_leastMasterFor_16 ?_
    refine R_iload_n C dX2_leastMasterFor_19 rfl 1 rfl ?_
    refine R_iload_n C dX2_leastMasterFor_20 rfl 3 rfl ?_
    refine R_calli (As := [.int v1, .int v3]) (st := []) C (kX4_hasCopy l D a cA S v1 v3) (by decide) (by decide) wd_2_223 kwX4_hasCopy 1 rfl rfl rfl rfl (Nat.le_of_ble_eq_true rfl) dX2_leastMasterFor_21 (fun r1 S2 => ?_)
    refine R_if_eq (tgt := 49) C dX2_leastMasterFor_24 (by decide) ?_ ?_
    · exact uX2_leastMasterFor_49 C k4 h4 v1 v2 v3 S2
    · refine R_iload_n C dX2_leastMasterFor_27 rfl 2 rfl ?_
      refine R_iconst (v := (-1 : Int32)) C dX2_leastMasterFor_28 (by decide) ?_
      refine R_icmp_eq (tgt := 47) C dX2_leastMasterFor_29 (by decide) ?_ ?_
      · refine R_sub [0, 1, 3] rfl ?_
        exact uX2_leastMasterFor_47 C k4 h4 v1 v3 S2
      · refine R_aload_n C dX2_leastMasterFor_32 rfl 0 rfl ?_
        refine gtX_X2_mastered C wd_1_199 dX2_leastMasterFor_33 ?_
        refine R_iload_n C dX2_leastMasterFor_36 rfl 3 rfl ?_
        refine ldX13 C dX2_leastMasterFor_37 ?_
        refine R_aload_n C dX2_leastMasterFor_38 rfl 0 rfl ?_
        refine gtX_X2_mastered C wd_1_199 dX2_leastMasterFor_39 ?_
        refine R_iload_n C dX2_leastMasterFor_42 rfl 2 rfl ?_
        refine ldX13 C dX2_leastMasterFor_43 ?_
        refine R_icmp_ge (tgt := 49) C dX2_leastMasterFor_44 (by decide) ?_ ?_
        · exact uX2_leastMasterFor_49 C k4 h4 v1 v2 v3 S2
        · refine R_sub [0, 1, 3] rfl ?_
          exact uX2_leastMasterFor_47 C k4 h4 v1 v3 S2
set_option maxHeartbeats 4000000 in
set_option maxRecDepth 100000 in
theorem uX2_leastMasterFor_4 (C : CX D [(cA, .int)] p s m args meth c A cX2_leastMasterFor 4 RX2 (some .int)) : ∀ (n : Nat) (v1 v2 v3 : Int32) (S : St), RU D (wX a cA) p l e 2 s m args below meth c A 4 (QI D (wX a cA) [(cA, .int)] A) (fX2_leastMasterFor_4 n v1 v2 v3 S) 4 [] [(0, .ref (a 6)), (1, .int v1), (2, .int v2), (3, .int v3)] S := by
  intro n
  induction n with
  | zero => intro v1 v2 v3 S; exact R_none
  | succ n ih => intro v1 v2 v3 S; exact uX2_leastMasterFor_4_b C _ ih v1 v2 v3 S
set_option maxHeartbeats 4000000 in
set_option maxRecDepth 100000 in
theorem uX2_leastMasterFor (C : CX D [(cA, .int)] p s m args meth c A cX2_leastMasterFor 4 RX2 (some .int)) (v1 : Int32) (S : St) : RU D (wX a cA) p l e 2 s m args below meth c A 4 (QI D (wX a cA) [(cA, .int)] A) (fX2_leastMasterFor v1 S) 0 [] [(0, .ref (a 6)), (1, .int v1)] S := by
  unfold fX2_leastMasterFor
  refine R_iconst (v := (-1 : Int32)) C dX2_leastMasterFor_0 (by decide) ?_
  refine R_istore_n (lv' := [(2, .int (-1 : Int32)), (0, .ref (a 6)), (1, .int v1)]) C dX2_leastMasterFor_1 rfl (by decide) rfl ?_
  refine R_iconst (v := (0 : Int32)) C dX2_leastMasterFor_2 (by decide) ?_
  refine R_istore_n (lv' := [(3, .int (0 : Int32)), (2, .int (-1 : Int32)), (0, .ref (a 6)), (1, .int v1)]) C dX2_leastMasterFor_3 rfl (by decide) rfl ?_
  refine R_sub [2, 3, 1, 0] rfl ?_
  exact uX2_leastMasterFor_4 C FU v1 (-1 : Int32) (0 : Int32) S
set_option maxHeartbeats 4000000 in
set_option maxRecDepth 100000 in
theorem kX2_leastMasterFor (l : Launch) (D : va_G) (a : Nat → Nat) (cA : ClassId) (S : St) (v1 : Int32) : CI l D (wX a cA) [(cA, .int)] yX2_leastMasterFor (.code yX2_leastMasterFor cX2_leastMasterFor 4 (some .int)) 2 [.ref (a 6), .int v1] (fX2_leastMasterFor v1 S) S := CI_of rfl (Nat.le_of_ble_eq_true rfl) (fun p e s m args below meth c A C => uX2_leastMasterFor C v1 S)
theorem dX2_masterOf_0 : decode cX2_masterOf 0 = .ok (.aload_n 0, 1) := by decide +kernel
theorem dX2_masterOf_1 : decode cX2_masterOf 1 = .ok (.getfield 9, 3) := by decide +kernel
theorem dX2_masterOf_4 : decode cX2_masterOf 4 = .ok (.iconst 0, 1) := by decide +kernel
theorem dX2_masterOf_5 : decode cX2_masterOf 5 = .ok (.invokestatic 19, 3) := by decide +kernel
theorem dX2_masterOf_8 : decode cX2_masterOf 8 = .ok (.iconst (-1), 1) := by decide +kernel
theorem dX2_masterOf_9 : decode cX2_masterOf 9 = .ok (.istore_n 2, 1) := by decide +kernel
theorem dX2_masterOf_10 : decode cX2_masterOf 10 = .ok (.iconst 0, 1) := by decide +kernel
theorem dX2_masterOf_11 : decode cX2_masterOf 11 = .ok (.istore_n 3, 1) := by decide +kernel
theorem dX2_masterOf_12 : decode cX2_masterOf 12 = .ok (.iload_n 3, 1) := by decide +kernel
theorem dX2_masterOf_13 : decode cX2_masterOf 13 = .ok (.iload_n 1, 1) := by decide +kernel
theorem dX2_masterOf_14 : decode cX2_masterOf 14 = .ok (.if_icmp .gt 30, 3) := by decide +kernel
theorem dX2_masterOf_17 : decode cX2_masterOf 17 = .ok (.aload_n 0, 1) := by decide +kernel
theorem dX2_masterOf_18 : decode cX2_masterOf 18 = .ok (.iload_n 3, 1) := by decide +kernel
theorem dX2_masterOf_19 : decode cX2_masterOf 19 = .ok (.invokevirtual 25, 3) := by decide +kernel
theorem dX2_masterOf_22 : decode cX2_masterOf 22 = .ok (.istore_n 2, 1) := by decide +kernel
theorem dX2_masterOf_23 : decode cX2_masterOf 23 = .ok (.iload_n 2, 1) := by decide +kernel
theorem dX2_masterOf_24 : decode cX2_masterOf 24 = .ok (.iconst (-1), 1) := by decide +kernel
theorem dX2_masterOf_25 : decode cX2_masterOf 25 = .ok (.if_icmp .eq 13, 3) := by decide +kernel
theorem dX2_masterOf_28 : decode cX2_masterOf 28 = .ok (.aload_n 0, 1) := by decide +kernel
theorem dX2_masterOf_29 : decode cX2_masterOf 29 = .ok (.getfield 9, 3) := by decide +kernel
theorem dX2_masterOf_32 : decode cX2_masterOf 32 = .ok (.iload_n 2, 1) := by decide +kernel
theorem dX2_masterOf_33 : decode cX2_masterOf 33 = .ok (.dup2, 1) := by decide +kernel
theorem dX2_masterOf_34 : decode cX2_masterOf 34 = .ok (.iaload, 1) := by decide +kernel
theorem dX2_masterOf_35 : decode cX2_masterOf 35 = .ok (.iconst 1, 1) := by decide +kernel
theorem dX2_masterOf_36 : decode cX2_masterOf 36 = .ok (.iadd, 1) := by decide +kernel
theorem dX2_masterOf_37 : decode cX2_masterOf 37 = .ok (.iastore, 1) := by decide +kernel
theorem dX2_masterOf_38 : decode cX2_masterOf 38 = .ok (.iinc 3 1, 3) := by decide +kernel
theorem dX2_masterOf_41 : decode cX2_masterOf 41 = .ok (.goto (-29), 3) := by decide +kernel
theorem dX2_masterOf_44 : decode cX2_masterOf 44 = .ok (.iload_n 2, 1) := by decide +kernel
theorem dX2_masterOf_45 : decode cX2_masterOf 45 = .ok (.ireturn, 1) := by decide +kernel
set_option maxHeartbeats 4000000 in
set_option maxRecDepth 100000 in
theorem uX2_masterOf_38 (C : CX D [(cA, .int)] p s m args meth c A cX2_masterOf 4 RX2 (some .int)) (k12 : Int32 → Int32 → Int32 → St → Rs) (h12 : ∀ (v1 v2 v3 : Int32) (S : St), RU D (wX a cA) p l e 3 s m args below meth c A 4 (QI D (wX a cA) [(cA, .int)] A) (k12 v1 v2 v3 S) 12 [] [(0, .ref (a 6)), (1, .int v1), (2, .int v2), (3, .int v3)] S) (v1 v2 v3 : Int32) (S : St) : RU D (wX a cA) p l e 3 s m args below meth c A 4 (QI D (wX a cA) [(cA, .int)] A) (fX2_masterOf_38 k12 v1 v2 v3 S) 38 [] [(0, .ref (a 6)), (1, .int v1), (2, .int v2), (3, .int v3)] S := by
  unfold fX2_masterOf_38
  refine R_iinc (v := v3 + 1) (lv' := [(3, .int (v3 + 1)), (0, .ref (a 6)), (1, .int v1), (2, .int v2)]) C dX2_masterOf_38 3 rfl rfl (by decide) rfl ?_
  refine R_goto (tgt := 12) C dX2_masterOf_41 (by decide) ?_
  refine R_sub [1, 2, 3, 0] rfl ?_
  exact h12 v1 v2 (v3 + 1) S
set_option maxHeartbeats 4000000 in
set_option maxRecDepth 100000 in
theorem uX2_masterOf_12_b (C : CX D [(cA, .int)] p s m args meth c A cX2_masterOf 4 RX2 (some .int)) (k12 : Int32 → Int32 → Int32 → St → Rs) (h12 : ∀ (v1 v2 v3 : Int32) (S : St), RU D (wX a cA) p l e 3 s m args below meth c A 4 (QI D (wX a cA) [(cA, .int)] A) (k12 v1 v2 v3 S) 12 [] [(0, .ref (a 6)), (1, .int v1), (2, .int v2), (3, .int v3)] S) (v1 v2 v3 : Int32) (S : St) : RU D (wX a cA) p l e 3 s m args below meth c A 4 (QI D (wX a cA) [(cA, .int)] A) (fX2_masterOf_12_b k12 v1 v2 v3 S) 12 [] [(0, .ref (a 6)), (1, .int v1), (2, .int v2), (3, .int v3)] S := by
  unfold fX2_masterOf_12_b
  refine R_iload_n C dX2_masterOf_12 rfl 3 rfl ?_
  refine R_iload_n C dX2_masterOf_13 rfl 1 rfl ?_
  refine R_icmp_gt (tgt := 44) C dX2_masterOf_14 (by decide) ?_ ?_
  · refine R_iload_n C dX2_masterOf_44 rfl 2 rfl ?_
    exact R_reti C dX2_masterOf_45
  · refine R_aload_n C dX2_masterOf_17 rfl 0 rfl ?_
    refine R_iload_n C dX2_masterOf_18 rfl 3 rfl ?_
    refine R_calli (As := [.int v3]) (st := []) C (kX2_leastMasterFor l D a cA S v3) (by decide) (by decide) wd_2_219 kwX2_leastMasterFor 6 rfl rfl rfl rfl (Nat.le_of_ble_eq_true rfl) dX2_masterOf_19 (fun r1 S2 => ?_)
    refine R_istore_n (lv' := [(2, .int r1), (0, .ref (a 6)), (1, .int v1), (3, .int v3)]) C dX2_masterOf_22 rfl (by decide) rfl ?_
    refine R_iload_n C dX2_masterOf_23 rfl 0 rfl ?_
    refine R_iconst (v := (-1 : Int32)) C dX2_masterOf_24 (by decide) ?_
    refine R_icmp_eq (tgt := 38) C dX2_masterOf_25 (by decide) ?_ ?_
    · refine R_sub [1, 2, 0, 3] rfl ?_
      exact uX2_masterOf_38 C k12 h12 v1 r1 v3 S2
    · refine R_aload_n C dX2_masterOf_28 rfl 1 rfl ?_
      refine gtX_X2_mastered C wd_1_199 dX2_masterOf_29 ?_
      refine R_iload_n C dX2_masterOf_32 rfl 0 rfl ?_
      refine R_dup2 C dX2_masterOf_33 rfl rfl ?_
      refine ldX13 C dX2_masterOf_34 ?_
      refine R_iconst (v := (1 : Int32)) C dX2_masterOf_35 (by decide) ?_
      refine R_iadd C dX2_masterOf_36 ?_
      refine svX13 C dX2_masterOf_37 ?_
      refine R_letS (fun S3 => ?_)
      refine R_sub [1, 2, 0, 3] rfl ?_
      exact uX2_masterOf_38 C k12 h12 v1 r1 v3 S3
set_option maxHeartbeats 4000000 in
set_option maxRecDepth 100000 in
theorem uX2_masterOf_12 (C : CX D [(cA, .int)] p s m args meth c A cX2_masterOf 4 RX2 (some .int)) : ∀ (n : Nat) (v1 v2 v3 : Int32) (S : St), RU D (wX a cA) p l e 3 s m args below meth c A 4 (QI D (wX a cA) [(cA, .int)] A) (fX2_masterOf_12 n v1 v2 v3 S) 12 [] [(0, .ref (a 6)), (1, .int v1), (2, .int v2), (3, .int v3)] S := by
  intro n
  induction n with
  | zero => intro v1 v2 v3 S; exact R_none
  | succ n ih => intro v1 v2 v3 S; exact uX2_masterOf_12_b C _ ih v1 v2 v3 S
set_option maxHeartbeats 4000000 in
set_option maxRecDepth 100000 in
theorem uX2_masterOf (C : CX D [(cA, .int)] p s m args meth c A cX2_masterOf 4 RX2 (some .int)) (v1 : Int32) (S : St) : RU D (wX a cA) p l e 3 s m args below meth c A 4 (QI D (wX a cA) [(cA, .int)] A) (fX2_masterOf v1 S) 0 [] [(0, .ref (a 6)), (1, .int v1)] S := by
  unfold fX2_masterOf
  refine R_aload_n C dX2_masterOf_0 rfl 0 rfl ?_
  refine gtX_X2_mastered C wd_1_199 dX2_masterOf_1 ?_
  refine R_iconst (v := (0 : Int32)) C dX2_masterOf_4 (by decide) ?_
  refine R_callsv (As := [.ref (a 20), .int (0 : Int32)]) (st := []) C (kJ7_fill_53178 l D a cA S (0 : Int32)) (by decide) (by decide) wd_2_216 kwJ7_fill_53178 rfl rfl (Nat.le_of_ble_eq_true rfl) dX2_masterOf_5 (fun r1 S2 => ?_)
  refine R_iconst (v := (-1 : Int32)) C dX2_masterOf_8 (by decide) ?_
  refine R_istore_n (lv' := [(2, .int (-1 : Int32)), (0, .ref (a 6)), (1, .int v1)]) C dX2_masterOf_9 rfl (by decide) rfl ?_
  refine R_iconst (v := (0 : Int32)) C dX2_masterOf_10 (by decide) ?_
  refine R_istore_n (lv' := [(3, .int (0 : Int32)), (2, .int (-1 : Int32)), (0, .ref (a 6)), (1, .int v1)]) C dX2_masterOf_11 rfl (by decide) rfl ?_
  refine R_sub [2, 3, 1, 0] rfl ?_
  exact uX2_masterOf_12 C FU v1 (-1 : Int32) (0 : Int32) S2
set_option maxHeartbeats 4000000 in
set_option maxRecDepth 100000 in
theorem kX2_masterOf (l : Launch) (D : va_G) (a : Nat → Nat) (cA : ClassId) (S : St) (v1 : Int32) : CI l D (wX a cA) [(cA, .int)] yX2_masterOf (.code yX2_masterOf cX2_masterOf 4 (some .int)) 3 [.ref (a 6), .int v1] (fX2_masterOf v1 S) S := CI_of rfl (Nat.le_of_ble_eq_true rfl) (fun p e s m args below meth c A C => uX2_masterOf C v1 S)
theorem dX6_master_0 : decode cX6_master 0 = .ok (.iload_n 1, 1) := by decide +kernel
theorem dX6_master_1 : decode cX6_master 1 = .ok (.invokestatic 68, 3) := by decide +kernel
theorem dX6_master_4 : decode cX6_master 4 = .ok (.ifCond .eq 14, 3) := by decide +kernel
theorem dX6_master_7 : decode cX6_master 7 = .ok (.aload_n 0, 1) := by decide +kernel
theorem dX6_master_8 : decode cX6_master 8 = .ok (.getfield 60, 3) := by decide +kernel
theorem dX6_master_11 : decode cX6_master 11 = .ok (.iload_n 1, 1) := by decide +kernel
theorem dX6_master_12 : decode cX6_master 12 = .ok (.invokevirtual 164, 3) := by decide +kernel
theorem dX6_master_15 : decode cX6_master 15 = .ok (.goto 4, 3) := by decide +kernel
theorem dX6_master_18 : decode cX6_master 18 = .ok (.iconst (-1), 1) := by decide +kernel
theorem dX6_master_19 : decode cX6_master 19 = .ok (.ireturn, 1) := by decide +kernel
set_option maxHeartbeats 4000000 in
set_option maxRecDepth 100000 in
theorem uX6_master_19 (C : CX D [(cA, .int)] p s m args meth c A cX6_master 2 RX6 (some .int)) (t0 : Int32) (S : St) : RU D (wX a cA) p l e 4 s m args below meth c A 2 (QI D (wX a cA) [(cA, .int)] A) (fX6_master_19 t0 S) 19 [.int t0] [] S := by
  unfold fX6_master_19
  exact R_reti C dX6_master_19
set_option maxHeartbeats 4000000 in
set_option maxRecDepth 100000 in
theorem uX6_master (C : CX D [(cA, .int)] p s m args meth c A cX6_master 2 RX6 (some .int)) (v1 : Int32) (S : St) : RU D (wX a cA) p l e 4 s m args below meth c A 2 (QI D (wX a cA) [(cA, .int)] A) (fX6_master v1 S) 0 [] [(0, .ref (a 0)), (1, .int v1)] S := by
  unfold fX6_master
  refine R_iload_n C dX6_master_0 rfl 1 rfl ?_
  refine R_calls (As := [.int v1]) (st := []) C (kX6_isPoint l D a cA S v1) (by decide) (by decide) wd_1_237 kwX6_isPoint rfl rfl (Nat.le_of_ble_eq_true rfl) dX6_master_1 (fun r1 S2 => ?_)
  refine R_if_eq (tgt := 18) C dX6_master_4 (by decide) ?_ ?_
  · refine R_iconst (v := (-1 : Int32)) C dX6_master_18 (by decide) ?_
    refine R_sub [] rfl ?_
    exact uX6_master_19 C (-1 : Int32) S2
  · refine R_aload_n C dX6_master_7 rfl 0 rfl ?_
    refine gtX_X6_mastering C wd_1_210 dX6_master_8 ?_
    refine R_iload_n C dX6_master_11 rfl 1 rfl ?_
    refine R_calli (As := [.int v1]) (st := []) C (kX2_masterOf l D a cA S2 v1) (by decide) (by decide) wd_2_212 kwX2_masterOf 6 rfl rfl rfl rfl (Nat.le_of_ble_eq_true rfl) dX6_master_12 (fun r3 S4 => ?_)
    refine R_goto (tgt := 19) C dX6_master_15 (by decide) ?_
    refine R_sub [] rfl ?_
    exact uX6_master_19 C r3 S4
set_option maxHeartbeats 4000000 in
set_option maxRecDepth 100000 in
theorem kX6_master (l : Launch) (D : va_G) (a : Nat → Nat) (cA : ClassId) (S : St) (v1 : Int32) : CI l D (wX a cA) [(cA, .int)] yX6_master (.code yX6_master cX6_master 2 (some .int)) 4 [.ref (a 0), .int v1] (fX6_master v1 S) S := CI_of rfl (Nat.le_of_ble_eq_true rfl) (fun p e s m args below meth c A C => uX6_master C v1 S)
theorem dX4_leastLoad_0 : decode cX4_leastLoad 0 = .ok (.aload_n 0, 1) := by decide +kernel
theorem dX4_leastLoad_1 : decode cX4_leastLoad 1 = .ok (.getfield 44, 3) := by decide +kernel
theorem dX4_leastLoad_4 : decode cX4_leastLoad 4 = .ok (.istore_n 1, 1) := by decide +kernel
theorem dX4_leastLoad_5 : decode cX4_leastLoad 5 = .ok (.iconst 0, 1) := by decide +kernel
theorem dX4_leastLoad_6 : decode cX4_leastLoad 6 = .ok (.istore_n 2, 1) := by decide +kernel
theorem dX4_leastLoad_7 : decode cX4_leastLoad 7 = .ok (.iload_n 2, 1) := by decide +kernel
theorem dX4_leastLoad_8 : decode cX4_leastLoad 8 = .ok (.aload_n 0, 1) := by decide +kernel
theorem dX4_leastLoad_9 : decode cX4_leastLoad 9 = .ok (.getfield 33, 3) := by decide +kernel
theorem dX4_leastLoad_12 : decode cX4_leastLoad 12 = .ok (.if_icmp .ge 20, 3) := by decide +kernel
theorem dX4_leastLoad_15 : decode cX4_leastLoad 15 = .ok (.iload_n 1, 1) := by decide +kernel
theorem dX4_leastLoad_16 : decode cX4_leastLoad 16 = .ok (.aload_n 0, 1) := by decide +kernel
theorem dX4_leastLoad_17 : decode cX4_leastLoad 17 = .ok (.getfield 21, 3) := by decide +kernel
theorem dX4_leastLoad_20 : decode cX4_leastLoad 20 = .ok (.iload_n 2, 1) := by decide +kernel
theorem dX4_leastLoad_21 : decode cX4_leastLoad 21 = .ok (.iaload, 1) := by decide +kernel
theorem dX4_leastLoad_22 : decode cX4_leastLoad 22 = .ok (.invokestatic 72, 3) := by decide +kernel
theorem dX4_leastLoad_25 : decode cX4_leastLoad 25 = .ok (.istore_n 1, 1) := by decide +kernel
theorem dX4_leastLoad_26 : decode cX4_leastLoad 26 = .ok (.iinc 2 1, 3) := by decide +kernel
theorem dX4_leastLoad_29 : decode cX4_leastLoad 29 = .ok (.goto (-22), 3) := by decide +kernel
theorem dX4_leastLoad_32 : decode cX4_leastLoad 32 = .ok (.iload_n 1, 1) := by decide +kernel
theorem dX4_leastLoad_33 : decode cX4_leastLoad 33 = .ok (.ireturn, 1) := by decide +kernel
set_option maxHeartbeats 4000000 in
set_option maxRecDepth 100000 in
theorem uX4_leastLoad_7_b (C : CX D [(cA, .int)] p s m args meth c A cX4_leastLoad 3 RX4 (some .int)) (k7 : Int32 → Int32 → St → Rs) (h7 : ∀ (v1 v2 : Int32) (S : St), RU D (wX a cA) p l e 1 s m args below meth c A 3 (QI D (wX a cA) [(cA, .int)] A) (k7 v1 v2 S) 7 [] [(0, .ref (a 1)), (1, .int v1), (2, .int v2)] S) (v1 v2 : Int32) (S : St) : RU D (wX a cA) p l e 1 s m args below meth c A 3 (QI D (wX a cA) [(cA, .int)] A) (fX4_leastLoad_7_b k7 v1 v2 S) 7 [] [(0, .ref (a 1)), (1, .int v1), (2, .int v2)] S := by
  unfold fX4_leastLoad_7_b
  refine R_iload_n C dX4_leastLoad_7 rfl 2 rfl ?_
  refine R_aload_n C dX4_leastLoad_8 rfl 0 rfl ?_
  refine gtX_X4_hosts C wd_1_56 dX4_leastLoad_9 ?_
  refine R_icmp_ge (tgt := 32) C dX4_leastLoad_12 (by decide) ?_ ?_
  · refine R_iload_n C dX4_leastLoad_32 rfl 1 rfl ?_
    exact R_reti C dX4_leastLoad_33
  · refine R_iload_n C dX4_leastLoad_15 rfl 1 rfl ?_
    refine R_aload_n C dX4_leastLoad_16 rfl 0 rfl ?_
    refine gtX_X4_loads C wd_1_45 dX4_leastLoad_17 ?_
    refine R_iload_n C dX4_leastLoad_20 rfl 2 rfl ?_
    refine ldX4 C dX4_leastLoad_21 ?_
    refine R_mmin C wd_2_233 wd_1_23 wd_1_3 wd_1_24 (by omega) (Nat.le_of_ble_eq_true rfl) dX4_leastLoad_22 ?_
    refine R_let (fun x1 => ?_)
    refine R_istore_n (lv' := [(1, .int x1), (0, .ref (a 1)), (2, .int v2)]) C dX4_leastLoad_25 rfl (by decide) rfl ?_
    refine R_iinc (v := v2 + 1) (lv' := [(2, .int (v2 + 1)), (1, .int x1), (0, .ref (a 1))]) C dX4_leastLoad_26 2 rfl rfl (by decide) rfl ?_
    refine R_goto (tgt := 7) C dX4_leastLoad_29 (by decide) ?_
    refine R_sub [2, 1, 0] rfl ?_
    exact h7 x1 (v2 + 1) S
set_option maxHeartbeats 4000000 in
set_option maxRecDepth 100000 in
theorem uX4_leastLoad_7 (C : CX D [(cA, .int)] p s m args meth c A cX4_leastLoad 3 RX4 (some .int)) : ∀ (n : Nat) (v1 v2 : Int32) (S : St), RU D (wX a cA) p l e 1 s m args below meth c A 3 (QI D (wX a cA) [(cA, .int)] A) (fX4_leastLoad_7 n v1 v2 S) 7 [] [(0, .ref (a 1)), (1, .int v1), (2, .int v2)] S := by
  intro n
  induction n with
  | zero => intro v1 v2 S; exact R_none
  | succ n ih => intro v1 v2 S; exact uX4_leastLoad_7_b C _ ih v1 v2 S
set_option maxHeartbeats 4000000 in
set_option maxRecDepth 100000 in
theorem uX4_leastLoad (C : CX D [(cA, .int)] p s m args meth c A cX4_leastLoad 3 RX4 (some .int)) (S : St) : RU D (wX a cA) p l e 1 s m args below meth c A 3 (QI D (wX a cA) [(cA, .int)] A) (fX4_leastLoad S) 0 [] [(0, .ref (a 1))] S := by
  unfold fX4_leastLoad
  refine R_aload_n C dX4_leastLoad_0 rfl 0 rfl ?_
  refine gtX_X4_live C wd_1_68 dX4_leastLoad_1 ?_
  refine R_let (fun x1 => ?_)
  refine R_istore_n (lv' := [(1, .int x1), (0, .ref (a 1))]) C dX4_leastLoad_4 rfl (by decide) rfl ?_
  refine R_iconst (v := (0 : Int32)) C dX4_leastLoad_5 (by decide) ?_
  refine R_istore_n (lv' := [(2, .int (0 : Int32)), (1, .int x1), (0, .ref (a 1))]) C dX4_leastLoad_6 rfl (by decide) rfl ?_
  refine R_sub [2, 1, 0] rfl ?_
  exact uX4_leastLoad_7 C FU x1 (0 : Int32) S
set_option maxHeartbeats 4000000 in
set_option maxRecDepth 100000 in
theorem kX4_leastLoad (l : Launch) (D : va_G) (a : Nat → Nat) (cA : ClassId) (S : St) : CI l D (wX a cA) [(cA, .int)] yX4_leastLoad (.code yX4_leastLoad cX4_leastLoad 3 (some .int)) 1 [.ref (a 1)] (fX4_leastLoad S) S := CI_of rfl (Nat.le_of_ble_eq_true rfl) (fun p e s m args below meth c A C => uX4_leastLoad C S)
theorem dX6_count_0 : decode cX6_count 0 = .ok (.iload_n 1, 1) := by decide +kernel
theorem dX6_count_1 : decode cX6_count 1 = .ok (.tableswitch 141 0 10 #[59, 67, 75, 83, 88, 96, 104, 112, 120, 128, 136], 59) := by decide +kernel
theorem dX6_count_60 : decode cX6_count 60 = .ok (.aload_n 0, 1) := by decide +kernel
theorem dX6_count_61 : decode cX6_count 61 = .ok (.getfield 23, 3) := by decide +kernel
theorem dX6_count_64 : decode cX6_count 64 = .ok (.getfield 111, 3) := by decide +kernel
theorem dX6_count_67 : decode cX6_count 67 = .ok (.ireturn, 1) := by decide +kernel
theorem dX6_count_68 : decode cX6_count 68 = .ok (.aload_n 0, 1) := by decide +kernel
theorem dX6_count_69 : decode cX6_count 69 = .ok (.getfield 23, 3) := by decide +kernel
theorem dX6_count_72 : decode cX6_count 72 = .ok (.getfield 72, 3) := by decide +kernel
theorem dX6_count_75 : decode cX6_count 75 = .ok (.ireturn, 1) := by decide +kernel
theorem dX6_count_76 : decode cX6_count 76 = .ok (.aload_n 0, 1) := by decide +kernel
theorem dX6_count_77 : decode cX6_count 77 = .ok (.getfield 23, 3) := by decide +kernel
theorem dX6_count_80 : decode cX6_count 80 = .ok (.getfield 139, 3) := by decide +kernel
theorem dX6_count_83 : decode cX6_count 83 = .ok (.ireturn, 1) := by decide +kernel
theorem dX6_count_84 : decode cX6_count 84 = .ok (.aload_n 0, 1) := by decide +kernel
theorem dX6_count_85 : decode cX6_count 85 = .ok (.getfield 108, 3) := by decide +kernel
theorem dX6_count_88 : decode cX6_count 88 = .ok (.ireturn, 1) := by decide +kernel
theorem dX6_count_89 : decode cX6_count 89 = .ok (.aload_n 0, 1) := by decide +kernel
theorem dX6_count_90 : decode cX6_count 90 = .ok (.getfield 23, 3) := by decide +kernel
theorem dX6_count_93 : decode cX6_count 93 = .ok (.invokevirtual 167, 3) := by decide +kernel
theorem dX6_count_96 : decode cX6_count 96 = .ok (.ireturn, 1) := by decide +kernel
theorem dX6_count_97 : decode cX6_count 97 = .ok (.aload_n 0, 1) := by decide +kernel
theorem dX6_count_98 : decode cX6_count 98 = .ok (.getfield 23, 3) := by decide +kernel
theorem dX6_count_101 : decode cX6_count 101 = .ok (.invokevirtual 170, 3) := by decide +kernel
theorem dX6_count_104 : decode cX6_count 104 = .ok (.ireturn, 1) := by decide +kernel
theorem dX6_count_105 : decode cX6_count 105 = .ok (.aload_n 0, 1) := by decide +kernel
theorem dX6_count_106 : decode cX6_count 106 = .ok (.getfield 23, 3) := by decide +kernel
theorem dX6_count_109 : decode cX6_count 109 = .ok (.invokevirtual 173, 3) := by decide +kernel
theorem dX6_count_112 : decode cX6_count 112 = .ok (.ireturn, 1) := by decide +kernel
theorem dX6_count_113 : decode cX6_count 113 = .ok (.aload_n 0, 1) := by decide +kernel
theorem dX6_count_114 : decode cX6_count 114 = .ok (.getfield 32, 3) := by decide +kernel
theorem dX6_count_117 : decode cX6_count 117 = .ok (.getfield 86, 3) := by decide +kernel
theorem dX6_count_120 : decode cX6_count 120 = .ok (.ireturn, 1) := by decide +kernel
theorem dX6_count_121 : decode cX6_count 121 = .ok (.aload_n 0, 1) := by decide +kernel
theorem dX6_count_122 : decode cX6_count 122 = .ok (.getfield 32, 3) := by decide +kernel
theorem dX6_count_125 : decode cX6_count 125 = .ok (.getfield 92, 3) := by decide +kernel
theorem dX6_count_128 : decode cX6_count 128 = .ok (.ireturn, 1) := by decide +kernel
theorem dX6_count_129 : decode cX6_count 129 = .ok (.aload_n 0, 1) := by decide +kernel
theorem dX6_count_130 : decode cX6_count 130 = .ok (.getfield 32, 3) := by decide +kernel
theorem dX6_count_133 : decode cX6_count 133 = .ok (.getfield 95, 3) := by decide +kernel
theorem dX6_count_136 : decode cX6_count 136 = .ok (.ireturn, 1) := by decide +kernel
theorem dX6_count_137 : decode cX6_count 137 = .ok (.aload_n 0, 1) := by decide +kernel
theorem dX6_count_138 : decode cX6_count 138 = .ok (.getfield 98, 3) := by decide +kernel
theorem dX6_count_141 : decode cX6_count 141 = .ok (.ireturn, 1) := by decide +kernel
theorem dX6_count_142 : decode cX6_count 142 = .ok (.iconst (-1), 1) := by decide +kernel
theorem dX6_count_143 : decode cX6_count 143 = .ok (.ireturn, 1) := by decide +kernel
set_option maxHeartbeats 4000000 in
set_option maxRecDepth 100000 in
theorem uX6_count (C : CX D [(cA, .int)] p s m args meth c A cX6_count 2 RX6 (some .int)) (v1 : Int32) (S : St) : RU D (wX a cA) p l e 2 s m args below meth c A 2 (QI D (wX a cA) [(cA, .int)] A) (fX6_count v1 S) 0 [] [(0, .ref (a 0)), (1, .int v1)] S := by
  unfold fX6_count
  refine R_iload_n C dX6_count_0 rfl 1 rfl ?_
  refine R_eq (v := 0) (fun _ => ?_) (fun q0 => ?_)
  · refine R_tsIn (tgt := 60) (off := 59) C dX6_count_1 (by decide) (by decide) (by decide +kernel) (by decide) ?_
    refine R_aload_n C dX6_count_60 rfl 0 rfl ?_
    refine gtX_X6_net C wd_1_205 dX6_count_61 ?_
    refine gtX_X4_hosts C wd_1_61 dX6_count_64 ?_
    exact R_reti C dX6_count_67
  refine R_eq (v := 1) (fun _ => ?_) (fun q1 => ?_)
  · refine R_tsIn (tgt := 68) (off := 67) C dX6_count_1 (by decide) (by decide) (by decide +kernel) (by decide) ?_
    refine R_aload_n C dX6_count_68 rfl 0 rfl ?_
    refine gtX_X6_net C wd_1_205 dX6_count_69 ?_
    refine gtX_X4_came C wd_1_62 dX6_count_72 ?_
    exact R_reti C dX6_count_75
  refine R_eq (v := 2) (fun _ => ?_) (fun q2 => ?_)
  · refine R_tsIn (tgt := 76) (off := 75) C dX6_count_1 (by decide) (by decide) (by decide +kernel) (by decide) ?_
    refine R_aload_n C dX6_count_76 rfl 0 rfl ?_
    refine gtX_X6_net C wd_1_205 dX6_count_77 ?_
    refine gtX_X4_live C wd_1_69 dX6_count_80 ?_
    exact R_reti C dX6_count_83
  refine R_eq (v := 3) (fun _ => ?_) (fun q3 => ?_)
  · refine R_tsIn (tgt := 84) (off := 83) C dX6_count_1 (by decide) (by decide) (by decide +kernel) (by decide) ?_
    refine R_aload_n C dX6_count_84 rfl 0 rfl ?_
    refine gtX_X6_movesEver C wd_1_213 dX6_count_85 ?_
    exact R_reti C dX6_count_88
  refine R_eq (v := 4) (fun _ => ?_) (fun q4 => ?_)
  · refine R_tsIn (tgt := 89) (off := 88) C dX6_count_1 (by decide) (by decide) (by decide +kernel) (by decide) ?_
    refine R_aload_n C dX6_count_89 rfl 0 rfl ?_
    refine gtX_X6_net C wd_1_205 dX6_count_90 ?_
    refine R_calli (As := []) (st := []) C (kX4_greatestLoad l D a cA S) (by decide) (by decide) wd_2_228 kwX4_greatestLoad 1 rfl rfl rfl rfl (Nat.le_of_ble_eq_true rfl) dX6_count_93 (fun r1 S2 => ?_)
    exact R_reti C dX6_count_96
  refine R_eq (v := 5) (fun _ => ?_) (fun q5 => ?_)
  · refine R_tsIn (tgt := 97) (off := 96) C dX6_count_1 (by decide) (by decide) (by decide +kernel) (by decide) ?_
    refine R_aload_n C dX6_count_97 rfl 0 rfl ?_
    refine gtX_X6_net C wd_1_205 dX6_count_98 ?_
    refine R_calli (As := []) (st := []) C (kX4_leastLoad l D a cA S) (by decide) (by decide) wd_2_229 kwX4_leastLoad 1 rfl rfl rfl rfl (Nat.le_of_ble_eq_true rfl) dX6_count_101 (fun r3 S4 => ?_)
    exact R_reti C dX6_count_104
  refine R_eq (v := 6) (fun _ => ?_) (fun q6 => ?_)
  · refine R_tsIn (tgt := 105) (off := 104) C dX6_count_1 (by decide) (by decide) (by decide +kernel) (by decide) ?_
    refine R_aload_n C dX6_count_105 rfl 0 rfl ?_
    refine gtX_X6_net C wd_1_205 dX6_count_106 ?_
    refine R_calli (As := []) (st := []) C (kX4_pointsWithCopies l D a cA S) (by decide) (by decide) wd_2_234 kwX4_pointsWithCopies 1 rfl rfl rfl rfl (Nat.le_of_ble_eq_true rfl) dX6_count_109 (fun r5 S6 => ?_)
    exact R_reti C dX6_count_112
  refine R_eq (v := 7) (fun _ => ?_) (fun q7 => ?_)
  · refine R_tsIn (tgt := 113) (off := 112) C dX6_count_1 (by decide) (by decide) (by decide +kernel) (by decide) ?_
    refine R_aload_n C dX6_count_113 rfl 0 rfl ?_
    refine gtX_X6_dealing C wd_1_206 dX6_count_114 ?_
    refine gtX_X1_ruleNow C wd_1_105 dX6_count_117 ?_
    exact R_reti C dX6_count_120
  refine R_eq (v := 8) (fun _ => ?_) (fun q8 => ?_)
  · refine R_tsIn (tgt := 121) (off := 120) C dX6_count_1 (by decide) (by decide) (by decide +kernel) (by decide) ?_
    refine R_aload_n C dX6_count_121 rfl 0 rfl ?_
    refine gtX_X6_dealing C wd_1_206 dX6_count_122 ?_
    refine gtX_X1_slack C wd_1_107 dX6_count_125 ?_
    exact R_reti C dX6_count_128
  refine R_eq (v := 9) (fun _ => ?_) (fun q9 => ?_)
  · refine R_tsIn (tgt := 129) (off := 128) C dX6_count_1 (by decide) (by decide) (by decide +kernel) (by decide) ?_
    refine R_aload_n C dX6_count_129 rfl 0 rfl ?_
    refine gtX_X6_dealing C wd_1_206 dX6_count_130 ?_
    refine gtX_X1_lean C wd_1_109 dX6_count_133 ?_
    exact R_reti C dX6_count_136
  refine R_eq (v := 10) (fun _ => ?_) (fun q10 => ?_)
  · refine R_tsIn (tgt := 137) (off := 136) C dX6_count_1 (by decide) (by decide) (by decide +kernel) (by decide) ?_
    refine R_aload_n C dX6_count_137 rfl 0 rfl ?_
    refine gtX_X6_windowSize C wd_1_212 dX6_count_138 ?_
    exact R_reti C dX6_count_141
  refine R_tsOut (tgt := 142) C dX6_count_1 (by have hq := And.intro True.intro True.intro; have w0 := lv_neT (a := 0) q0 rfl; have w1 := lv_neT (a := 1) q1 rfl; have w2 := lv_neT (a := 2) q2 rfl; have w3 := lv_neT (a := 3) q3 rfl; have w4 := lv_neT (a := 4) q4 rfl; have w5 := lv_neT (a := 5) q5 rfl; have w6 := lv_neT (a := 6) q6 rfl; have w7 := lv_neT (a := 7) q7 rfl; have w8 := lv_neT (a := 8) q8 rfl; have w9 := lv_neT (a := 9) q9 rfl; have w10 := lv_neT (a := 10) q10 rfl; omega) (by decide) ?_
  refine R_iconst (v := (-1 : Int32)) C dX6_count_142 (by decide) ?_
  exact R_reti C dX6_count_143
set_option maxHeartbeats 4000000 in
set_option maxRecDepth 100000 in
theorem kX6_count (l : Launch) (D : va_G) (a : Nat → Nat) (cA : ClassId) (S : St) (v1 : Int32) : CI l D (wX a cA) [(cA, .int)] yX6_count (.code yX6_count cX6_count 2 (some .int)) 2 [.ref (a 0), .int v1] (fX6_count v1 S) S := CI_of rfl (Nat.le_of_ble_eq_true rfl) (fun p e s m args below meth c A C => uX6_count C v1 S)
end
