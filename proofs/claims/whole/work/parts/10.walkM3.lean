/-! walks of the reference -/
section
variable {D : va_G} {a : Nat → Nat} {cA cZ : ClassId} {p : Program} {l : Launch} {e : Env} {s : State} {m : MethodId} {args : Array Value} {below : List Frame} {meth : Method} {c : Code} {A : Nat → Prop}

theorem dX7_copiesOf_0 : decode cX7_copiesOf 0 = .ok (.iconst 0, 1) := by decide +kernel
theorem dX7_copiesOf_1 : decode cX7_copiesOf 1 = .ok (.istore_n 2, 1) := by decide +kernel
theorem dX7_copiesOf_2 : decode cX7_copiesOf 2 = .ok (.iconst 0, 1) := by decide +kernel
theorem dX7_copiesOf_3 : decode cX7_copiesOf 3 = .ok (.istore_n 3, 1) := by decide +kernel
theorem dX7_copiesOf_4 : decode cX7_copiesOf 4 = .ok (.iload_n 3, 1) := by decide +kernel
theorem dX7_copiesOf_5 : decode cX7_copiesOf 5 = .ok (.aload_n 0, 1) := by decide +kernel
theorem dX7_copiesOf_6 : decode cX7_copiesOf 6 = .ok (.getfield 54, 3) := by decide +kernel
theorem dX7_copiesOf_9 : decode cX7_copiesOf 9 = .ok (.if_icmp .ge 31, 3) := by decide +kernel
theorem dX7_copiesOf_12 : decode cX7_copiesOf 12 = .ok (.iload_n 2, 1) := by decide +kernel
theorem dX7_copiesOf_13 : decode cX7_copiesOf 13 = .ok (.aload_n 0, 1) := by decide +kernel
theorem dX7_copiesOf_14 : decode cX7_copiesOf 14 = .ok (.getfield 22, 3) := by decide +kernel
theorem dX7_copiesOf_17 : decode cX7_copiesOf 17 = .ok (.bipush 8, 2) := by decide +kernel
theorem dX7_copiesOf_19 : decode cX7_copiesOf 19 = .ok (.iload_n 1, 1) := by decide +kernel
theorem dX7_copiesOf_20 : decode cX7_copiesOf 20 = .ok (.imul, 1) := by decide +kernel
theorem dX7_copiesOf_21 : decode cX7_copiesOf 21 = .ok (.iload_n 3, 1) := by decide +kernel
theorem dX7_copiesOf_22 : decode cX7_copiesOf 22 = .ok (.iadd, 1) := by decide +kernel
theorem dX7_copiesOf_23 : decode cX7_copiesOf 23 = .ok (.iaload, 1) := by decide +kernel
theorem dX7_copiesOf_24 : decode cX7_copiesOf 24 = .ok (.ifCond .le 7, 3) := by decide +kernel
theorem dX7_copiesOf_27 : decode cX7_copiesOf 27 = .ok (.iconst 1, 1) := by decide +kernel
theorem dX7_copiesOf_28 : decode cX7_copiesOf 28 = .ok (.goto 4, 3) := by decide +kernel
theorem dX7_copiesOf_31 : decode cX7_copiesOf 31 = .ok (.iconst 0, 1) := by decide +kernel
theorem dX7_copiesOf_32 : decode cX7_copiesOf 32 = .ok (.iadd, 1) := by decide +kernel
theorem dX7_copiesOf_33 : decode cX7_copiesOf 33 = .ok (.istore_n 2, 1) := by decide +kernel
theorem dX7_copiesOf_34 : decode cX7_copiesOf 34 = .ok (.iinc 3 1, 3) := by decide +kernel
theorem dX7_copiesOf_37 : decode cX7_copiesOf 37 = .ok (.goto (-33), 3) := by decide +kernel
theorem dX7_copiesOf_40 : decode cX7_copiesOf 40 = .ok (.iload_n 2, 1) := by decide +kernel
theorem dX7_copiesOf_41 : decode cX7_copiesOf 41 = .ok (.ireturn, 1) := by decide +kernel
set_option maxHeartbeats 4000000 in
set_option maxRecDepth 100000 in
theorem uX7_copiesOf_32 (C : CX D [(cA, .int), (cZ, .boolean)] p s m args meth c A cX7_copiesOf 4 RX7 (some .int)) (k4 : Int32 → Int32 → Int32 → St → Rs) (h4 : ∀ (v1 v2 v3 : Int32) (S : St), RU D (wM a cA cZ) p l e 1 s m args below meth c A 4 (QI D (wM a cA cZ) [(cA, .int), (cZ, .boolean)] A) (k4 v1 v2 v3 S) 4 [] [(0, .ref (a 0)), (1, .int v1), (2, .int v2), (3, .int v3)] S) (v1 v3 t0 t1 : Int32) (S : St) : RU D (wM a cA cZ) p l e 1 s m args below meth c A 4 (QI D (wM a cA cZ) [(cA, .int), (cZ, .boolean)] A) (fX7_copiesOf_32 k4 v1 v3 t0 t1 S) 32 [.int t0, .int t1] [(0, .ref (a 0)), (1, .int v1), (3, .int v3)] S := by
  unfold fX7_copiesOf_32
  refine R_iadd C dX7_copiesOf_32 ?_
  refine R_let (fun x1 => ?_)
  refine R_istore_n (lv' := [(2, .int x1), (0, .ref (a 0)), (1, .int v1), (3, .int v3)]) C dX7_copiesOf_33 rfl (by decide) rfl ?_
  refine R_iinc (v := v3 + 1) (lv' := [(3, .int (v3 + 1)), (2, .int x1), (0, .ref (a 0)), (1, .int v1)]) C dX7_copiesOf_34 3 rfl rfl (by decide) rfl ?_
  refine R_goto (tgt := 4) C dX7_copiesOf_37 (by decide) ?_
  refine R_sub [2, 3, 1, 0] rfl ?_
  exact h4 v1 x1 (v3 + 1) S
set_option maxHeartbeats 4000000 in
set_option maxRecDepth 100000 in
theorem uX7_copiesOf_4_b (C : CX D [(cA, .int), (cZ, .boolean)] p s m args meth c A cX7_copiesOf 4 RX7 (some .int)) (k4 : Int32 → Int32 → Int32 → St → Rs) (h4 : ∀ (v1 v2 v3 : Int32) (S : St), RU D (wM a cA cZ) p l e 1 s m args below meth c A 4 (QI D (wM a cA cZ) [(cA, .int), (cZ, .boolean)] A) (k4 v1 v2 v3 S) 4 [] [(0, .ref (a 0)), (1, .int v1), (2, .int v2), (3, .int v3)] S) (v1 v2 v3 : Int32) (S : St) : RU D (wM a cA cZ) p l e 1 s m args below meth c A 4 (QI D (wM a cA cZ) [(cA, .int), (cZ, .boolean)] A) (fX7_copiesOf_4_b k4 v1 v2 v3 S) 4 [] [(0, .ref (a 0)), (1, .int v1), (2, .int v2), (3, .int v3)] S := by
  unfold fX7_copiesOf_4_b
  refine R_iload_n C dX7_copiesOf_4 rfl 3 rfl ?_
  refine R_aload_n C dX7_copiesOf_5 rfl 0 rfl ?_
  refine gtM_X7_hosts C wd_3_4 dX7_copiesOf_6 ?_
  refine R_icmp_ge (tgt := 40) C dX7_copiesOf_9 (by decide) ?_ ?_
  · refine R_iload_n C dX7_copiesOf_40 rfl 2 rfl ?_
    exact R_reti C dX7_copiesOf_41
  · refine R_iload_n C dX7_copiesOf_12 rfl 2 rfl ?_
    refine R_aload_n C dX7_copiesOf_13 rfl 0 rfl ?_
    refine gtM_X7_ends C wd_3_10 dX7_copiesOf_14 ?_
    refine R_bipush (v := (8 : Int32)) C dX7_copiesOf_17 (by decide) ?_
    refine R_iload_n C dX7_copiesOf_19 rfl 1 rfl ?_
    refine R_imul C dX7_copiesOf_20 ?_
    refine R_iload_n C dX7_copiesOf_21 rfl 3 rfl ?_
    refine R_iadd C dX7_copiesOf_22 ?_
    refine ldM4 C dX7_copiesOf_23 ?_
    refine R_if_le (tgt := 31) C dX7_copiesOf_24 (by decide) ?_ ?_
    · refine R_iconst (v := (0 : Int32)) C dX7_copiesOf_31 (by decide) ?_
      refine R_sub [0, 1, 3] rfl ?_
      exact uX7_copiesOf_32 C k4 h4 v1 v3 (0 : Int32) v2 S
    · refine R_iconst (v := (1 : Int32)) C dX7_copiesOf_27 (by decide) ?_
      refine R_goto (tgt := 32) C dX7_copiesOf_28 (by decide) ?_
      refine R_sub [0, 1, 3] rfl ?_
      exact uX7_copiesOf_32 C k4 h4 v1 v3 (1 : Int32) v2 S
set_option maxHeartbeats 4000000 in
set_option maxRecDepth 100000 in
theorem uX7_copiesOf_4 (C : CX D [(cA, .int), (cZ, .boolean)] p s m args meth c A cX7_copiesOf 4 RX7 (some .int)) : ∀ (n : Nat) (v1 v2 v3 : Int32) (S : St), RU D (wM a cA cZ) p l e 1 s m args below meth c A 4 (QI D (wM a cA cZ) [(cA, .int), (cZ, .boolean)] A) (fX7_copiesOf_4 n v1 v2 v3 S) 4 [] [(0, .ref (a 0)), (1, .int v1), (2, .int v2), (3, .int v3)] S := by
  intro n
  induction n with
  | zero => intro v1 v2 v3 S; exact R_none
  | succ n ih => intro v1 v2 v3 S; exact uX7_copiesOf_4_b C _ ih v1 v2 v3 S
set_option maxHeartbeats 4000000 in
set_option maxRecDepth 100000 in
theorem uX7_copiesOf (C : CX D [(cA, .int), (cZ, .boolean)] p s m args meth c A cX7_copiesOf 4 RX7 (some .int)) (v1 : Int32) (S : St) : RU D (wM a cA cZ) p l e 1 s m args below meth c A 4 (QI D (wM a cA cZ) [(cA, .int), (cZ, .boolean)] A) (fX7_copiesOf v1 S) 0 [] [(0, .ref (a 0)), (1, .int v1)] S := by
  unfold fX7_copiesOf
  refine R_iconst (v := (0 : Int32)) C dX7_copiesOf_0 (by decide) ?_
  refine R_istore_n (lv' := [(2, .int (0 : Int32)), (0, .ref (a 0)), (1, .int v1)]) C dX7_copiesOf_1 rfl (by decide) rfl ?_
  refine R_iconst (v := (0 : Int32)) C dX7_copiesOf_2 (by decide) ?_
  refine R_istore_n (lv' := [(3, .int (0 : Int32)), (2, .int (0 : Int32)), (0, .ref (a 0)), (1, .int v1)]) C dX7_copiesOf_3 rfl (by decide) rfl ?_
  refine R_sub [2, 3, 1, 0] rfl ?_
  exact uX7_copiesOf_4 C FU v1 (0 : Int32) (0 : Int32) S
set_option maxHeartbeats 4000000 in
set_option maxRecDepth 100000 in
theorem kX7_copiesOf (l : Launch) (D : va_G) (a : Nat → Nat) (cA cZ : ClassId) (S : St) (v1 : Int32) : CI l D (wM a cA cZ) [(cA, .int), (cZ, .boolean)] yX7_copiesOf (.code yX7_copiesOf cX7_copiesOf 4 (some .int)) 1 [.ref (a 0), .int v1] (fX7_copiesOf v1 S) S := CI_of rfl (Nat.le_of_ble_eq_true rfl) (fun p e s m args below meth c A C => uX7_copiesOf C v1 S)
theorem dX7_all_0 : decode cX7_all 0 = .ok (.iconst 0, 1) := by decide +kernel
theorem dX7_all_1 : decode cX7_all 1 = .ok (.istore_n 1, 1) := by decide +kernel
theorem dX7_all_2 : decode cX7_all 2 = .ok (.iconst 0, 1) := by decide +kernel
theorem dX7_all_3 : decode cX7_all 3 = .ok (.istore_n 2, 1) := by decide +kernel
theorem dX7_all_4 : decode cX7_all 4 = .ok (.iload_n 2, 1) := by decide +kernel
theorem dX7_all_5 : decode cX7_all 5 = .ok (.bipush 40, 2) := by decide +kernel
theorem dX7_all_7 : decode cX7_all 7 = .ok (.if_icmp .ge 17, 3) := by decide +kernel
theorem dX7_all_10 : decode cX7_all 10 = .ok (.iload_n 1, 1) := by decide +kernel
theorem dX7_all_11 : decode cX7_all 11 = .ok (.aload_n 0, 1) := by decide +kernel
theorem dX7_all_12 : decode cX7_all 12 = .ok (.iload_n 2, 1) := by decide +kernel
theorem dX7_all_13 : decode cX7_all 13 = .ok (.invokevirtual 114, 3) := by decide +kernel
theorem dX7_all_16 : decode cX7_all 16 = .ok (.iadd, 1) := by decide +kernel
theorem dX7_all_17 : decode cX7_all 17 = .ok (.istore_n 1, 1) := by decide +kernel
theorem dX7_all_18 : decode cX7_all 18 = .ok (.iinc 2 1, 3) := by decide +kernel
theorem dX7_all_21 : decode cX7_all 21 = .ok (.goto (-17), 3) := by decide +kernel
theorem dX7_all_24 : decode cX7_all 24 = .ok (.iload_n 1, 1) := by decide +kernel
theorem dX7_all_25 : decode cX7_all 25 = .ok (.ireturn, 1) := by decide +kernel
set_option maxHeartbeats 4000000 in
set_option maxRecDepth 100000 in
theorem uX7_all_4_b (C : CX D [(cA, .int), (cZ, .boolean)] p s m args meth c A cX7_all 3 RX7 (some .int)) (k4 : Int32 → Int32 → St → Rs) (h4 : ∀ (v1 v2 : Int32) (S : St), RU D (wM a cA cZ) p l e 2 s m args below meth c A 3 (QI D (wM a cA cZ) [(cA, .int), (cZ, .boolean)] A) (k4 v1 v2 S) 4 [] [(0, .ref (a 0)), (1, .int v1), (2, .int v2)] S) (v1 v2 : Int32) (S : St) : RU D (wM a cA cZ) p l e 2 s m args below meth c A 3 (QI D (wM a cA cZ) [(cA, .int), (cZ, .boolean)] A) (fX7_all_4_b k4 v1 v2 S) 4 [] [(0, .ref (a 0)), (1, .int v1), (2, .int v2)] S := by
  unfold fX7_all_4_b
  refine R_iload_n C dX7_all_4 rfl 2 rfl ?_
  refine R_bipush (v := (40 : Int32)) C dX7_all_5 (by decide) ?_
  refine R_icmp_ge (tgt := 24) C dX7_all_7 (by decide) ?_ ?_
  · refine R_iload_n C dX7_all_24 rfl 1 rfl ?_
    exact R_reti C dX7_all_25
  · refine R_iload_n C dX7_all_10 rfl 1 rfl ?_
    refine R_aload_n C dX7_all_11 rfl 0 rfl ?_
    refine R_iload_n C dX7_all_12 rfl 2 rfl ?_
    refine R_calli (As := [.int v2]) (st := [.int v1]) C (kX7_copiesOf l D a cA cZ S v2) (by decide) (by decide) wd_3_161 kwX7_copiesOf 0 rfl rfl rfl rfl (Nat.le_of_ble_eq_true rfl) dX7_all_13 (fun r1 S2 => ?_)
    refine R_iadd C dX7_all_16 ?_
    refine R_let (fun x3 => ?_)
    refine R_istore_n (lv' := [(1, .int x3), (0, .ref (a 0)), (2, .int v2)]) C dX7_all_17 rfl (by decide) rfl ?_
    refine R_iinc (v := v2 + 1) (lv' := [(2, .int (v2 + 1)), (1, .int x3), (0, .ref (a 0))]) C dX7_all_18 2 rfl rfl (by decide) rfl ?_
    refine R_goto (tgt := 4) C dX7_all_21 (by decide) ?_
    refine R_sub [2, 1, 0] rfl ?_
    exact h4 x3 (v2 + 1) S2
set_option maxHeartbeats 4000000 in
set_option maxRecDepth 100000 in
theorem uX7_all_4 (C : CX D [(cA, .int), (cZ, .boolean)] p s m args meth c A cX7_all 3 RX7 (some .int)) : ∀ (n : Nat) (v1 v2 : Int32) (S : St), RU D (wM a cA cZ) p l e 2 s m args below meth c A 3 (QI D (wM a cA cZ) [(cA, .int), (cZ, .boolean)] A) (fX7_all_4 n v1 v2 S) 4 [] [(0, .ref (a 0)), (1, .int v1), (2, .int v2)] S := by
  intro n
  induction n with
  | zero => intro v1 v2 S; exact R_none
  | succ n ih => intro v1 v2 S; exact uX7_all_4_b C _ ih v1 v2 S
set_option maxHeartbeats 4000000 in
set_option maxRecDepth 100000 in
theorem uX7_all (C : CX D [(cA, .int), (cZ, .boolean)] p s m args meth c A cX7_all 3 RX7 (some .int)) (S : St) : RU D (wM a cA cZ) p l e 2 s m args below meth c A 3 (QI D (wM a cA cZ) [(cA, .int), (cZ, .boolean)] A) (fX7_all S) 0 [] [(0, .ref (a 0))] S := by
  unfold fX7_all
  refine R_iconst (v := (0 : Int32)) C dX7_all_0 (by decide) ?_
  refine R_istore_n (lv' := [(1, .int (0 : Int32)), (0, .ref (a 0))]) C dX7_all_1 rfl (by decide) rfl ?_
  refine R_iconst (v := (0 : Int32)) C dX7_all_2 (by decide) ?_
  refine R_istore_n (lv' := [(2, .int (0 : Int32)), (1, .int (0 : Int32)), (0, .ref (a 0))]) C dX7_all_3 rfl (by decide) rfl ?_
  refine R_sub [2, 1, 0] rfl ?_
  exact uX7_all_4 C FU (0 : Int32) (0 : Int32) S
set_option maxHeartbeats 4000000 in
set_option maxRecDepth 100000 in
theorem kX7_all (l : Launch) (D : va_G) (a : Nat → Nat) (cA cZ : ClassId) (S : St) : CI l D (wM a cA cZ) [(cA, .int), (cZ, .boolean)] yX7_all (.code yX7_all cX7_all 3 (some .int)) 2 [.ref (a 0)] (fX7_all S) S := CI_of rfl (Nat.le_of_ble_eq_true rfl) (fun p e s m args below meth c A C => uX7_all C S)
theorem dX7_dealt_0 : decode cX7_dealt 0 = .ok (.iconst 0, 1) := by decide +kernel
theorem dX7_dealt_1 : decode cX7_dealt 1 = .ok (.istore_n 2, 1) := by decide +kernel
theorem dX7_dealt_2 : decode cX7_dealt 2 = .ok (.iload_n 2, 1) := by decide +kernel
theorem dX7_dealt_3 : decode cX7_dealt 3 = .ok (.iconst 3, 1) := by decide +kernel
theorem dX7_dealt_4 : decode cX7_dealt 4 = .ok (.if_icmp .ge 16, 3) := by decide +kernel
theorem dX7_dealt_7 : decode cX7_dealt 7 = .ok (.aload_n 0, 1) := by decide +kernel
theorem dX7_dealt_8 : decode cX7_dealt 8 = .ok (.getfield 39, 3) := by decide +kernel
theorem dX7_dealt_11 : decode cX7_dealt 11 = .ok (.iload_n 2, 1) := by decide +kernel
theorem dX7_dealt_12 : decode cX7_dealt 12 = .ok (.iconst 0, 1) := by decide +kernel
theorem dX7_dealt_13 : decode cX7_dealt 13 = .ok (.iastore, 1) := by decide +kernel
theorem dX7_dealt_14 : decode cX7_dealt 14 = .ok (.iinc 2 1, 3) := by decide +kernel
theorem dX7_dealt_17 : decode cX7_dealt 17 = .ok (.goto (-15), 3) := by decide +kernel
theorem dX7_dealt_20 : decode cX7_dealt 20 = .ok (.iconst 0, 1) := by decide +kernel
theorem dX7_dealt_21 : decode cX7_dealt 21 = .ok (.istore_n 2, 1) := by decide +kernel
theorem dX7_dealt_22 : decode cX7_dealt 22 = .ok (.iload_n 2, 1) := by decide +kernel
theorem dX7_dealt_23 : decode cX7_dealt 23 = .ok (.bipush 40, 2) := by decide +kernel
theorem dX7_dealt_25 : decode cX7_dealt 25 = .ok (.if_icmp .ge 16, 3) := by decide +kernel
theorem dX7_dealt_28 : decode cX7_dealt 28 = .ok (.aload_n 0, 1) := by decide +kernel
theorem dX7_dealt_29 : decode cX7_dealt 29 = .ok (.getfield 42, 3) := by decide +kernel
theorem dX7_dealt_32 : decode cX7_dealt 32 = .ok (.iload_n 2, 1) := by decide +kernel
theorem dX7_dealt_33 : decode cX7_dealt 33 = .ok (.iconst 0, 1) := by decide +kernel
theorem dX7_dealt_34 : decode cX7_dealt 34 = .ok (.iastore, 1) := by decide +kernel
theorem dX7_dealt_35 : decode cX7_dealt 35 = .ok (.iinc 2 1, 3) := by decide +kernel
theorem dX7_dealt_38 : decode cX7_dealt 38 = .ok (.goto (-16), 3) := by decide +kernel
theorem dX7_dealt_41 : decode cX7_dealt 41 = .ok (.iload_n 1, 1) := by decide +kernel
theorem dX7_dealt_42 : decode cX7_dealt 42 = .ok (.istore_n 2, 1) := by decide +kernel
theorem dX7_dealt_43 : decode cX7_dealt 43 = .ok (.iconst 0, 1) := by decide +kernel
theorem dX7_dealt_44 : decode cX7_dealt 44 = .ok (.istore_n 3, 1) := by decide +kernel
theorem dX7_dealt_45 : decode cX7_dealt 45 = .ok (.iconst 0, 1) := by decide +kernel
theorem dX7_dealt_46 : decode cX7_dealt 46 = .ok (.istore 4, 2) := by decide +kernel
theorem dX7_dealt_48 : decode cX7_dealt 48 = .ok (.iload 4, 2) := by decide +kernel
theorem dX7_dealt_50 : decode cX7_dealt 50 = .ok (.aload_n 0, 1) := by decide +kernel
theorem dX7_dealt_51 : decode cX7_dealt 51 = .ok (.getfield 61, 3) := by decide +kernel
theorem dX7_dealt_54 : decode cX7_dealt 54 = .ok (.if_icmp .ge 159, 3) := by decide +kernel
theorem dX7_dealt_57 : decode cX7_dealt 57 = .ok (.aload_n 0, 1) := by decide +kernel
theorem dX7_dealt_58 : decode cX7_dealt 58 = .ok (.getfield 16, 3) := by decide +kernel
theorem dX7_dealt_61 : decode cX7_dealt 61 = .ok (.iload 4, 2) := by decide +kernel
theorem dX7_dealt_63 : decode cX7_dealt 63 = .ok (.iaload, 1) := by decide +kernel
theorem dX7_dealt_64 : decode cX7_dealt 64 = .ok (.iconst (-1), 1) := by decide +kernel
theorem dX7_dealt_65 : decode cX7_dealt 65 = .ok (.if_icmp .ne 6, 3) := by decide +kernel
theorem dX7_dealt_68 : decode cX7_dealt 68 = .ok (.goto 139, 3) := by decide +kernel
theorem dX7_dealt_71 : decode cX7_dealt 71 = .ok (.iload_n 2, 1) := by decide +kernel
theorem dX7_dealt_72 : decode cX7_dealt 72 = .ok (.aload_n 0, 1) := by decide +kernel
theorem dX7_dealt_73 : decode cX7_dealt 73 = .ok (.getfield 54, 3) := by decide +kernel
theorem dX7_dealt_76 : decode cX7_dealt 76 = .ok (.irem, 1) := by decide +kernel
theorem dX7_dealt_77 : decode cX7_dealt 77 = .ok (.istore 5, 2) := by decide +kernel
theorem dX7_dealt_79 : decode cX7_dealt 79 = .ok (.iload_n 2, 1) := by decide +kernel
theorem dX7_dealt_80 : decode cX7_dealt 80 = .ok (.aload_n 0, 1) := by decide +kernel
theorem dX7_dealt_81 : decode cX7_dealt 81 = .ok (.getfield 54, 3) := by decide +kernel
theorem dX7_dealt_84 : decode cX7_dealt 84 = .ok (.idiv, 1) := by decide +kernel
theorem dX7_dealt_85 : decode cX7_dealt 85 = .ok (.istore_n 2, 1) := by decide +kernel
theorem dX7_dealt_86 : decode cX7_dealt 86 = .ok (.aload_n 0, 1) := by decide +kernel
theorem dX7_dealt_87 : decode cX7_dealt 87 = .ok (.getfield 39, 3) := by decide +kernel
theorem dX7_dealt_90 : decode cX7_dealt 90 = .ok (.iload 5, 2) := by decide +kernel
theorem dX7_dealt_92 : decode cX7_dealt 92 = .ok (.dup2, 1) := by decide +kernel
theorem dX7_dealt_93 : decode cX7_dealt 93 = .ok (.iaload, 1) := by decide +kernel
theorem dX7_dealt_94 : decode cX7_dealt 94 = .ok (.iconst 1, 1) := by decide +kernel
theorem dX7_dealt_95 : decode cX7_dealt 95 = .ok (.iadd, 1) := by decide +kernel
theorem dX7_dealt_96 : decode cX7_dealt 96 = .ok (.iastore, 1) := by decide +kernel
theorem dX7_dealt_97 : decode cX7_dealt 97 = .ok (.aload_n 0, 1) := by decide +kernel
theorem dX7_dealt_98 : decode cX7_dealt 98 = .ok (.getfield 39, 3) := by decide +kernel
theorem dX7_dealt_101 : decode cX7_dealt 101 = .ok (.iload 5, 2) := by decide +kernel
theorem dX7_dealt_103 : decode cX7_dealt 103 = .ok (.iaload, 1) := by decide +kernel
theorem dX7_dealt_104 : decode cX7_dealt 104 = .ok (.aload_n 0, 1) := by decide +kernel
theorem dX7_dealt_105 : decode cX7_dealt 105 = .ok (.invokevirtual 102, 3) := by decide +kernel
theorem dX7_dealt_108 : decode cX7_dealt 108 = .ok (.if_icmp .le 5, 3) := by decide +kernel
theorem dX7_dealt_111 : decode cX7_dealt 111 = .ok (.iconst (-1), 1) := by decide +kernel
theorem dX7_dealt_112 : decode cX7_dealt 112 = .ok (.ireturn, 1) := by decide +kernel
theorem dX7_dealt_113 : decode cX7_dealt 113 = .ok (.iload_n 3, 1) := by decide +kernel
theorem dX7_dealt_114 : decode cX7_dealt 114 = .ok (.aload_n 0, 1) := by decide +kernel
theorem dX7_dealt_115 : decode cX7_dealt 115 = .ok (.getfield 42, 3) := by decide +kernel
theorem dX7_dealt_118 : decode cX7_dealt 118 = .ok (.aload_n 0, 1) := by decide +kernel
theorem dX7_dealt_119 : decode cX7_dealt 119 = .ok (.getfield 9, 3) := by decide +kernel
theorem dX7_dealt_122 : decode cX7_dealt 122 = .ok (.iload 4, 2) := by decide +kernel
theorem dX7_dealt_124 : decode cX7_dealt 124 = .ok (.iaload, 1) := by decide +kernel
theorem dX7_dealt_125 : decode cX7_dealt 125 = .ok (.iaload, 1) := by decide +kernel
theorem dX7_dealt_126 : decode cX7_dealt 126 = .ok (.iload 5, 2) := by decide +kernel
theorem dX7_dealt_128 : decode cX7_dealt 128 = .ok (.ishr, 1) := by decide +kernel
theorem dX7_dealt_129 : decode cX7_dealt 129 = .ok (.iconst 1, 1) := by decide +kernel
theorem dX7_dealt_130 : decode cX7_dealt 130 = .ok (.iand, 1) := by decide +kernel
theorem dX7_dealt_131 : decode cX7_dealt 131 = .ok (.ifCond .ne 7, 3) := by decide +kernel
theorem dX7_dealt_134 : decode cX7_dealt 134 = .ok (.iconst 1, 1) := by decide +kernel
theorem dX7_dealt_135 : decode cX7_dealt 135 = .ok (.goto 4, 3) := by decide +kernel
theorem dX7_dealt_138 : decode cX7_dealt 138 = .ok (.iconst 0, 1) := by decide +kernel
theorem dX7_dealt_139 : decode cX7_dealt 139 = .ok (.iadd, 1) := by decide +kernel
theorem dX7_dealt_140 : decode cX7_dealt 140 = .ok (.istore_n 3, 1) := by decide +kernel
theorem dX7_dealt_141 : decode cX7_dealt 141 = .ok (.aload_n 0, 1) := by decide +kernel
theorem dX7_dealt_142 : decode cX7_dealt 142 = .ok (.getfield 42, 3) := by decide +kernel
theorem dX7_dealt_145 : decode cX7_dealt 145 = .ok (.aload_n 0, 1) := by decide +kernel
theorem dX7_dealt_146 : decode cX7_dealt 146 = .ok (.getfield 9, 3) := by decide +kernel
theorem dX7_dealt_149 : decode cX7_dealt 149 = .ok (.iload 4, 2) := by decide +kernel
theorem dX7_dealt_151 : decode cX7_dealt 151 = .ok (.iaload, 1) := by decide +kernel
theorem dX7_dealt_152 : decode cX7_dealt 152 = .ok (.dup2, 1) := by decide +kernel
theorem dX7_dealt_153 : decode cX7_dealt 153 = .ok (.iaload, 1) := by decide +kernel
theorem dX7_dealt_154 : decode cX7_dealt 154 = .ok (.iconst 1, 1) := by decide +kernel
theorem dX7_dealt_155 : decode cX7_dealt 155 = .ok (.iload 5, 2) := by decide +kernel
theorem dX7_dealt_157 : decode cX7_dealt 157 = .ok (.ishl, 1) := by decide +kernel
theorem dX7_dealt_158 : decode cX7_dealt 158 = .ok (.ior, 1) := by decide +kernel
theorem dX7_dealt_159 : decode cX7_dealt 159 = .ok (.iastore, 1) := by decide +kernel
theorem dX7_dealt_160 : decode cX7_dealt 160 = .ok (.iload_n 3, 1) := by decide +kernel
theorem dX7_dealt_161 : decode cX7_dealt 161 = .ok (.aload_n 0, 1) := by decide +kernel
theorem dX7_dealt_162 : decode cX7_dealt 162 = .ok (.getfield 42, 3) := by decide +kernel
theorem dX7_dealt_165 : decode cX7_dealt 165 = .ok (.aload_n 0, 1) := by decide +kernel
theorem dX7_dealt_166 : decode cX7_dealt 166 = .ok (.getfield 13, 3) := by decide +kernel
theorem dX7_dealt_169 : decode cX7_dealt 169 = .ok (.iload 4, 2) := by decide +kernel
theorem dX7_dealt_171 : decode cX7_dealt 171 = .ok (.iaload, 1) := by decide +kernel
theorem dX7_dealt_172 : decode cX7_dealt 172 = .ok (.iaload, 1) := by decide +kernel
theorem dX7_dealt_173 : decode cX7_dealt 173 = .ok (.iload 5, 2) := by decide +kernel
theorem dX7_dealt_175 : decode cX7_dealt 175 = .ok (.ishr, 1) := by decide +kernel
theorem dX7_dealt_176 : decode cX7_dealt 176 = .ok (.iconst 1, 1) := by decide +kernel
theorem dX7_dealt_177 : decode cX7_dealt 177 = .ok (.iand, 1) := by decide +kernel
theorem dX7_dealt_178 : decode cX7_dealt 178 = .ok (.ifCond .ne 7, 3) := by decide +kernel
theorem dX7_dealt_181 : decode cX7_dealt 181 = .ok (.iconst 1, 1) := by decide +kernel
theorem dX7_dealt_182 : decode cX7_dealt 182 = .ok (.goto 4, 3) := by decide +kernel
theorem dX7_dealt_185 : decode cX7_dealt 185 = .ok (.iconst 0, 1) := by decide +kernel
theorem dX7_dealt_186 : decode cX7_dealt 186 = .ok (.iadd, 1) := by decide +kernel
theorem dX7_dealt_187 : decode cX7_dealt 187 = .ok (.istore_n 3, 1) := by decide +kernel
theorem dX7_dealt_188 : decode cX7_dealt 188 = .ok (.aload_n 0, 1) := by decide +kernel
theorem dX7_dealt_189 : decode cX7_dealt 189 = .ok (.getfield 42, 3) := by decide +kernel
theorem dX7_dealt_192 : decode cX7_dealt 192 = .ok (.aload_n 0, 1) := by decide +kernel
theorem dX7_dealt_193 : decode cX7_dealt 193 = .ok (.getfield 13, 3) := by decide +kernel
theorem dX7_dealt_196 : decode cX7_dealt 196 = .ok (.iload 4, 2) := by decide +kernel
theorem dX7_dealt_198 : decode cX7_dealt 198 = .ok (.iaload, 1) := by decide +kernel
theorem dX7_dealt_199 : decode cX7_dealt 199 = .ok (.dup2, 1) := by decide +kernel
theorem dX7_dealt_200 : decode cX7_dealt 200 = .ok (.iaload, 1) := by decide +kernel
theorem dX7_dealt_201 : decode cX7_dealt 201 = .ok (.iconst 1, 1) := by decide +kernel
theorem dX7_dealt_202 : decode cX7_dealt 202 = .ok (.iload 5, 2) := by decide +kernel
theorem dX7_dealt_204 : decode cX7_dealt 204 = .ok (.ishl, 1) := by decide +kernel
theorem dX7_dealt_205 : decode cX7_dealt 205 = .ok (.ior, 1) := by decide +kernel
theorem dX7_dealt_206 : decode cX7_dealt 206 = .ok (.iastore, 1) := by decide +kernel
theorem dX7_dealt_207 : decode cX7_dealt 207 = .ok (.iinc 4 1, 3) := by decide +kernel
theorem dX7_dealt_210 : decode cX7_dealt 210 = .ok (.goto (-162), 3) := by decide +kernel
theorem dX7_dealt_213 : decode cX7_dealt 213 = .ok (.iload_n 3, 1) := by decide +kernel
theorem dX7_dealt_214 : decode cX7_dealt 214 = .ok (.ireturn, 1) := by decide +kernel
set_option maxHeartbeats 4000000 in
set_option maxRecDepth 100000 in
theorem uX7_dealt_207 (C : CX D [(cA, .int), (cZ, .boolean)] p s m args meth c A cX7_dealt 6 RX7 (some .int)) (k48 : Int32 → Int32 → Int32 → St → Rs) (h48 : ∀ (v2 v3 v4 : Int32) (S : St), RU D (wM a cA cZ) p l e 3 s m args below meth c A 6 (QI D (wM a cA cZ) [(cA, .int), (cZ, .boolean)] A) (k48 v2 v3 v4 S) 48 [] [(0, .ref (a 0)), (2, .int v2), (3, .int v3), (4, .int v4)] S) (v2 v3 v4 : Int32) (S : St) : RU D (wM a cA cZ) p l e 3 s m args below meth c A 6 (QI D (wM a cA cZ) [(cA, .int), (cZ, .boolean)] A) (fX7_dealt_207 k48 v2 v3 v4 S) 207 [] [(0, .ref (a 0)), (2, .int v2), (3, .int v3), (4, .int v4)] S := by
  unfold fX7_dealt_207
  refine R_iinc (v := v4 + 1) (lv' := [(4, .int (v4 + 1)), (0, .ref (a 0)), (2, .int v2), (3, .int v3)]) C dX7_dealt_207 3 rfl rfl (by decide) rfl ?_
  refine R_goto (tgt := 48) C dX7_dealt_210 (by decide) ?_
  refine R_sub [1, 2, 3, 0] rfl ?_
  exact h48 v2 v3 (v4 + 1) S
set_option maxHeartbeats 4000000 in
set_option maxRecDepth 100000 in
theorem uX7_dealt_186 (C : CX D [(cA, .int), (cZ, .boolean)] p s m args meth c A cX7_dealt 6 RX7 (some .int)) (k48 : Int32 → Int32 → Int32 → St → Rs) (h48 : ∀ (v2 v3 v4 : Int32) (S : St), RU D (wM a cA cZ) p l e 3 s m args below meth c A 6 (QI D (wM a cA cZ) [(cA, .int), (cZ, .boolean)] A) (k48 v2 v3 v4 S) 48 [] [(0, .ref (a 0)), (2, .int v2), (3, .int v3), (4, .int v4)] S) (v2 v4 v5 t0 t1 : Int32) (S : St) : RU D (wM a cA cZ) p l e 3 s m args below meth c A 6 (QI D (wM a cA cZ) [(cA, .int), (cZ, .boolean)] A) (fX7_dealt_186 k48 v2 v4 v5 t0 t1 S) 186 [.int t0, .int t1] [(0, .ref (a 0)), (2, .int v2), (4, .int v4), (5, .int v5)] S := by
  unfold fX7_dealt_186
  refine R_iadd C dX7_dealt_186 ?_
  refine R_let (fun x1 => ?_)
  refine R_istore_n (lv' := [(3, .int x1), (0, .ref (a 0)), (2, .int v2), (4, .int v4), (5, .int v5)]) C dX7_dealt_187 rfl (by decide) rfl ?_
  refine R_aload_n C dX7_dealt_188 rfl 1 rfl ?_
  refine gtM_X7_at C wd_3_19 dX7_dealt_189 ?_
  refine R_aload_n C dX7_dealt_192 rfl 1 rfl ?_
  refine gtM_X7_other C wd_3_7 dX7_dealt_193 ?_
  refine R_iload C dX7_dealt_196 3 rfl ?_
  refine ldM1 C dX7_dealt_198 ?_
  refine R_dup2 C dX7_dealt_199 rfl rfl ?_
  refine ldM7 C dX7_dealt_200 ?_
  refine R_iconst (v := (1 : Int32)) C dX7_dealt_201 (by decide) ?_
  refine R_iload C dX7_dealt_202 4 rfl ?_
  refine R_ishl C dX7_dealt_204 ?_
  refine R_ior C dX7_dealt_205 ?_
  refine svM7 C dX7_dealt_206 ?_
  refine R_letS (fun S2 => ?_)
  refine R_sub [1, 2, 0, 3] rfl ?_
  exact uX7_dealt_207 C k48 h48 v2 x1 v4 S2
set_option maxHeartbeats 4000000 in
set_option maxRecDepth 100000 in
theorem uX7_dealt_139 (C : CX D [(cA, .int), (cZ, .boolean)] p s m args meth c A cX7_dealt 6 RX7 (some .int)) (k48 : Int32 → Int32 → Int32 → St → Rs) (h48 : ∀ (v2 v3 v4 : Int32) (S : St), RU D (wM a cA cZ) p l e 3 s m args below meth c A 6 (QI D (wM a cA cZ) [(cA, .int), (cZ, .boolean)] A) (k48 v2 v3 v4 S) 48 [] [(0, .ref (a 0)), (2, .int v2), (3, .int v3), (4, .int v4)] S) (v2 v4 v5 t0 t1 : Int32) (S : St) : RU D (wM a cA cZ) p l e 3 s m args below meth c A 6 (QI D (wM a cA cZ) [(cA, .int), (cZ, .boolean)] A) (fX7_dealt_139 k48 v2 v4 v5 t0 t1 S) 139 [.int t0, .int t1] [(0, .ref (a 0)), (2, .int v2), (4, .int v4), (5, .int v5)] S := by
  unfold fX7_dealt_139
  refine R_iadd C dX7_dealt_139 ?_
  refine R_let (fun x1 => ?_)
  refine R_istore_n (lv' := [(3, .int x1), (0, .ref (a 0)), (2, .int v2), (4, .int v4), (5, .int v5)]) C dX7_dealt_140 rfl (by decide) rfl ?_
  refine R_aload_n C dX7_dealt_141 rfl 1 rfl ?_
  refine gtM_X7_at C wd_3_19 dX7_dealt_142 ?_
  refine R_aload_n C dX7_dealt_145 rfl 1 rfl ?_
  refine gtM_X7_one C wd_3_6 dX7_dealt_146 ?_
  refine R_iload C dX7_dealt_149 3 rfl ?_
  refine ldM0 C dX7_dealt_151 ?_
  refine R_dup2 C dX7_dealt_152 rfl rfl ?_
  refine ldM7 C dX7_dealt_153 ?_
  refine R_iconst (v := (1 : Int32)) C dX7_dealt_154 (by decide) ?_
  refine R_iload C dX7_dealt_155 4 rfl ?_
  refine R_ishl C dX7_dealt_157 ?_
  refine R_ior C dX7_dealt_158 ?_
  refine svM7 C dX7_dealt_159 ?_
  refine R_letS (fun S2 => ?_)
  refine R_iload_n C dX7_dealt_160 rfl 0 rfl ?_
  refine R_aload_n C dX7_dealt_161 rfl 1 rfl ?_
  refine gtM_X7_at C wd_3_19 dX7_dealt_162 ?_
  refine R_aload_n C dX7_dealt_165 rfl 1 rfl ?_
  refine gtM_X7_other C wd_3_7 dX7_dealt_166 ?_
  refine R_iload C dX7_dealt_169 3 rfl ?_
  refine ldM1 C dX7_dealt_171 ?_
  refine ldM7 C dX7_dealt_172 ?_
  refine R_iload C dX7_dealt_173 4 rfl ?_
  refine R_ishr C dX7_dealt_175 ?_
  refine R_iconst (v := (1 : Int32)) C dX7_dealt_176 (by decide) ?_
  refine R_iand C dX7_dealt_177 ?_
  refine R_if_ne (tgt := 185) C dX7_dealt_178 (by decide) ?_ ?_
  · refine R_iconst (v := (1 : Int32)) C dX7_dealt_181 (by decide) ?_
    refine R_goto (tgt := 186) C dX7_dealt_182 (by decide) ?_
    refine R_sub [1, 2, 3, 4] rfl ?_
    exact uX7_dealt_186 C k48 h48 v2 v4 v5 (1 : Int32) x1 S2
  · refine R_iconst (v := (0 : Int32)) C dX7_dealt_185 (by decide) ?_
    refine R_sub [1, 2, 3, 4] rfl ?_
    exact uX7_dealt_186 C k48 h48 v2 v4 v5 (0 : Int32) x1 S2
set_option maxHeartbeats 4000000 in
set_option maxRecDepth 100000 in
theorem uX7_dealt_48_b (C : CX D [(cA, .int), (cZ, .boolean)] p s m args meth c A cX7_dealt 6 RX7 (some .int)) (k48 : Int32 → Int32 → Int32 → St → Rs) (h48 : ∀ (v2 v3 v4 : Int32) (S : St), RU D (wM a cA cZ) p l e 3 s m args below meth c A 6 (QI D (wM a cA cZ) [(cA, .int), (cZ, .boolean)] A) (k48 v2 v3 v4 S) 48 [] [(0, .ref (a 0)), (2, .int v2), (3, .int v3), (4, .int v4)] S) (v2 v3 v4 : Int32) (S : St) : RU D (wM a cA cZ) p l e 3 s m args below meth c A 6 (QI D (wM a cA cZ) [(cA, .int), (cZ, .boolean)] A) (fX7_dealt_48_b k48 v2 v3 v4 S) 48 [] [(0, .ref (a 0)), (2, .int v2), (3, .int v3), (4, .int v4)] S := by
  unfold fX7_dealt_48_b
  refine R_iload C dX7_dealt_48 3 rfl ?_
  refine R_aload_n C dX7_dealt_50 rfl 0 rfl ?_
  refine gtM_X7_lines C wd_3_5 dX7_dealt_51 ?_
  refine R_icmp_ge (tgt := 213) C dX7_dealt_54 (by decide) ?_ ?_
  · refine R_iload_n C dX7_dealt_213 rfl 2 rfl ?_
    exact R_reti C dX7_dealt_214
  · refine R_aload_n C dX7_dealt_57 rfl 0 rfl ?_
    refine gtM_X7_hostOf C wd_3_8 dX7_dealt_58 ?_
    refine R_iload C dX7_dealt_61 3 rfl ?_
    refine ldM2 C dX7_dealt_63 ?_
    refine R_iconst (v := (-1 : Int32)) C dX7_dealt_64 (by decide) ?_
    refine R_icmp_ne (tgt := 71) C dX7_dealt_65 (by decide) ?_ ?_
    · refine R_goto (tgt := 207) C dX7_dealt_68 (by decide) ?_
      exact uX7_dealt_207 C k48 h48 v2 v3 v4 S
    · refine R_iload_n C dX7_dealt_71 rfl 1 rfl ?_
      refine R_aload_n C dX7_dealt_72 rfl 0 rfl ?_
      refine gtM_X7_hosts C wd_3_4 dX7_dealt_73 ?_
      refine R_irem C dX7_dealt_76 ?_
      refine R_let (fun x1 => ?_)
      refine R_istore (lv' := [(5, .int x1), (0, .ref (a 0)), (2, .int v2), (3, .int v3), (4, .int v4)]) C dX7_dealt_77 (by decide) rfl ?_
      refine R_iload_n C dX7_dealt_79 rfl 2 rfl ?_
      refine R_aload_n C dX7_dealt_80 rfl 1 rfl ?_
      refine gtM_X7_hosts C wd_3_4 dX7_dealt_81 ?_
      refine R_idiv C dX7_dealt_84 ?_
      refine R_let (fun x2 => ?_)
      refine R_istore_n (lv' := [(2, .int x2), (5, .int x1), (0, .ref (a 0)), (3, .int v3), (4, .int v4)]) C dX7_dealt_85 rfl (by decide) rfl ?_
      refine R_aload_n C dX7_dealt_86 rfl 2 rfl ?_
      refine gtM_X7_load C wd_3_18 dX7_dealt_87 ?_
      refine R_iload C dX7_dealt_90 1 rfl ?_
      refine R_dup2 C dX7_dealt_92 rfl rfl ?_
      refine ldM6 C dX7_dealt_93 ?_
      refine R_iconst (v := (1 : Int32)) C dX7_dealt_94 (by decide) ?_
      refine R_iadd C dX7_dealt_95 ?_
      refine svM6 C dX7_dealt_96 ?_
      refine R_letS (fun S3 => ?_)
      refine R_aload_n C dX7_dealt_97 rfl 2 rfl ?_
      refine gtM_X7_load C wd_3_18 dX7_dealt_98 ?_
      refine R_iload C dX7_dealt_101 1 rfl ?_
      refine ldM6 C dX7_dealt_103 ?_
      refine R_aload_n C dX7_dealt_104 rfl 2 rfl ?_
      refine R_calli (As := []) (st := [.int (S3.2 6 (ix x1))]) C (kX7_room l D a cA cZ S3) (by decide) (by decide) wd_3_129 kwX7_room 0 rfl rfl rfl rfl (Nat.le_of_ble_eq_true rfl) dX7_dealt_105 (fun r4 S5 => ?_)
      refine R_icmp_le (tgt := 113) C dX7_dealt_108 (by decide) ?_ ?_
      · refine R_iload_n C dX7_dealt_113 rfl 3 rfl ?_
        refine R_aload_n C dX7_dealt_114 rfl 2 rfl ?_
        refine gtM_X7_at C wd_3_19 dX7_dealt_115 ?_
        refine R_aload_n C dX7_dealt_118 rfl 2 rfl ?_
        refine gtM_X7_one C wd_3_6 dX7_dealt_119 ?_
        refine R_iload C dX7_dealt_122 4 rfl ?_
        refine ldM0 C dX7_dealt_124 ?_
        refine ldM7 C dX7_dealt_125 ?_
        refine R_iload C dX7_dealt_126 1 rfl ?_
        refine R_ishr C dX7_dealt_128 ?_
        refine R_iconst (v := (1 : Int32)) C dX7_dealt_129 (by decide) ?_
        refine R_iand C dX7_dealt_130 ?_
        refine R_if_ne (tgt := 138) C dX7_dealt_131 (by decide) ?_ ?_
        · refine R_iconst (v := (1 : Int32)) C dX7_dealt_134 (by decide) ?_
          refine R_goto (tgt := 139) C dX7_dealt_135 (by decide) ?_
          refine R_sub [2, 0, 4, 1] rfl ?_
          exact uX7_dealt_139 C k48 h48 x2 v4 x1 (1 : Int32) v3 S5
        · refine R_iconst (v := (0 : Int32)) C dX7_dealt_138 (by decide) ?_
          refine R_sub [2, 0, 4, 1] rfl ?_
          exact uX7_dealt_139 C k48 h48 x2 v4 x1 (0 : Int32) v3 S5
      · refine R_iconst (v := (-1 : Int32)) C dX7_dealt_111 (by decide) ?_
        exact R_reti C dX7_dealt_112
set_option maxHeartbeats 4000000 in
set_option maxRecDepth 100000 in
theorem uX7_dealt_48 (C : CX D [(cA, .int), (cZ, .boolean)] p s m args meth c A cX7_dealt 6 RX7 (some .int)) : ∀ (n : Nat) (v2 v3 v4 : Int32) (S : St), RU D (wM a cA cZ) p l e 3 s m args below meth c A 6 (QI D (wM a cA cZ) [(cA, .int), (cZ, .boolean)] A) (fX7_dealt_48 n v2 v3 v4 S) 48 [] [(0, .ref (a 0)), (2, .int v2), (3, .int v3), (4, .int v4)] S := by
  intro n
  induction n with
  | zero => intro v2 v3 v4 S; exact R_none
  | succ n ih => intro v2 v3 v4 S; exact uX7_dealt_48_b C _ ih v2 v3 v4 S
set_option maxHeartbeats 4000000 in
set_option maxRecDepth 100000 in
theorem uX7_dealt_22_b (C : CX D [(cA, .int), (cZ, .boolean)] p s m args meth c A cX7_dealt 6 RX7 (some .int)) (k22 : Int32 → Int32 → St → Rs) (h22 : ∀ (v1 v2 : Int32) (S : St), RU D (wM a cA cZ) p l e 3 s m args below meth c A 6 (QI D (wM a cA cZ) [(cA, .int), (cZ, .boolean)] A) (k22 v1 v2 S) 22 [] [(0, .ref (a 0)), (1, .int v1), (2, .int v2)] S) (v1 v2 : Int32) (S : St) : RU D (wM a cA cZ) p l e 3 s m args below meth c A 6 (QI D (wM a cA cZ) [(cA, .int), (cZ, .boolean)] A) (fX7_dealt_22_b k22 v1 v2 S) 22 [] [(0, .ref (a 0)), (1, .int v1), (2, .int v2)] S := by
  unfold fX7_dealt_22_b
  refine R_iload_n C dX7_dealt_22 rfl 2 rfl ?_
  refine R_bipush (v := (40 : Int32)) C dX7_dealt_23 (by decide) ?_
  refine R_icmp_ge (tgt := 41) C dX7_dealt_25 (by decide) ?_ ?_
  · refine R_iload_n C dX7_dealt_41 rfl 1 rfl ?_
    refine R_istore_n (lv' := [(2, .int v1), (0, .ref (a 0)), (1, .int v1)]) C dX7_dealt_42 rfl (by decide) rfl ?_
    refine R_iconst (v := (0 : Int32)) C dX7_dealt_43 (by decide) ?_
    refine R_istore_n (lv' := [(3, .int (0 : Int32)), (2, .int v1), (0, .ref (a 0)), (1, .int v1)]) C dX7_dealt_44 rfl (by decide) rfl ?_
    refine R_iconst (v := (0 : Int32)) C dX7_dealt_45 (by decide) ?_
    refine R_istore (lv' := [(4, .int (0 : Int32)), (3, .int (0 : Int32)), (2, .int v1), (0, .ref (a 0)), (1, .int v1)]) C dX7_dealt_46 (by decide) rfl ?_
    refine R_sub [3, 2, 1, 0] rfl ?_
    exact uX7_dealt_48 C FU v1 (0 : Int32) (0 : Int32) S
  · refine R_aload_n C dX7_dealt_28 rfl 0 rfl ?_
    refine gtM_X7_at C wd_3_19 dX7_dealt_29 ?_
    refine R_iload_n C dX7_dealt_32 rfl 2 rfl ?_
    refine R_iconst (v := (0 : Int32)) C dX7_dealt_33 (by decide) ?_
    refine svM7 C dX7_dealt_34 ?_
    refine R_letS (fun S1 => ?_)
    refine R_iinc (v := v2 + 1) (lv' := [(2, .int (v2 + 1)), (0, .ref (a 0)), (1, .int v1)]) C dX7_dealt_35 2 rfl rfl (by decide) rfl ?_
    refine R_goto (tgt := 22) C dX7_dealt_38 (by decide) ?_
    refine R_sub [1, 2, 0] rfl ?_
    exact h22 v1 (v2 + 1) S1
set_option maxHeartbeats 4000000 in
set_option maxRecDepth 100000 in
theorem uX7_dealt_22 (C : CX D [(cA, .int), (cZ, .boolean)] p s m args meth c A cX7_dealt 6 RX7 (some .int)) : ∀ (n : Nat) (v1 v2 : Int32) (S : St), RU D (wM a cA cZ) p l e 3 s m args below meth c A 6 (QI D (wM a cA cZ) [(cA, .int), (cZ, .boolean)] A) (fX7_dealt_22 n v1 v2 S) 22 [] [(0, .ref (a 0)), (1, .int v1), (2, .int v2)] S := by
  intro n
  induction n with
  | zero => intro v1 v2 S; exact R_none
  | succ n ih => intro v1 v2 S; exact uX7_dealt_22_b C _ ih v1 v2 S
set_option maxHeartbeats 4000000 in
set_option maxRecDepth 100000 in
theorem uX7_dealt_2_b (C : CX D [(cA, .int), (cZ, .boolean)] p s m args meth c A cX7_dealt 6 RX7 (some .int)) (k2 : Int32 → Int32 → St → Rs) (h2 : ∀ (v1 v2 : Int32) (S : St), RU D (wM a cA cZ) p l e 3 s m args below meth c A 6 (QI D (wM a cA cZ) [(cA, .int), (cZ, .boolean)] A) (k2 v1 v2 S) 2 [] [(0, .ref (a 0)), (1, .int v1), (2, .int v2)] S) (v1 v2 : Int32) (S : St) : RU D (wM a cA cZ) p l e 3 s m args below meth c A 6 (QI D (wM a cA cZ) [(cA, .int), (cZ, .boolean)] A) (fX7_dealt_2_b k2 v1 v2 S) 2 [] [(0, .ref (a 0)), (1, .int v1), (2, .int v2)] S := by
  unfold fX7_dealt_2_b
  refine R_iload_n C dX7_dealt_2 rfl 2 rfl ?_
  refine R_iconst (v := (3 : Int32)) C dX7_dealt_3 (by decide) ?_
  refine R_icmp_ge (tgt := 20) C dX7_dealt_4 (by decide) ?_ ?_
  · refine R_iconst (v := (0 : Int32)) C dX7_dealt_20 (by decide) ?_
    refine R_istore_n (lv' := [(2, .int (0 : Int32)), (0, .ref (a 0)), (1, .int v1)]) C dX7_dealt_21 rfl (by decide) rfl ?_
    refine R_sub [1, 2, 0] rfl ?_
    exact uX7_dealt_22 C FU v1 (0 : Int32) S
  · refine R_aload_n C dX7_dealt_7 rfl 0 rfl ?_
    refine gtM_X7_load C wd_3_18 dX7_dealt_8 ?_
    refine R_iload_n C dX7_dealt_11 rfl 2 rfl ?_
    refine R_iconst (v := (0 : Int32)) C dX7_dealt_12 (by decide) ?_
    refine svM6 C dX7_dealt_13 ?_
    refine R_letS (fun S1 => ?_)
    refine R_iinc (v := v2 + 1) (lv' := [(2, .int (v2 + 1)), (0, .ref (a 0)), (1, .int v1)]) C dX7_dealt_14 2 rfl rfl (by decide) rfl ?_
    refine R_goto (tgt := 2) C dX7_dealt_17 (by decide) ?_
    refine R_sub [1, 2, 0] rfl ?_
    exact h2 v1 (v2 + 1) S1
set_option maxHeartbeats 4000000 in
set_option maxRecDepth 100000 in
theorem uX7_dealt_2 (C : CX D [(cA, .int), (cZ, .boolean)] p s m args meth c A cX7_dealt 6 RX7 (some .int)) : ∀ (n : Nat) (v1 v2 : Int32) (S : St), RU D (wM a cA cZ) p l e 3 s m args below meth c A 6 (QI D (wM a cA cZ) [(cA, .int), (cZ, .boolean)] A) (fX7_dealt_2 n v1 v2 S) 2 [] [(0, .ref (a 0)), (1, .int v1), (2, .int v2)] S := by
  intro n
  induction n with
  | zero => intro v1 v2 S; exact R_none
  | succ n ih => intro v1 v2 S; exact uX7_dealt_2_b C _ ih v1 v2 S
set_option maxHeartbeats 4000000 in
set_option maxRecDepth 100000 in
theorem uX7_dealt (C : CX D [(cA, .int), (cZ, .boolean)] p s m args meth c A cX7_dealt 6 RX7 (some .int)) (v1 : Int32) (S : St) : RU D (wM a cA cZ) p l e 3 s m args below meth c A 6 (QI D (wM a cA cZ) [(cA, .int), (cZ, .boolean)] A) (fX7_dealt v1 S) 0 [] [(0, .ref (a 0)), (1, .int v1)] S := by
  unfold fX7_dealt
  refine R_iconst (v := (0 : Int32)) C dX7_dealt_0 (by decide) ?_
  refine R_istore_n (lv' := [(2, .int (0 : Int32)), (0, .ref (a 0)), (1, .int v1)]) C dX7_dealt_1 rfl (by decide) rfl ?_
  refine R_sub [1, 2, 0] rfl ?_
  exact uX7_dealt_2 C FU v1 (0 : Int32) S
set_option maxHeartbeats 4000000 in
set_option maxRecDepth 100000 in
theorem kX7_dealt (l : Launch) (D : va_G) (a : Nat → Nat) (cA cZ : ClassId) (S : St) (v1 : Int32) : CI l D (wM a cA cZ) [(cA, .int), (cZ, .boolean)] yX7_dealt (.code yX7_dealt cX7_dealt 6 (some .int)) 3 [.ref (a 0), .int v1] (fX7_dealt v1 S) S := CI_of rfl (Nat.le_of_ble_eq_true rfl) (fun p e s m args below meth c A C => uX7_dealt C v1 S)
theorem dX7_best_0 : decode cX7_best 0 = .ok (.aload_n 0, 1) := by decide +kernel
theorem dX7_best_1 : decode cX7_best 1 = .ok (.getfield 64, 3) := by decide +kernel
theorem dX7_best_4 : decode cX7_best 4 = .ok (.iconst 1, 1) := by decide +kernel
theorem dX7_best_5 : decode cX7_best 5 = .ok (.bipush 8, 2) := by decide +kernel
theorem dX7_best_7 : decode cX7_best 7 = .ok (.invokestatic 57, 3) := by decide +kernel
theorem dX7_best_10 : decode cX7_best 10 = .ok (.ifCond .eq 11, 3) := by decide +kernel
theorem dX7_best_13 : decode cX7_best 13 = .ok (.aload_n 0, 1) := by decide +kernel
theorem dX7_best_14 : decode cX7_best 14 = .ok (.getfield 54, 3) := by decide +kernel
theorem dX7_best_17 : decode cX7_best 17 = .ok (.iconst 3, 1) := by decide +kernel
theorem dX7_best_18 : decode cX7_best 18 = .ok (.if_icmp .le 5, 3) := by decide +kernel
theorem dX7_best_21 : decode cX7_best 21 = .ok (.iconst (-1), 1) := by decide +kernel
theorem dX7_best_22 : decode cX7_best 22 = .ok (.ireturn, 1) := by decide +kernel
theorem dX7_best_23 : decode cX7_best 23 = .ok (.iconst 1, 1) := by decide +kernel
theorem dX7_best_24 : decode cX7_best 24 = .ok (.istore_n 1, 1) := by decide +kernel
theorem dX7_best_25 : decode cX7_best 25 = .ok (.iconst 0, 1) := by decide +kernel
theorem dX7_best_26 : decode cX7_best 26 = .ok (.istore_n 2, 1) := by decide +kernel
theorem dX7_best_27 : decode cX7_best 27 = .ok (.iload_n 2, 1) := by decide +kernel
theorem dX7_best_28 : decode cX7_best 28 = .ok (.aload_n 0, 1) := by decide +kernel
theorem dX7_best_29 : decode cX7_best 29 = .ok (.getfield 64, 3) := by decide +kernel
theorem dX7_best_32 : decode cX7_best 32 = .ok (.if_icmp .ge 16, 3) := by decide +kernel
theorem dX7_best_35 : decode cX7_best 35 = .ok (.iload_n 1, 1) := by decide +kernel
theorem dX7_best_36 : decode cX7_best 36 = .ok (.aload_n 0, 1) := by decide +kernel
theorem dX7_best_37 : decode cX7_best 37 = .ok (.getfield 54, 3) := by decide +kernel
theorem dX7_best_40 : decode cX7_best 40 = .ok (.imul, 1) := by decide +kernel
theorem dX7_best_41 : decode cX7_best 41 = .ok (.istore_n 1, 1) := by decide +kernel
theorem dX7_best_42 : decode cX7_best 42 = .ok (.iinc 2 1, 3) := by decide +kernel
theorem dX7_best_45 : decode cX7_best 45 = .ok (.goto (-18), 3) := by decide +kernel
theorem dX7_best_48 : decode cX7_best 48 = .ok (.iconst (-1), 1) := by decide +kernel
theorem dX7_best_49 : decode cX7_best 49 = .ok (.istore_n 2, 1) := by decide +kernel
theorem dX7_best_50 : decode cX7_best 50 = .ok (.iconst 0, 1) := by decide +kernel
theorem dX7_best_51 : decode cX7_best 51 = .ok (.istore_n 3, 1) := by decide +kernel
theorem dX7_best_52 : decode cX7_best 52 = .ok (.iload_n 3, 1) := by decide +kernel
theorem dX7_best_53 : decode cX7_best 53 = .ok (.iload_n 1, 1) := by decide +kernel
theorem dX7_best_54 : decode cX7_best 54 = .ok (.if_icmp .ge 36, 3) := by decide +kernel
theorem dX7_best_57 : decode cX7_best 57 = .ok (.aload_n 0, 1) := by decide +kernel
theorem dX7_best_58 : decode cX7_best 58 = .ok (.iload_n 3, 1) := by decide +kernel
theorem dX7_best_59 : decode cX7_best 59 = .ok (.invokevirtual 117, 3) := by decide +kernel
theorem dX7_best_62 : decode cX7_best 62 = .ok (.istore 4, 2) := by decide +kernel
theorem dX7_best_64 : decode cX7_best 64 = .ok (.iload 4, 2) := by decide +kernel
theorem dX7_best_66 : decode cX7_best 66 = .ok (.iconst (-1), 1) := by decide +kernel
theorem dX7_best_67 : decode cX7_best 67 = .ok (.if_icmp .eq 17, 3) := by decide +kernel
theorem dX7_best_70 : decode cX7_best 70 = .ok (.iload_n 2, 1) := by decide +kernel
theorem dX7_best_71 : decode cX7_best 71 = .ok (.iconst (-1), 1) := by decide +kernel
theorem dX7_best_72 : decode cX7_best 72 = .ok (.if_icmp .eq 9, 3) := by decide +kernel
theorem dX7_best_75 : decode cX7_best 75 = .ok (.iload 4, 2) := by decide +kernel
theorem dX7_best_77 : decode cX7_best 77 = .ok (.iload_n 2, 1) := by decide +kernel
theorem dX7_best_78 : decode cX7_best 78 = .ok (.if_icmp .ge 6, 3) := by decide +kernel
theorem dX7_best_81 : decode cX7_best 81 = .ok (.iload 4, 2) := by decide +kernel
theorem dX7_best_83 : decode cX7_best 83 = .ok (.istore_n 2, 1) := by decide +kernel
theorem dX7_best_84 : decode cX7_best 84 = .ok (.iinc 3 1, 3) := by decide +kernel
theorem dX7_best_87 : decode cX7_best 87 = .ok (.goto (-35), 3) := by decide +kernel
theorem dX7_best_90 : decode cX7_best 90 = .ok (.iload_n 2, 1) := by decide +kernel
theorem dX7_best_91 : decode cX7_best 91 = .ok (.ireturn, 1) := by decide +kernel
set_option maxHeartbeats 4000000 in
set_option maxRecDepth 100000 in
theorem uX7_best_21 (C : CX D [(cA, .int), (cZ, .boolean)] p s m args meth c A cX7_best 5 RX7 (some .int)) (S : St) : RU D (wM a cA cZ) p l e 4 s m args below meth c A 5 (QI D (wM a cA cZ) [(cA, .int), (cZ, .boolean)] A) (fX7_best_21 S) 21 [] [] S := by
  unfold fX7_best_21
  refine R_iconst (v := (-1 : Int32)) C dX7_best_21 (by decide) ?_
  exact R_reti C dX7_best_22
set_option maxHeartbeats 4000000 in
set_option maxRecDepth 100000 in
theorem uX7_best_84 (C : CX D [(cA, .int), (cZ, .boolean)] p s m args meth c A cX7_best 5 RX7 (some .int)) (k52 : Int32 → Int32 → Int32 → St → Rs) (h52 : ∀ (v1 v2 v3 : Int32) (S : St), RU D (wM a cA cZ) p l e 4 s m args below meth c A 5 (QI D (wM a cA cZ) [(cA, .int), (cZ, .boolean)] A) (k52 v1 v2 v3 S) 52 [] [(0, .ref (a 0)), (1, .int v1), (2, .int v2), (3, .int v3)] S) (v1 v2 v3 : Int32) (S : St) : RU D (wM a cA cZ) p l e 4 s m args below meth c A 5 (QI D (wM a cA cZ) [(cA, .int), (cZ, .boolean)] A) (fX7_best_84 k52 v1 v2 v3 S) 84 [] [(0, .ref (a 0)), (1, .int v1), (2, .int v2), (3, .int v3)] S := by
  unfold fX7_best_84
  refine R_iinc (v := v3 + 1) (lv' := [(3, .int (v3 + 1)), (0, .ref (a 0)), (1, .int v1), (2, .int v2)]) C dX7_best_84 3 rfl rfl (by decide) rfl ?_
  refine R_goto (tgt := 52) C dX7_best_87 (by decide) ?_
  refine R_sub [1, 2, 3, 0] rfl ?_
  exact h52 v1 v2 (v3 + 1) S
set_option maxHeartbeats 4000000 in
set_option maxRecDepth 100000 in
theorem uX7_best_81 (C : CX D [(cA, .int), (cZ, .boolean)] p s m args meth c A cX7_best 5 RX7 (some .int)) (k52 : Int32 → Int32 → Int32 → St → Rs) (h52 : ∀ (v1 v2 v3 : Int32) (S : St), RU D (wM a cA cZ) p l e 4 s m args below meth c A 5 (QI D (wM a cA cZ) [(cA, .int), (cZ, .boolean)] A) (k52 v1 v2 v3 S) 52 [] [(0, .ref (a 0)), (1, .int v1), (2, .int v2), (3, .int v3)] S) (v1 v3 v4 : Int32) (S : St) : RU D (wM a cA cZ) p l e 4 s m args below meth c A 5 (QI D (wM a cA cZ) [(cA, .int), (cZ, .boolean)] A) (fX7_best_81 k52 v1 v3 v4 S) 81 [] [(0, .ref (a 0)), (1, .int v1), (3, .int v3), (4, .int v4)] S := by
  unfold fX7_best_81
  refine R_iload C dX7_best_81 3 rfl ?_
  refine R_istore_n (lv' := [(2, .int v4), (0, .ref (a 0)), (1, .int v1), (3, .int v3), (4, .int v4)]) C dX7_best_83 rfl (by decide) rfl ?_
  refine R_sub [1, 2, 0, 3] rfl ?_
  exact uX7_best_84 C k52 h52 v1 v4 v3 S
set_option maxHeartbeats 4000000 in
set_option maxRecDepth 100000 in
theorem uX7_best_52_b (C : CX D [(cA, .int), (cZ, .boolean)] p s m args meth c A cX7_best 5 RX7 (some .int)) (k52 : Int32 → Int32 → Int32 → St → Rs) (h52 : ∀ (v1 v2 v3 : Int32) (S : St), RU D (wM a cA cZ) p l e 4 s m args below meth c A 5 (QI D (wM a cA cZ) [(cA, .int), (cZ, .boolean)] A) (k52 v1 v2 v3 S) 52 [] [(0, .ref (a 0)), (1, .int v1), (2, .int v2), (3, .int v3)] S) (v1 v2 v3 : Int32) (S : St) : RU D (wM a cA cZ) p l e 4 s m args below meth c A 5 (QI D (wM a cA cZ) [(cA, .int), (cZ, .boolean)] A) (fX7_best_52_b k52 v1 v2 v3 S) 52 [] [(0, .ref (a 0)), (1, .int v1), (2, .int v2), (3, .int v3)] S := by
  unfold fX7_best_52_b
  refine R_iload_n C dX7_best_52 rfl 3 rfl ?_
  refine R_iload_n C dX7_best_53 rfl 1 rfl ?_
  refine R_icmp_ge (tgt := 90) C dX7_best_54 (by decide) ?_ ?_
  · refine R_iload_n C dX7_best_90 rfl 2 rfl ?_
    exact R_reti C dX7_best_91
  · refine R_aload_n C dX7_best_57 rfl 0 rfl ?_
    refine R_iload_n C dX7_best_58 rfl 3 rfl ?_
    refine R_calli (As := [.int v3]) (st := []) C (kX7_dealt l D a cA cZ S v3) (by decide) (by decide) wd_3_171 kwX7_dealt 0 rfl rfl rfl rfl (Nat.le_of_ble_eq_true rfl) dX7_best_59 (fun r1 S2 => ?_)
    refine R_istore (lv' := [(4, .int r1), (0, .ref (a 0)), (1, .int v1), (2, .int v2), (3, .int v3)]) C dX7_best_62 (by decide) rfl ?_
    refine R_iload C dX7_best_64 0 rfl ?_
    refine R_iconst (v := (-1 : Int32)) C dX7_best_66 (by decide) ?_
    refine R_icmp_eq (tgt := 84) C dX7_best_67 (by decide) ?_ ?_
    · refine R_sub [1, 2, 3, 4] rfl ?_
      exact uX7_best_84 C k52 h52 v1 v2 v3 S2
    · refine R_iload_n C dX7_best_70 rfl 3 rfl ?_
      refine R_iconst (v := (-1 : Int32)) C dX7_best_71 (by decide) ?_
      refine R_icmp_eq (tgt := 81) C dX7_best_72 (by decide) ?_ ?_
      · refine R_sub [1, 2, 4, 0] rfl ?_
        exact uX7_best_81 C k52 h52 v1 v3 r1 S2
      · refine R_iload C dX7_best_75 0 rfl ?_
        refine R_iload_n C dX7_best_77 rfl 3 rfl ?_
        refine R_icmp_ge (tgt := 84) C dX7_best_78 (by decide) ?_ ?_
        · refine R_sub [1, 2, 3, 4] rfl ?_
          exact uX7_best_84 C k52 h52 v1 v2 v3 S2
        · refine R_sub [1, 2, 4, 0] rfl ?_
          exact uX7_best_81 C k52 h52 v1 v3 r1 S2
set_option maxHeartbeats 4000000 in
set_option maxRecDepth 100000 in
theorem uX7_best_52 (C : CX D [(cA, .int), (cZ, .boolean)] p s m args meth c A cX7_best 5 RX7 (some .int)) : ∀ (n : Nat) (v1 v2 v3 : Int32) (S : St), RU D (wM a cA cZ) p l e 4 s m args below meth c A 5 (QI D (wM a cA cZ) [(cA, .int), (cZ, .boolean)] A) (fX7_best_52 n v1 v2 v3 S) 52 [] [(0, .ref (a 0)), (1, .int v1), (2, .int v2), (3, .int v3)] S := by
  intro n
  induction n with
  | zero => intro v1 v2 v3 S; exact R_none
  | succ n ih => intro v1 v2 v3 S; exact uX7_best_52_b C _ ih v1 v2 v3 S
set_option maxHeartbeats 4000000 in
set_option maxRecDepth 100000 in
theorem uX7_best_27_b (C : CX D [(cA, .int), (cZ, .boolean)] p s m args meth c A cX7_best 5 RX7 (some .int)) (k27 : Int32 → Int32 → St → Rs) (h27 : ∀ (v1 v2 : Int32) (S : St), RU D (wM a cA cZ) p l e 4 s m args below meth c A 5 (QI D (wM a cA cZ) [(cA, .int), (cZ, .boolean)] A) (k27 v1 v2 S) 27 [] [(0, .ref (a 0)), (1, .int v1), (2, .int v2)] S) (v1 v2 : Int32) (S : St) : RU D (wM a cA cZ) p l e 4 s m args below meth c A 5 (QI D (wM a cA cZ) [(cA, .int), (cZ, .boolean)] A) (fX7_best_27_b k27 v1 v2 S) 27 [] [(0, .ref (a 0)), (1, .int v1), (2, .int v2)] S := by
  unfold fX7_best_27_b
  refine R_iload_n C dX7_best_27 rfl 2 rfl ?_
  refine R_aload_n C dX7_best_28 rfl 0 rfl ?_
  refine gtM_X7_live C wd_3_11 dX7_best_29 ?_
  refine R_icmp_ge (tgt := 48) C dX7_best_32 (by decide) ?_ ?_
  · refine R_iconst (v := (-1 : Int32)) C dX7_best_48 (by decide) ?_
    refine R_istore_n (lv' := [(2, .int (-1 : Int32)), (0, .ref (a 0)), (1, .int v1)]) C dX7_best_49 rfl (by decide) rfl ?_
    refine R_iconst (v := (0 : Int32)) C dX7_best_50 (by decide) ?_
    refine R_istore_n (lv' := [(3, .int (0 : Int32)), (2, .int (-1 : Int32)), (0, .ref (a 0)), (1, .int v1)]) C dX7_best_51 rfl (by decide) rfl ?_
    refine R_sub [2, 3, 1, 0] rfl ?_
    exact uX7_best_52 C FU v1 (-1 : Int32) (0 : Int32) S
  · refine R_iload_n C dX7_best_35 rfl 1 rfl ?_
    refine R_aload_n C dX7_best_36 rfl 0 rfl ?_
    refine gtM_X7_hosts C wd_3_4 dX7_best_37 ?_
    refine R_imul C dX7_best_40 ?_
    refine R_let (fun x1 => ?_)
    refine R_istore_n (lv' := [(1, .int x1), (0, .ref (a 0)), (2, .int v2)]) C dX7_best_41 rfl (by decide) rfl ?_
    refine R_iinc (v := v2 + 1) (lv' := [(2, .int (v2 + 1)), (1, .int x1), (0, .ref (a 0))]) C dX7_best_42 2 rfl rfl (by decide) rfl ?_
    refine R_goto (tgt := 27) C dX7_best_45 (by decide) ?_
    refine R_sub [2, 1, 0] rfl ?_
    exact h27 x1 (v2 + 1) S
set_option maxHeartbeats 4000000 in
set_option maxRecDepth 100000 in
theorem uX7_best_27 (C : CX D [(cA, .int), (cZ, .boolean)] p s m args meth c A cX7_best 5 RX7 (some .int)) : ∀ (n : Nat) (v1 v2 : Int32) (S : St), RU D (wM a cA cZ) p l e 4 s m args below meth c A 5 (QI D (wM a cA cZ) [(cA, .int), (cZ, .boolean)] A) (fX7_best_27 n v1 v2 S) 27 [] [(0, .ref (a 0)), (1, .int v1), (2, .int v2)] S := by
  intro n
  induction n with
  | zero => intro v1 v2 S; exact R_none
  | succ n ih => intro v1 v2 S; exact uX7_best_27_b C _ ih v1 v2 S
set_option maxHeartbeats 4000000 in
set_option maxRecDepth 100000 in
theorem uX7_best (C : CX D [(cA, .int), (cZ, .boolean)] p s m args meth c A cX7_best 5 RX7 (some .int)) (S : St) : RU D (wM a cA cZ) p l e 4 s m args below meth c A 5 (QI D (wM a cA cZ) [(cA, .int), (cZ, .boolean)] A) (fX7_best S) 0 [] [(0, .ref (a 0))] S := by
  unfold fX7_best
  refine R_aload_n C dX7_best_0 rfl 0 rfl ?_
  refine gtM_X7_live C wd_3_11 dX7_best_1 ?_
  refine R_iconst (v := (1 : Int32)) C dX7_best_4 (by decide) ?_
  refine R_bipush (v := (8 : Int32)) C dX7_best_5 (by decide) ?_
  refine R_calls (As := [.int (S.1 2), .int (1 : Int32), .int (8 : Int32)]) (st := []) C (kX7_in l D a cA cZ S (S.1 2) (1 : Int32) (8 : Int32)) (by decide) (by decide) wd_3_70 kwX7_in rfl rfl (Nat.le_of_ble_eq_true rfl) dX7_best_7 (fun r1 S2 => ?_)
  refine R_if_eq (tgt := 21) C dX7_best_10 (by decide) ?_ ?_
  · refine R_sub [] rfl ?_
    exact uX7_best_21 C S2
  · refine R_aload_n C dX7_best_13 rfl 0 rfl ?_
    refine gtM_X7_hosts C wd_3_4 dX7_best_14 ?_
    refine R_iconst (v := (3 : Int32)) C dX7_best_17 (by decide) ?_
    refine R_icmp_le (tgt := 23) C dX7_best_18 (by decide) ?_ ?_
    · refine R_iconst (v := (1 : Int32)) C dX7_best_23 (by decide) ?_
      refine R_istore_n (lv' := [(1, .int (1 : Int32)), (0, .ref (a 0))]) C dX7_best_24 rfl (by decide) rfl ?_
      refine R_iconst (v := (0 : Int32)) C dX7_best_25 (by decide) ?_
      refine R_istore_n (lv' := [(2, .int (0 : Int32)), (1, .int (1 : Int32)), (0, .ref (a 0))]) C dX7_best_26 rfl (by decide) rfl ?_
      refine R_sub [2, 1, 0] rfl ?_
      exact uX7_best_27 C FU (1 : Int32) (0 : Int32) S2
    · refine R_sub [] rfl ?_
      exact uX7_best_21 C S2
set_option maxHeartbeats 4000000 in
set_option maxRecDepth 100000 in
theorem kX7_best (l : Launch) (D : va_G) (a : Nat → Nat) (cA cZ : ClassId) (S : St) : CI l D (wM a cA cZ) [(cA, .int), (cZ, .boolean)] yX7_best (.code yX7_best cX7_best 5 (some .int)) 4 [.ref (a 0)] (fX7_best S) S := CI_of rfl (Nat.le_of_ble_eq_true rfl) (fun p e s m args below meth c A C => uX7_best C S)
theorem dX7_runs_0 : decode cX7_runs 0 = .ok (.iconst 0, 1) := by decide +kernel
theorem dX7_runs_1 : decode cX7_runs 1 = .ok (.istore_n 1, 1) := by decide +kernel
theorem dX7_runs_2 : decode cX7_runs 2 = .ok (.iload_n 1, 1) := by decide +kernel
theorem dX7_runs_3 : decode cX7_runs 3 = .ok (.bipush 40, 2) := by decide +kernel
theorem dX7_runs_5 : decode cX7_runs 5 = .ok (.if_icmp .ge 16, 3) := by decide +kernel
theorem dX7_runs_8 : decode cX7_runs 8 = .ok (.aload_n 0, 1) := by decide +kernel
theorem dX7_runs_9 : decode cX7_runs 9 = .ok (.getfield 45, 3) := by decide +kernel
theorem dX7_runs_12 : decode cX7_runs 12 = .ok (.iload_n 1, 1) := by decide +kernel
theorem dX7_runs_13 : decode cX7_runs 13 = .ok (.iload_n 1, 1) := by decide +kernel
theorem dX7_runs_14 : decode cX7_runs 14 = .ok (.iastore, 1) := by decide +kernel
theorem dX7_runs_15 : decode cX7_runs 15 = .ok (.iinc 1 1, 3) := by decide +kernel
theorem dX7_runs_18 : decode cX7_runs 18 = .ok (.goto (-16), 3) := by decide +kernel
theorem dX7_runs_21 : decode cX7_runs 21 = .ok (.iconst 0, 1) := by decide +kernel
theorem dX7_runs_22 : decode cX7_runs 22 = .ok (.istore_n 1, 1) := by decide +kernel
theorem dX7_runs_23 : decode cX7_runs 23 = .ok (.iconst 1, 1) := by decide +kernel
theorem dX7_runs_24 : decode cX7_runs 24 = .ok (.istore_n 2, 1) := by decide +kernel
theorem dX7_runs_25 : decode cX7_runs 25 = .ok (.iload_n 2, 1) := by decide +kernel
theorem dX7_runs_26 : decode cX7_runs 26 = .ok (.ifCond .eq 211, 3) := by decide +kernel
theorem dX7_runs_29 : decode cX7_runs 29 = .ok (.iconst 0, 1) := by decide +kernel
theorem dX7_runs_30 : decode cX7_runs 30 = .ok (.istore_n 2, 1) := by decide +kernel
theorem dX7_runs_31 : decode cX7_runs 31 = .ok (.iinc 1 1, 3) := by decide +kernel
theorem dX7_runs_34 : decode cX7_runs 34 = .ok (.iconst 0, 1) := by decide +kernel
theorem dX7_runs_35 : decode cX7_runs 35 = .ok (.istore_n 3, 1) := by decide +kernel
theorem dX7_runs_36 : decode cX7_runs 36 = .ok (.iload_n 3, 1) := by decide +kernel
theorem dX7_runs_37 : decode cX7_runs 37 = .ok (.bipush 40, 2) := by decide +kernel
theorem dX7_runs_39 : decode cX7_runs 39 = .ok (.if_icmp .ge 21, 3) := by decide +kernel
theorem dX7_runs_42 : decode cX7_runs 42 = .ok (.aload_n 0, 1) := by decide +kernel
theorem dX7_runs_43 : decode cX7_runs 43 = .ok (.getfield 48, 3) := by decide +kernel
theorem dX7_runs_46 : decode cX7_runs 46 = .ok (.iload_n 3, 1) := by decide +kernel
theorem dX7_runs_47 : decode cX7_runs 47 = .ok (.aload_n 0, 1) := by decide +kernel
theorem dX7_runs_48 : decode cX7_runs 48 = .ok (.getfield 45, 3) := by decide +kernel
theorem dX7_runs_51 : decode cX7_runs 51 = .ok (.iload_n 3, 1) := by decide +kernel
theorem dX7_runs_52 : decode cX7_runs 52 = .ok (.iaload, 1) := by decide +kernel
theorem dX7_runs_53 : decode cX7_runs 53 = .ok (.iastore, 1) := by decide +kernel
theorem dX7_runs_54 : decode cX7_runs 54 = .ok (.iinc 3 1, 3) := by decide +kernel
theorem dX7_runs_57 : decode cX7_runs 57 = .ok (.goto (-21), 3) := by decide +kernel
theorem dX7_runs_60 : decode cX7_runs 60 = .ok (.iconst 0, 1) := by decide +kernel
theorem dX7_runs_61 : decode cX7_runs 61 = .ok (.istore_n 3, 1) := by decide +kernel
theorem dX7_runs_62 : decode cX7_runs 62 = .ok (.iload_n 3, 1) := by decide +kernel
theorem dX7_runs_63 : decode cX7_runs 63 = .ok (.aload_n 0, 1) := by decide +kernel
theorem dX7_runs_64 : decode cX7_runs 64 = .ok (.getfield 61, 3) := by decide +kernel
theorem dX7_runs_67 : decode cX7_runs 67 = .ok (.if_icmp .ge 116, 3) := by decide +kernel
theorem dX7_runs_70 : decode cX7_runs 70 = .ok (.aload_n 0, 1) := by decide +kernel
theorem dX7_runs_71 : decode cX7_runs 71 = .ok (.getfield 16, 3) := by decide +kernel
theorem dX7_runs_74 : decode cX7_runs 74 = .ok (.iload_n 3, 1) := by decide +kernel
theorem dX7_runs_75 : decode cX7_runs 75 = .ok (.iaload, 1) := by decide +kernel
theorem dX7_runs_76 : decode cX7_runs 76 = .ok (.iconst (-1), 1) := by decide +kernel
theorem dX7_runs_77 : decode cX7_runs 77 = .ok (.if_icmp .ne 6, 3) := by decide +kernel
theorem dX7_runs_80 : decode cX7_runs 80 = .ok (.goto 97, 3) := by decide +kernel
theorem dX7_runs_83 : decode cX7_runs 83 = .ok (.aload_n 0, 1) := by decide +kernel
theorem dX7_runs_84 : decode cX7_runs 84 = .ok (.getfield 45, 3) := by decide +kernel
theorem dX7_runs_87 : decode cX7_runs 87 = .ok (.aload_n 0, 1) := by decide +kernel
theorem dX7_runs_88 : decode cX7_runs 88 = .ok (.getfield 13, 3) := by decide +kernel
theorem dX7_runs_91 : decode cX7_runs 91 = .ok (.iload_n 3, 1) := by decide +kernel
theorem dX7_runs_92 : decode cX7_runs 92 = .ok (.iaload, 1) := by decide +kernel
theorem dX7_runs_93 : decode cX7_runs 93 = .ok (.iaload, 1) := by decide +kernel
theorem dX7_runs_94 : decode cX7_runs 94 = .ok (.aload_n 0, 1) := by decide +kernel
theorem dX7_runs_95 : decode cX7_runs 95 = .ok (.getfield 48, 3) := by decide +kernel
theorem dX7_runs_98 : decode cX7_runs 98 = .ok (.aload_n 0, 1) := by decide +kernel
theorem dX7_runs_99 : decode cX7_runs 99 = .ok (.getfield 9, 3) := by decide +kernel
theorem dX7_runs_102 : decode cX7_runs 102 = .ok (.iload_n 3, 1) := by decide +kernel
theorem dX7_runs_103 : decode cX7_runs 103 = .ok (.iaload, 1) := by decide +kernel
theorem dX7_runs_104 : decode cX7_runs 104 = .ok (.iaload, 1) := by decide +kernel
theorem dX7_runs_105 : decode cX7_runs 105 = .ok (.if_icmp .ge 25, 3) := by decide +kernel
theorem dX7_runs_108 : decode cX7_runs 108 = .ok (.aload_n 0, 1) := by decide +kernel
theorem dX7_runs_109 : decode cX7_runs 109 = .ok (.getfield 48, 3) := by decide +kernel
theorem dX7_runs_112 : decode cX7_runs 112 = .ok (.aload_n 0, 1) := by decide +kernel
theorem dX7_runs_113 : decode cX7_runs 113 = .ok (.getfield 9, 3) := by decide +kernel
theorem dX7_runs_116 : decode cX7_runs 116 = .ok (.iload_n 3, 1) := by decide +kernel
theorem dX7_runs_117 : decode cX7_runs 117 = .ok (.iaload, 1) := by decide +kernel
theorem dX7_runs_118 : decode cX7_runs 118 = .ok (.aload_n 0, 1) := by decide +kernel
theorem dX7_runs_119 : decode cX7_runs 119 = .ok (.getfield 45, 3) := by decide +kernel
theorem dX7_runs_122 : decode cX7_runs 122 = .ok (.aload_n 0, 1) := by decide +kernel
theorem dX7_runs_123 : decode cX7_runs 123 = .ok (.getfield 13, 3) := by decide +kernel
theorem dX7_runs_126 : decode cX7_runs 126 = .ok (.iload_n 3, 1) := by decide +kernel
theorem dX7_runs_127 : decode cX7_runs 127 = .ok (.iaload, 1) := by decide +kernel
theorem dX7_runs_128 : decode cX7_runs 128 = .ok (.iaload, 1) := by decide +kernel
theorem dX7_runs_129 : decode cX7_runs 129 = .ok (.iastore, 1) := by decide +kernel
theorem dX7_runs_130 : decode cX7_runs 130 = .ok (.aload_n 0, 1) := by decide +kernel
theorem dX7_runs_131 : decode cX7_runs 131 = .ok (.getfield 45, 3) := by decide +kernel
theorem dX7_runs_134 : decode cX7_runs 134 = .ok (.aload_n 0, 1) := by decide +kernel
theorem dX7_runs_135 : decode cX7_runs 135 = .ok (.getfield 9, 3) := by decide +kernel
theorem dX7_runs_138 : decode cX7_runs 138 = .ok (.iload_n 3, 1) := by decide +kernel
theorem dX7_runs_139 : decode cX7_runs 139 = .ok (.iaload, 1) := by decide +kernel
theorem dX7_runs_140 : decode cX7_runs 140 = .ok (.iaload, 1) := by decide +kernel
theorem dX7_runs_141 : decode cX7_runs 141 = .ok (.aload_n 0, 1) := by decide +kernel
theorem dX7_runs_142 : decode cX7_runs 142 = .ok (.getfield 48, 3) := by decide +kernel
theorem dX7_runs_145 : decode cX7_runs 145 = .ok (.aload_n 0, 1) := by decide +kernel
theorem dX7_runs_146 : decode cX7_runs 146 = .ok (.getfield 13, 3) := by decide +kernel
theorem dX7_runs_149 : decode cX7_runs 149 = .ok (.iload_n 3, 1) := by decide +kernel
theorem dX7_runs_150 : decode cX7_runs 150 = .ok (.iaload, 1) := by decide +kernel
theorem dX7_runs_151 : decode cX7_runs 151 = .ok (.iaload, 1) := by decide +kernel
theorem dX7_runs_152 : decode cX7_runs 152 = .ok (.if_icmp .ge 25, 3) := by decide +kernel
theorem dX7_runs_155 : decode cX7_runs 155 = .ok (.aload_n 0, 1) := by decide +kernel
theorem dX7_runs_156 : decode cX7_runs 156 = .ok (.getfield 48, 3) := by decide +kernel
theorem dX7_runs_159 : decode cX7_runs 159 = .ok (.aload_n 0, 1) := by decide +kernel
theorem dX7_runs_160 : decode cX7_runs 160 = .ok (.getfield 13, 3) := by decide +kernel
theorem dX7_runs_163 : decode cX7_runs 163 = .ok (.iload_n 3, 1) := by decide +kernel
theorem dX7_runs_164 : decode cX7_runs 164 = .ok (.iaload, 1) := by decide +kernel
theorem dX7_runs_165 : decode cX7_runs 165 = .ok (.aload_n 0, 1) := by decide +kernel
theorem dX7_runs_166 : decode cX7_runs 166 = .ok (.getfield 45, 3) := by decide +kernel
theorem dX7_runs_169 : decode cX7_runs 169 = .ok (.aload_n 0, 1) := by decide +kernel
theorem dX7_runs_170 : decode cX7_runs 170 = .ok (.getfield 9, 3) := by decide +kernel
theorem dX7_runs_173 : decode cX7_runs 173 = .ok (.iload_n 3, 1) := by decide +kernel
theorem dX7_runs_174 : decode cX7_runs 174 = .ok (.iaload, 1) := by decide +kernel
theorem dX7_runs_175 : decode cX7_runs 175 = .ok (.iaload, 1) := by decide +kernel
theorem dX7_runs_176 : decode cX7_runs 176 = .ok (.iastore, 1) := by decide +kernel
theorem dX7_runs_177 : decode cX7_runs 177 = .ok (.iinc 3 1, 3) := by decide +kernel
theorem dX7_runs_180 : decode cX7_runs 180 = .ok (.goto (-118), 3) := by decide +kernel
theorem dX7_runs_183 : decode cX7_runs 183 = .ok (.iconst 0, 1) := by decide +kernel
theorem dX7_runs_184 : decode cX7_runs 184 = .ok (.istore_n 3, 1) := by decide +kernel
theorem dX7_runs_185 : decode cX7_runs 185 = .ok (.iload_n 3, 1) := by decide +kernel
theorem dX7_runs_186 : decode cX7_runs 186 = .ok (.bipush 40, 2) := by decide +kernel
theorem dX7_runs_188 : decode cX7_runs 188 = .ok (.if_icmp .ge 46, 3) := by decide +kernel
theorem dX7_runs_191 : decode cX7_runs 191 = .ok (.iload_n 2, 1) := by decide +kernel
theorem dX7_runs_192 : decode cX7_runs 192 = .ok (.ifCond .ne 18, 3) := by decide +kernel
theorem dX7_runs_195 : decode cX7_runs 195 = .ok (.aload_n 0, 1) := by decide +kernel
theorem dX7_runs_196 : decode cX7_runs 196 = .ok (.getfield 48, 3) := by decide +kernel
theorem dX7_runs_199 : decode cX7_runs 199 = .ok (.iload_n 3, 1) := by decide +kernel
theorem dX7_runs_200 : decode cX7_runs 200 = .ok (.iaload, 1) := by decide +kernel
theorem dX7_runs_201 : decode cX7_runs 201 = .ok (.aload_n 0, 1) := by decide +kernel
theorem dX7_runs_202 : decode cX7_runs 202 = .ok (.getfield 45, 3) := by decide +kernel
theorem dX7_runs_205 : decode cX7_runs 205 = .ok (.iload_n 3, 1) := by decide +kernel
theorem dX7_runs_206 : decode cX7_runs 206 = .ok (.iaload, 1) := by decide +kernel
theorem dX7_runs_207 : decode cX7_runs 207 = .ok (.if_icmp .eq 7, 3) := by decide +kernel
theorem dX7_runs_210 : decode cX7_runs 210 = .ok (.iconst 1, 1) := by decide +kernel
theorem dX7_runs_211 : decode cX7_runs 211 = .ok (.goto 4, 3) := by decide +kernel
theorem dX7_runs_214 : decode cX7_runs 214 = .ok (.iconst 0, 1) := by decide +kernel
theorem dX7_runs_215 : decode cX7_runs 215 = .ok (.istore_n 2, 1) := by decide +kernel
theorem dX7_runs_216 : decode cX7_runs 216 = .ok (.aload_n 0, 1) := by decide +kernel
theorem dX7_runs_217 : decode cX7_runs 217 = .ok (.getfield 45, 3) := by decide +kernel
theorem dX7_runs_220 : decode cX7_runs 220 = .ok (.iload_n 3, 1) := by decide +kernel
theorem dX7_runs_221 : decode cX7_runs 221 = .ok (.aload_n 0, 1) := by decide +kernel
theorem dX7_runs_222 : decode cX7_runs 222 = .ok (.getfield 48, 3) := by decide +kernel
theorem dX7_runs_225 : decode cX7_runs 225 = .ok (.iload_n 3, 1) := by decide +kernel
theorem dX7_runs_226 : decode cX7_runs 226 = .ok (.iaload, 1) := by decide +kernel
theorem dX7_runs_227 : decode cX7_runs 227 = .ok (.iastore, 1) := by decide +kernel
theorem dX7_runs_228 : decode cX7_runs 228 = .ok (.iinc 3 1, 3) := by decide +kernel
theorem dX7_runs_231 : decode cX7_runs 231 = .ok (.goto (-46), 3) := by decide +kernel
theorem dX7_runs_234 : decode cX7_runs 234 = .ok (.goto (-209), 3) := by decide +kernel
theorem dX7_runs_237 : decode cX7_runs 237 = .ok (.iload_n 1, 1) := by decide +kernel
theorem dX7_runs_238 : decode cX7_runs 238 = .ok (.ireturn, 1) := by decide +kernel
set_option maxHeartbeats 4000000 in
set_option maxRecDepth 100000 in
theorem uX7_runs_215 (C : CX D [(cA, .int), (cZ, .boolean)] p s m args meth c A cX7_runs 4 RX7 (some .int)) (k25 : Int32 → Int32 → St → Rs) (k185 : Int32 → Int32 → Int32 → St → Rs) (h25 : ∀ (v1 v2 : Int32) (S : St), RU D (wM a cA cZ) p l e 1 s m args below meth c A 4 (QI D (wM a cA cZ) [(cA, .int), (cZ, .boolean)] A) (k25 v1 v2 S) 25 [] [(0, .ref (a 0)), (1, .int v1), (2, .int v2)] S) (h185 : ∀ (v1 v2 v3 : Int32) (S : St), RU D (wM a cA cZ) p l e 1 s m args below meth c A 4 (QI D (wM a cA cZ) [(cA, .int), (cZ, .boolean)] A) (k185 v1 v2 v3 S) 185 [] [(0, .ref (a 0)), (1, .int v1), (2, .int v2), (3, .int v3)] S) (v1 v3 t0 : Int32) (S : St) : RU D (wM a cA cZ) p l e 1 s m args below meth c A 4 (QI D (wM a cA cZ) [(cA, .int), (cZ, .boolean)] A) (fX7_runs_215 k25 k185 v1 v3 t0 S) 215 [.int t0] [(0, .ref (a 0)), (1, .int v1), (3, .int v3)] S := by
  unfold fX7_runs_215
  refine R_istore_n (lv' := [(2, .int t0), (0, .ref (a 0)), (1, .int v1), (3, .int v3)]) C dX7_runs_215 rfl (by decide) rfl ?_
  refine R_aload_n C dX7_runs_216 rfl 1 rfl ?_
  refine gtM_X7_value C wd_3_20 dX7_runs_217 ?_
  refine R_iload_n C dX7_runs_220 rfl 3 rfl ?_
  refine R_aload_n C dX7_runs_221 rfl 1 rfl ?_
  refine gtM_X7_then C wd_3_21 dX7_runs_222 ?_
  refine R_iload_n C dX7_runs_225 rfl 3 rfl ?_
  refine ldM9 C dX7_runs_226 ?_
  refine svM8 C dX7_runs_227 ?_
  refine R_letS (fun S1 => ?_)
  refine R_iinc (v := v3 + 1) (lv' := [(3, .int (v3 + 1)), (2, .int t0), (0, .ref (a 0)), (1, .int v1)]) C dX7_runs_228 3 rfl rfl (by decide) rfl ?_
  refine R_goto (tgt := 185) C dX7_runs_231 (by decide) ?_
  refine R_sub [2, 3, 1, 0] rfl ?_
  exact h185 v1 t0 (v3 + 1) S1
set_option maxHeartbeats 4000000 in
set_option maxRecDepth 100000 in
theorem uX7_runs_210 (C : CX D [(cA, .int), (cZ, .boolean)] p s m args meth c A cX7_runs 4 RX7 (some .int)) (k25 : Int32 → Int32 → St → Rs) (k185 : Int32 → Int32 → Int32 → St → Rs) (h25 : ∀ (v1 v2 : Int32) (S : St), RU D (wM a cA cZ) p l e 1 s m args below meth c A 4 (QI D (wM a cA cZ) [(cA, .int), (cZ, .boolean)] A) (k25 v1 v2 S) 25 [] [(0, .ref (a 0)), (1, .int v1), (2, .int v2)] S) (h185 : ∀ (v1 v2 v3 : Int32) (S : St), RU D (wM a cA cZ) p l e 1 s m args below meth c A 4 (QI D (wM a cA cZ) [(cA, .int), (cZ, .boolean)] A) (k185 v1 v2 v3 S) 185 [] [(0, .ref (a 0)), (1, .int v1), (2, .int v2), (3, .int v3)] S) (v1 v3 : Int32) (S : St) : RU D (wM a cA cZ) p l e 1 s m args below meth c A 4 (QI D (wM a cA cZ) [(cA, .int), (cZ, .boolean)] A) (fX7_runs_210 k25 k185 v1 v3 S) 210 [] [(0, .ref (a 0)), (1, .int v1), (3, .int v3)] S := by
  unfold fX7_runs_210
  refine R_iconst (v := (1 : Int32)) C dX7_runs_210 (by decide) ?_
  refine R_goto (tgt := 215) C dX7_runs_211 (by decide) ?_
  exact uX7_runs_215 C k25 k185 h25 h185 v1 v3 (1 : Int32) S
set_option maxHeartbeats 4000000 in
set_option maxRecDepth 100000 in
theorem uX7_runs_185_b (C : CX D [(cA, .int), (cZ, .boolean)] p s m args meth c A cX7_runs 4 RX7 (some .int)) (k25 : Int32 → Int32 → St → Rs) (h25 : ∀ (v1 v2 : Int32) (S : St), RU D (wM a cA cZ) p l e 1 s m args below meth c A 4 (QI D (wM a cA cZ) [(cA, .int), (cZ, .boolean)] A) (k25 v1 v2 S) 25 [] [(0, .ref (a 0)), (1, .int v1), (2, .int v2)] S) (k185 : Int32 → Int32 → Int32 → St → Rs) (h185 : ∀ (v1 v2 v3 : Int32) (S : St), RU D (wM a cA cZ) p l e 1 s m args below meth c A 4 (QI D (wM a cA cZ) [(cA, .int), (cZ, .boolean)] A) (k185 v1 v2 v3 S) 185 [] [(0, .ref (a 0)), (1, .int v1), (2, .int v2), (3, .int v3)] S) (v1 v2 v3 : Int32) (S : St) : RU D (wM a cA cZ) p l e 1 s m args below meth c A 4 (QI D (wM a cA cZ) [(cA, .int), (cZ, .boolean)] A) (fX7_runs_185_b k25 k185 v1 v2 v3 S) 185 [] [(0, .ref (a 0)), (1, .int v1), (2, .int v2), (3, .int v3)] S := by
  unfold fX7_runs_185_b
  refine R_iload_n C dX7_runs_185 rfl 3 rfl ?_
  refine R_bipush (v := (40 : Int32)) C dX7_runs_186 (by decide) ?_
  refine R_icmp_ge (tgt := 234) C dX7_runs_188 (by decide) ?_ ?_
  · refine R_goto (tgt := 25) C dX7_runs_234 (by decide) ?_
    refine R_sub [0, 1, 2] rfl ?_
    exact h25 v1 v2 S
  · refine R_iload_n C dX7_runs_191 rfl 2 rfl ?_
    refine R_if_ne (tgt := 210) C dX7_runs_192 (by decide) ?_ ?_
    · refine R_aload_n C dX7_runs_195 rfl 0 rfl ?_
      refine gtM_X7_then C wd_3_21 dX7_runs_196 ?_
      refine R_iload_n C dX7_runs_199 rfl 3 rfl ?_
      refine ldM9 C dX7_runs_200 ?_
      refine R_aload_n C dX7_runs_201 rfl 0 rfl ?_
      refine gtM_X7_value C wd_3_20 dX7_runs_202 ?_
      refine R_iload_n C dX7_runs_205 rfl 3 rfl ?_
      refine ldM8 C dX7_runs_206 ?_
      refine R_icmp_eq (tgt := 214) C dX7_runs_207 (by decide) ?_ ?_
      · refine R_iconst (v := (0 : Int32)) C dX7_runs_214 (by decide) ?_
        refine R_sub [0, 1, 3] rfl ?_
        exact uX7_runs_215 C k25 k185 h25 h185 v1 v3 (0 : Int32) S
      · refine R_sub [0, 1, 3] rfl ?_
        exact uX7_runs_210 C k25 k185 h25 h185 v1 v3 S
    · refine R_sub [0, 1, 3] rfl ?_
      exact uX7_runs_210 C k25 k185 h25 h185 v1 v3 S
set_option maxHeartbeats 4000000 in
set_option maxRecDepth 100000 in
theorem uX7_runs_185 (C : CX D [(cA, .int), (cZ, .boolean)] p s m args meth c A cX7_runs 4 RX7 (some .int)) (k25 : Int32 → Int32 → St → Rs) (h25 : ∀ (v1 v2 : Int32) (S : St), RU D (wM a cA cZ) p l e 1 s m args below meth c A 4 (QI D (wM a cA cZ) [(cA, .int), (cZ, .boolean)] A) (k25 v1 v2 S) 25 [] [(0, .ref (a 0)), (1, .int v1), (2, .int v2)] S) : ∀ (n : Nat) (v1 v2 v3 : Int32) (S : St), RU D (wM a cA cZ) p l e 1 s m args below meth c A 4 (QI D (wM a cA cZ) [(cA, .int), (cZ, .boolean)] A) (fX7_runs_185 k25 n v1 v2 v3 S) 185 [] [(0, .ref (a 0)), (1, .int v1), (2, .int v2), (3, .int v3)] S := by
  intro n
  induction n with
  | zero => intro v1 v2 v3 S; exact R_none
  | succ n ih => intro v1 v2 v3 S; exact uX7_runs_185_b C k25 h25 _ ih v1 v2 v3 S
set_option maxHeartbeats 4000000 in
set_option maxRecDepth 100000 in
theorem uX7_runs_177 (C : CX D [(cA, .int), (cZ, .boolean)] p s m args meth c A cX7_runs 4 RX7 (some .int)) (k25 : Int32 → Int32 → St → Rs) (k62 : Int32 → Int32 → Int32 → St → Rs) (h25 : ∀ (v1 v2 : Int32) (S : St), RU D (wM a cA cZ) p l e 1 s m args below meth c A 4 (QI D (wM a cA cZ) [(cA, .int), (cZ, .boolean)] A) (k25 v1 v2 S) 25 [] [(0, .ref (a 0)), (1, .int v1), (2, .int v2)] S) (h62 : ∀ (v1 v2 v3 : Int32) (S : St), RU D (wM a cA cZ) p l e 1 s m args below meth c A 4 (QI D (wM a cA cZ) [(cA, .int), (cZ, .boolean)] A) (k62 v1 v2 v3 S) 62 [] [(0, .ref (a 0)), (1, .int v1), (2, .int v2), (3, .int v3)] S) (v1 v2 v3 : Int32) (S : St) : RU D (wM a cA cZ) p l e 1 s m args below meth c A 4 (QI D (wM a cA cZ) [(cA, .int), (cZ, .boolean)] A) (fX7_runs_177 k25 k62 v1 v2 v3 S) 177 [] [(0, .ref (a 0)), (1, .int v1), (2, .int v2), (3, .int v3)] S := by
  unfold fX7_runs_177
  refine R_iinc (v := v3 + 1) (lv' := [(3, .int (v3 + 1)), (0, .ref (a 0)), (1, .int v1), (2, .int v2)]) C dX7_runs_177 3 rfl rfl (by decide) rfl ?_
  refine R_goto (tgt := 62) C dX7_runs_180 (by decide) ?_
  refine R_sub [1, 2, 3, 0] rfl ?_
  exact h62 v1 v2 (v3 + 1) S
set_option maxHeartbeats 4000000 in
set_option maxRecDepth 100000 in
theorem uX7_runs_130 (C : CX D [(cA, .int), (cZ, .boolean)] p s m args meth c A cX7_runs 4 RX7 (some .int)) (k25 : Int32 → Int32 → St → Rs) (k62 : Int32 → Int32 → Int32 → St → Rs) (h25 : ∀ (v1 v2 : Int32) (S : St), RU D (wM a cA cZ) p l e 1 s m args below meth c A 4 (QI D (wM a cA cZ) [(cA, .int), (cZ, .boolean)] A) (k25 v1 v2 S) 25 [] [(0, .ref (a 0)), (1, .int v1), (2, .int v2)] S) (h62 : ∀ (v1 v2 v3 : Int32) (S : St), RU D (wM a cA cZ) p l e 1 s m args below meth c A 4 (QI D (wM a cA cZ) [(cA, .int), (cZ, .boolean)] A) (k62 v1 v2 v3 S) 62 [] [(0, .ref (a 0)), (1, .int v1), (2, .int v2), (3, .int v3)] S) (v1 v2 v3 : Int32) (S : St) : RU D (wM a cA cZ) p l e 1 s m args below meth c A 4 (QI D (wM a cA cZ) [(cA, .int), (cZ, .boolean)] A) (fX7_runs_130 k25 k62 v1 v2 v3 S) 130 [] [(0, .ref (a 0)), (1, .int v1), (2, .int v2), (3, .int v3)] S := by
  unfold fX7_runs_130
  refine R_aload_n C dX7_runs_130 rfl 0 rfl ?_
  refine gtM_X7_value C wd_3_20 dX7_runs_131 ?_
  refine R_aload_n C dX7_runs_134 rfl 0 rfl ?_
  refine gtM_X7_one C wd_3_6 dX7_runs_135 ?_
  refine R_iload_n C dX7_runs_138 rfl 3 rfl ?_
  refine ldM0 C dX7_runs_139 ?_
  refine ldM8 C dX7_runs_140 ?_
  refine R_aload_n C dX7_runs_141 rfl 0 rfl ?_
  refine gtM_X7_then C wd_3_21 dX7_runs_142 ?_
  refine R_aload_n C dX7_runs_145 rfl 0 rfl ?_
  refine gtM_X7_other C wd_3_7 dX7_runs_146 ?_
  refine R_iload_n C dX7_runs_149 rfl 3 rfl ?_
  refine ldM1 C dX7_runs_150 ?_
  refine ldM9 C dX7_runs_151 ?_
  refine R_icmp_ge (tgt := 177) C dX7_runs_152 (by decide) ?_ ?_
  · exact uX7_runs_177 C k25 k62 h25 h62 v1 v2 v3 S
  · refine R_aload_n C dX7_runs_155 rfl 0 rfl ?_
    refine gtM_X7_then C wd_3_21 dX7_runs_156 ?_
    refine R_aload_n C dX7_runs_159 rfl 0 rfl ?_
    refine gtM_X7_other C wd_3_7 dX7_runs_160 ?_
    refine R_iload_n C dX7_runs_163 rfl 3 rfl ?_
    refine ldM1 C dX7_runs_164 ?_
    refine R_aload_n C dX7_runs_165 rfl 0 rfl ?_
    refine gtM_X7_value C wd_3_20 dX7_runs_166 ?_
    refine R_aload_n C dX7_runs_169 rfl 0 rfl ?_
    refine gtM_X7_one C wd_3_6 dX7_runs_170 ?_
    refine R_iload_n C dX7_runs_173 rfl 3 rfl ?_
    refine ldM0 C dX7_runs_174 ?_
    refine ldM8 C dX7_runs_175 ?_
    refine svM9 C dX7_runs_176 ?_
    refine R_letS (fun S1 => ?_)
    exact uX7_runs_177 C k25 k62 h25 h62 v1 v2 v3 S1
set_option maxHeartbeats 4000000 in
set_option maxRecDepth 100000 in
theorem uX7_runs_62_b (C : CX D [(cA, .int), (cZ, .boolean)] p s m args meth c A cX7_runs 4 RX7 (some .int)) (k25 : Int32 → Int32 → St → Rs) (h25 : ∀ (v1 v2 : Int32) (S : St), RU D (wM a cA cZ) p l e 1 s m args below meth c A 4 (QI D (wM a cA cZ) [(cA, .int), (cZ, .boolean)] A) (k25 v1 v2 S) 25 [] [(0, .ref (a 0)), (1, .int v1), (2, .int v2)] S) (k62 : Int32 → Int32 → Int32 → St → Rs) (h62 : ∀ (v1 v2 v3 : Int32) (S : St), RU D (wM a cA cZ) p l e 1 s m args below meth c A 4 (QI D (wM a cA cZ) [(cA, .int), (cZ, .boolean)] A) (k62 v1 v2 v3 S) 62 [] [(0, .ref (a 0)), (1, .int v1), (2, .int v2), (3, .int v3)] S) (v1 v2 v3 : Int32) (S : St) : RU D (wM a cA cZ) p l e 1 s m args below meth c A 4 (QI D (wM a cA cZ) [(cA, .int), (cZ, .boolean)] A) (fX7_runs_62_b k25 k62 v1 v2 v3 S) 62 [] [(0, .ref (a 0)), (1, .int v1), (2, .int v2), (3, .int v3)] S := by
  unfold fX7_runs_62_b
  refine R_iload_n C dX7_runs_62 rfl 3 rfl ?_
  refine R_aload_n C dX7_runs_63 rfl 0 rfl ?_
  refine gtM_X7_lines C wd_3_5 dX7_runs_64 ?_
  refine R_icmp_ge (tgt := 183) C dX7_runs_67 (by decide) ?_ ?_
  · refine R_iconst (v := (0 : Int32)) C dX7_runs_183 (by decide) ?_
    refine R_istore_n (lv' := [(3, .int (0 : Int32)), (0, .ref (a 0)), (1, .int v1), (2, .int v2)]) C dX7_runs_184 rfl (by decide) rfl ?_
    refine R_sub [1, 2, 3, 0] rfl ?_
    exact uX7_runs_185 C k25 h25 FU v1 v2 (0 : Int32) S
  · refine R_aload_n C dX7_runs_70 rfl 0 rfl ?_
    refine gtM_X7_hostOf C wd_3_8 dX7_runs_71 ?_
    refine R_iload_n C dX7_runs_74 rfl 3 rfl ?_
    refine ldM2 C dX7_runs_75 ?_
    refine R_iconst (v := (-1 : Int32)) C dX7_runs_76 (by decide) ?_
    refine R_icmp_ne (tgt := 83) C dX7_runs_77 (by decide) ?_ ?_
    · refine R_goto (tgt := 177) C dX7_runs_80 (by decide) ?_
      exact uX7_runs_177 C k25 k62 h25 h62 v1 v2 v3 S
    · refine R_aload_n C dX7_runs_83 rfl 0 rfl ?_
      refine gtM_X7_value C wd_3_20 dX7_runs_84 ?_
      refine R_aload_n C dX7_runs_87 rfl 0 rfl ?_
      refine gtM_X7_other C wd_3_7 dX7_runs_88 ?_
      refine R_iload_n C dX7_runs_91 rfl 3 rfl ?_
      refine ldM1 C dX7_runs_92 ?_
      refine ldM8 C dX7_runs_93 ?_
      refine R_aload_n C dX7_runs_94 rfl 0 rfl ?_
      refine gtM_X7_then C wd_3_21 dX7_runs_95 ?_
      refine R_aload_n C dX7_runs_98 rfl 0 rfl ?_
      refine gtM_X7_one C wd_3_6 dX7_runs_99 ?_
      refine R_iload_n C dX7_runs_102 rfl 3 rfl ?_
      refine ldM0 C dX7_runs_103 ?_
      refine ldM9 C dX7_runs_104 ?_
      refine R_icmp_ge (tgt := 130) C dX7_runs_105 (by decide) ?_ ?_
      · exact uX7_runs_130 C k25 k62 h25 h62 v1 v2 v3 S
      · refine R_aload_n C dX7_runs_108 rfl 0 rfl ?_
        refine gtM_X7_then C wd_3_21 dX7_runs_109 ?_
        refine R_aload_n C dX7_runs_112 rfl 0 rfl ?_
        refine gtM_X7_one C wd_3_6 dX7_runs_113 ?_
        refine R_iload_n C dX7_runs_116 rfl 3 rfl ?_
        refine ldM0 C dX7_runs_117 ?_
        refine R_aload_n C dX7_runs_118 rfl 0 rfl ?_
        refine gtM_X7_value C wd_3_20 dX7_runs_119 ?_
        refine R_aload_n C dX7_runs_122 rfl 0 rfl ?_
        refine gtM_X7_other C wd_3_7 dX7_runs_123 ?_
        refine R_iload_n C dX7_runs_126 rfl 3 rfl ?_
        refine ldM1 C dX7_runs_127 ?_
        refine ldM8 C dX7_runs_128 ?_
        refine svM9 C dX7_runs_129 ?_
        refine R_letS (fun S1 => ?_)
        exact uX7_runs_130 C k25 k62 h25 h62 v1 v2 v3 S1
set_option maxHeartbeats 4000000 in
set_option maxRecDepth 100000 in
theorem uX7_runs_62 (C : CX D [(cA, .int), (cZ, .boolean)] p s m args meth c A cX7_runs 4 RX7 (some .int)) (k25 : Int32 → Int32 → St → Rs) (h25 : ∀ (v1 v2 : Int32) (S : St), RU D (wM a cA cZ) p l e 1 s m args below meth c A 4 (QI D (wM a cA cZ) [(cA, .int), (cZ, .boolean)] A) (k25 v1 v2 S) 25 [] [(0, .ref (a 0)), (1, .int v1), (2, .int v2)] S) : ∀ (n : Nat) (v1 v2 v3 : Int32) (S : St), RU D (wM a cA cZ) p l e 1 s m args below meth c A 4 (QI D (wM a cA cZ) [(cA, .int), (cZ, .boolean)] A) (fX7_runs_62 k25 n v1 v2 v3 S) 62 [] [(0, .ref (a 0)), (1, .int v1), (2, .int v2), (3, .int v3)] S := by
  intro n
  induction n with
  | zero => intro v1 v2 v3 S; exact R_none
  | succ n ih => intro v1 v2 v3 S; exact uX7_runs_62_b C k25 h25 _ ih v1 v2 v3 S
set_option maxHeartbeats 4000000 in
set_option maxRecDepth 100000 in
theorem uX7_runs_36_b (C : CX D [(cA, .int), (cZ, .boolean)] p s m args meth c A cX7_runs 4 RX7 (some .int)) (k25 : Int32 → Int32 → St → Rs) (h25 : ∀ (v1 v2 : Int32) (S : St), RU D (wM a cA cZ) p l e 1 s m args below meth c A 4 (QI D (wM a cA cZ) [(cA, .int), (cZ, .boolean)] A) (k25 v1 v2 S) 25 [] [(0, .ref (a 0)), (1, .int v1), (2, .int v2)] S) (k36 : Int32 → Int32 → Int32 → St → Rs) (h36 : ∀ (v1 v2 v3 : Int32) (S : St), RU D (wM a cA cZ) p l e 1 s m args below meth c A 4 (QI D (wM a cA cZ) [(cA, .int), (cZ, .boolean)] A) (k36 v1 v2 v3 S) 36 [] [(0, .ref (a 0)), (1, .int v1), (2, .int v2), (3, .int v3)] S) (v1 v2 v3 : Int32) (S : St) : RU D (wM a cA cZ) p l e 1 s m args below meth c A 4 (QI D (wM a cA cZ) [(cA, .int), (cZ, .boolean)] A) (fX7_runs_36_b k25 k36 v1 v2 v3 S) 36 [] [(0, .ref (a 0)), (1, .int v1), (2, .int v2), (3, .int v3)] S := by
  unfold fX7_runs_36_b
  refine R_iload_n C dX7_runs_36 rfl 3 rfl ?_
  refine R_bipush (v := (40 : Int32)) C dX7_runs_37 (by decide) ?_
  refine R_icmp_ge (tgt := 60) C dX7_runs_39 (by decide) ?_ ?_
  · refine R_iconst (v := (0 : Int32)) C dX7_runs_60 (by decide) ?_
    refine R_istore_n (lv' := [(3, .int (0 : Int32)), (0, .ref (a 0)), (1, .int v1), (2, .int v2)]) C dX7_runs_61 rfl (by decide) rfl ?_
    refine R_sub [1, 2, 3, 0] rfl ?_
    exact uX7_runs_62 C k25 h25 FU v1 v2 (0 : Int32) S
  · refine R_aload_n C dX7_runs_42 rfl 0 rfl ?_
    refine gtM_X7_then C wd_3_21 dX7_runs_43 ?_
    refine R_iload_n C dX7_runs_46 rfl 3 rfl ?_
    refine R_aload_n C dX7_runs_47 rfl 0 rfl ?_
    refine gtM_X7_value C wd_3_20 dX7_runs_48 ?_
    refine R_iload_n C dX7_runs_51 rfl 3 rfl ?_
    refine ldM8 C dX7_runs_52 ?_
    refine svM9 C dX7_runs_53 ?_
    refine R_letS (fun S1 => ?_)
    refine R_iinc (v := v3 + 1) (lv' := [(3, .int (v3 + 1)), (0, .ref (a 0)), (1, .int v1), (2, .int v2)]) C dX7_runs_54 3 rfl rfl (by decide) rfl ?_
    refine R_goto (tgt := 36) C dX7_runs_57 (by decide) ?_
    refine R_sub [1, 2, 3, 0] rfl ?_
    exact h36 v1 v2 (v3 + 1) S1
set_option maxHeartbeats 4000000 in
set_option maxRecDepth 100000 in
theorem uX7_runs_36 (C : CX D [(cA, .int), (cZ, .boolean)] p s m args meth c A cX7_runs 4 RX7 (some .int)) (k25 : Int32 → Int32 → St → Rs) (h25 : ∀ (v1 v2 : Int32) (S : St), RU D (wM a cA cZ) p l e 1 s m args below meth c A 4 (QI D (wM a cA cZ) [(cA, .int), (cZ, .boolean)] A) (k25 v1 v2 S) 25 [] [(0, .ref (a 0)), (1, .int v1), (2, .int v2)] S) : ∀ (n : Nat) (v1 v2 v3 : Int32) (S : St), RU D (wM a cA cZ) p l e 1 s m args below meth c A 4 (QI D (wM a cA cZ) [(cA, .int), (cZ, .boolean)] A) (fX7_runs_36 k25 n v1 v2 v3 S) 36 [] [(0, .ref (a 0)), (1, .int v1), (2, .int v2), (3, .int v3)] S := by
  intro n
  induction n with
  | zero => intro v1 v2 v3 S; exact R_none
  | succ n ih => intro v1 v2 v3 S; exact uX7_runs_36_b C k25 h25 _ ih v1 v2 v3 S
set_option maxHeartbeats 4000000 in
set_option maxRecDepth 100000 in
theorem uX7_runs_25_b (C : CX D [(cA, .int), (cZ, .boolean)] p s m args meth c A cX7_runs 4 RX7 (some .int)) (k25 : Int32 → Int32 → St → Rs) (h25 : ∀ (v1 v2 : Int32) (S : St), RU D (wM a cA cZ) p l e 1 s m args below meth c A 4 (QI D (wM a cA cZ) [(cA, .int), (cZ, .boolean)] A) (k25 v1 v2 S) 25 [] [(0, .ref (a 0)), (1, .int v1), (2, .int v2)] S) (v1 v2 : Int32) (S : St) : RU D (wM a cA cZ) p l e 1 s m args below meth c A 4 (QI D (wM a cA cZ) [(cA, .int), (cZ, .boolean)] A) (fX7_runs_25_b k25 v1 v2 S) 25 [] [(0, .ref (a 0)), (1, .int v1), (2, .int v2)] S := by
  unfold fX7_runs_25_b
  refine R_iload_n C dX7_runs_25 rfl 2 rfl ?_
  refine R_if_eq (tgt := 237) C dX7_runs_26 (by decide) ?_ ?_
  · refine R_iload_n C dX7_runs_237 rfl 1 rfl ?_
    exact R_reti C dX7_runs_238
  · refine R_iconst (v := (0 : Int32)) C dX7_runs_29 (by decide) ?_
    refine R_istore_n (lv' := [(2, .int (0 : Int32)), (0, .ref (a 0)), (1, .int v1)]) C dX7_runs_30 rfl (by decide) rfl ?_
    refine R_iinc (v := v1 + 1) (lv' := [(1, .int (v1 + 1)), (2, .int (0 : Int32)), (0, .ref (a 0))]) C dX7_runs_31 2 rfl rfl (by decide) rfl ?_
    refine R_iconst (v := (0 : Int32)) C dX7_runs_34 (by decide) ?_
    refine R_istore_n (lv' := [(3, .int (0 : Int32)), (1, .int (v1 + 1)), (2, .int (0 : Int32)), (0, .ref (a 0))]) C dX7_runs_35 rfl (by decide) rfl ?_
    refine R_sub [3, 1, 2, 0] rfl ?_
    exact uX7_runs_36 C k25 h25 FU (v1 + 1) (0 : Int32) (0 : Int32) S
set_option maxHeartbeats 4000000 in
set_option maxRecDepth 100000 in
theorem uX7_runs_25 (C : CX D [(cA, .int), (cZ, .boolean)] p s m args meth c A cX7_runs 4 RX7 (some .int)) : ∀ (n : Nat) (v1 v2 : Int32) (S : St), RU D (wM a cA cZ) p l e 1 s m args below meth c A 4 (QI D (wM a cA cZ) [(cA, .int), (cZ, .boolean)] A) (fX7_runs_25 n v1 v2 S) 25 [] [(0, .ref (a 0)), (1, .int v1), (2, .int v2)] S := by
  intro n
  induction n with
  | zero => intro v1 v2 S; exact R_none
  | succ n ih => intro v1 v2 S; exact uX7_runs_25_b C _ ih v1 v2 S
set_option maxHeartbeats 4000000 in
set_option maxRecDepth 100000 in
theorem uX7_runs_2_b (C : CX D [(cA, .int), (cZ, .boolean)] p s m args meth c A cX7_runs 4 RX7 (some .int)) (k2 : Int32 → St → Rs) (h2 : ∀ (v1 : Int32) (S : St), RU D (wM a cA cZ) p l e 1 s m args below meth c A 4 (QI D (wM a cA cZ) [(cA, .int), (cZ, .boolean)] A) (k2 v1 S) 2 [] [(0, .ref (a 0)), (1, .int v1)] S) (v1 : Int32) (S : St) : RU D (wM a cA cZ) p l e 1 s m args below meth c A 4 (QI D (wM a cA cZ) [(cA, .int), (cZ, .boolean)] A) (fX7_runs_2_b k2 v1 S) 2 [] [(0, .ref (a 0)), (1, .int v1)] S := by
  unfold fX7_runs_2_b
  refine R_iload_n C dX7_runs_2 rfl 1 rfl ?_
  refine R_bipush (v := (40 : Int32)) C dX7_runs_3 (by decide) ?_
  refine R_icmp_ge (tgt := 21) C dX7_runs_5 (by decide) ?_ ?_
  · refine R_iconst (v := (0 : Int32)) C dX7_runs_21 (by decide) ?_
    refine R_istore_n (lv' := [(1, .int (0 : Int32)), (0, .ref (a 0))]) C dX7_runs_22 rfl (by decide) rfl ?_
    refine R_iconst (v := (1 : Int32)) C dX7_runs_23 (by decide) ?_
    refine R_istore_n (lv' := [(2, .int (1 : Int32)), (1, .int (0 : Int32)), (0, .ref (a 0))]) C dX7_runs_24 rfl (by decide) rfl ?_
    refine R_sub [2, 1, 0] rfl ?_
    exact uX7_runs_25 C FU (0 : Int32) (1 : Int32) S
  · refine R_aload_n C dX7_runs_8 rfl 0 rfl ?_
    refine gtM_X7_value C wd_3_20 dX7_runs_9 ?_
    refine R_iload_n C dX7_runs_12 rfl 1 rfl ?_
    refine R_iload_n C dX7_runs_13 rfl 1 rfl ?_
    refine svM8 C dX7_runs_14 ?_
    refine R_letS (fun S1 => ?_)
    refine R_iinc (v := v1 + 1) (lv' := [(1, .int (v1 + 1)), (0, .ref (a 0))]) C dX7_runs_15 1 rfl rfl (by decide) rfl ?_
    refine R_goto (tgt := 2) C dX7_runs_18 (by decide) ?_
    refine R_sub [1, 0] rfl ?_
    exact h2 (v1 + 1) S1
set_option maxHeartbeats 4000000 in
set_option maxRecDepth 100000 in
theorem uX7_runs_2 (C : CX D [(cA, .int), (cZ, .boolean)] p s m args meth c A cX7_runs 4 RX7 (some .int)) : ∀ (n : Nat) (v1 : Int32) (S : St), RU D (wM a cA cZ) p l e 1 s m args below meth c A 4 (QI D (wM a cA cZ) [(cA, .int), (cZ, .boolean)] A) (fX7_runs_2 n v1 S) 2 [] [(0, .ref (a 0)), (1, .int v1)] S := by
  intro n
  induction n with
  | zero => intro v1 S; exact R_none
  | succ n ih => intro v1 S; exact uX7_runs_2_b C _ ih v1 S
set_option maxHeartbeats 4000000 in
set_option maxRecDepth 100000 in
theorem uX7_runs (C : CX D [(cA, .int), (cZ, .boolean)] p s m args meth c A cX7_runs 4 RX7 (some .int)) (S : St) : RU D (wM a cA cZ) p l e 1 s m args below meth c A 4 (QI D (wM a cA cZ) [(cA, .int), (cZ, .boolean)] A) (fX7_runs S) 0 [] [(0, .ref (a 0))] S := by
  unfold fX7_runs
  refine R_iconst (v := (0 : Int32)) C dX7_runs_0 (by decide) ?_
  refine R_istore_n (lv' := [(1, .int (0 : Int32)), (0, .ref (a 0))]) C dX7_runs_1 rfl (by decide) rfl ?_
  refine R_sub [1, 0] rfl ?_
  exact uX7_runs_2 C FU (0 : Int32) S
set_option maxHeartbeats 4000000 in
set_option maxRecDepth 100000 in
theorem kX7_runs (l : Launch) (D : va_G) (a : Nat → Nat) (cA cZ : ClassId) (S : St) : CI l D (wM a cA cZ) [(cA, .int), (cZ, .boolean)] yX7_runs (.code yX7_runs cX7_runs 4 (some .int)) 1 [.ref (a 0)] (fX7_runs S) S := CI_of rfl (Nat.le_of_ble_eq_true rfl) (fun p e s m args below meth c A C => uX7_runs C S)
theorem dX7_part_0 : decode cX7_part 0 = .ok (.iload_n 1, 1) := by decide +kernel
theorem dX7_part_1 : decode cX7_part 1 = .ok (.invokestatic 86, 3) := by decide +kernel
theorem dX7_part_4 : decode cX7_part 4 = .ok (.ifCond .ne 5, 3) := by decide +kernel
theorem dX7_part_7 : decode cX7_part 7 = .ok (.iconst (-1), 1) := by decide +kernel
theorem dX7_part_8 : decode cX7_part 8 = .ok (.ireturn, 1) := by decide +kernel
theorem dX7_part_9 : decode cX7_part 9 = .ok (.aload_n 0, 1) := by decide +kernel
theorem dX7_part_10 : decode cX7_part 10 = .ok (.invokevirtual 120, 3) := by decide +kernel
theorem dX7_part_13 : decode cX7_part 13 = .ok (.pop, 1) := by decide +kernel
theorem dX7_part_14 : decode cX7_part 14 = .ok (.aload_n 0, 1) := by decide +kernel
theorem dX7_part_15 : decode cX7_part 15 = .ok (.getfield 45, 3) := by decide +kernel
theorem dX7_part_18 : decode cX7_part 18 = .ok (.iload_n 1, 1) := by decide +kernel
theorem dX7_part_19 : decode cX7_part 19 = .ok (.iaload, 1) := by decide +kernel
theorem dX7_part_20 : decode cX7_part 20 = .ok (.ireturn, 1) := by decide +kernel
set_option maxHeartbeats 4000000 in
set_option maxRecDepth 100000 in
theorem uX7_part (C : CX D [(cA, .int), (cZ, .boolean)] p s m args meth c A cX7_part 2 RX7 (some .int)) (v1 : Int32) (S : St) : RU D (wM a cA cZ) p l e 3 s m args below meth c A 2 (QI D (wM a cA cZ) [(cA, .int), (cZ, .boolean)] A) (fX7_part v1 S) 0 [] [(0, .ref (a 0)), (1, .int v1)] S := by
  unfold fX7_part
  refine R_iload_n C dX7_part_0 rfl 1 rfl ?_
  refine R_calls (As := [.int v1]) (st := []) C (kX7_isPoint l D a cA cZ S v1) (by decide) (by decide) wd_3_67 kwX7_isPoint rfl rfl (Nat.le_of_ble_eq_true rfl) dX7_part_1 (fun r1 S2 => ?_)
  refine R_if_ne (tgt := 9) C dX7_part_4 (by decide) ?_ ?_
  · refine R_iconst (v := (-1 : Int32)) C dX7_part_7 (by decide) ?_
    exact R_reti C dX7_part_8
  · refine R_aload_n C dX7_part_9 rfl 0 rfl ?_
    refine R_calli (As := []) (st := []) C (kX7_runs l D a cA cZ S2) (by decide) (by decide) wd_3_179 kwX7_runs 0 rfl rfl rfl rfl (Nat.le_of_ble_eq_true rfl) dX7_part_10 (fun r3 S4 => ?_)
    refine R_pop C dX7_part_13 rfl ?_
    refine R_aload_n C dX7_part_14 rfl 0 rfl ?_
    refine gtM_X7_value C wd_3_20 dX7_part_15 ?_
    refine R_iload_n C dX7_part_18 rfl 1 rfl ?_
    refine ldM8 C dX7_part_19 ?_
    exact R_reti C dX7_part_20
set_option maxHeartbeats 4000000 in
set_option maxRecDepth 100000 in
theorem kX7_part (l : Launch) (D : va_G) (a : Nat → Nat) (cA cZ : ClassId) (S : St) (v1 : Int32) : CI l D (wM a cA cZ) [(cA, .int), (cZ, .boolean)] yX7_part (.code yX7_part cX7_part 2 (some .int)) 3 [.ref (a 0), .int v1] (fX7_part v1 S) S := CI_of rfl (Nat.le_of_ble_eq_true rfl) (fun p e s m args below meth c A C => uX7_part C v1 S)
end
