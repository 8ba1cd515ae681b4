/-! walks of the reference -/
section
variable {D : va_G} {a : Nat → Nat} {cA cZ : ClassId} {p : Program} {l : Launch} {e : Env} {s : State} {m : MethodId} {args : Array Value} {below : List Frame} {meth : Method} {c : Code} {A : Nat → Prop}

theorem dX7_run_0 : decode cX7_run 0 = .ok (.iload_n 1, 1) := by decide +kernel
theorem dX7_run_1 : decode cX7_run 1 = .ok (.iconst 0, 1) := by decide +kernel
theorem dX7_run_2 : decode cX7_run 2 = .ok (.iconst 2, 1) := by decide +kernel
theorem dX7_run_3 : decode cX7_run 3 = .ok (.invokestatic 57, 3) := by decide +kernel
theorem dX7_run_6 : decode cX7_run 6 = .ok (.ifCond .ne 5, 3) := by decide +kernel
theorem dX7_run_9 : decode cX7_run 9 = .ok (.iconst (-1), 1) := by decide +kernel
theorem dX7_run_10 : decode cX7_run 10 = .ok (.ireturn, 1) := by decide +kernel
theorem dX7_run_11 : decode cX7_run 11 = .ok (.aload_n 0, 1) := by decide +kernel
theorem dX7_run_12 : decode cX7_run 12 = .ok (.invokevirtual 120, 3) := by decide +kernel
theorem dX7_run_15 : decode cX7_run 15 = .ok (.istore_n 2, 1) := by decide +kernel
theorem dX7_run_16 : decode cX7_run 16 = .ok (.iconst 0, 1) := by decide +kernel
theorem dX7_run_17 : decode cX7_run 17 = .ok (.istore_n 3, 1) := by decide +kernel
theorem dX7_run_18 : decode cX7_run 18 = .ok (.iconst 0, 1) := by decide +kernel
theorem dX7_run_19 : decode cX7_run 19 = .ok (.istore 4, 2) := by decide +kernel
theorem dX7_run_21 : decode cX7_run 21 = .ok (.iconst 0, 1) := by decide +kernel
theorem dX7_run_22 : decode cX7_run 22 = .ok (.istore 5, 2) := by decide +kernel
theorem dX7_run_24 : decode cX7_run 24 = .ok (.iload 5, 2) := by decide +kernel
theorem dX7_run_26 : decode cX7_run 26 = .ok (.bipush 40, 2) := by decide +kernel
theorem dX7_run_28 : decode cX7_run 28 = .ok (.if_icmp .ge 63, 3) := by decide +kernel
theorem dX7_run_31 : decode cX7_run 31 = .ok (.aload_n 0, 1) := by decide +kernel
theorem dX7_run_32 : decode cX7_run 32 = .ok (.iload 5, 2) := by decide +kernel
theorem dX7_run_34 : decode cX7_run 34 = .ok (.invokevirtual 114, 3) := by decide +kernel
theorem dX7_run_37 : decode cX7_run 37 = .ok (.istore 6, 2) := by decide +kernel
theorem dX7_run_39 : decode cX7_run 39 = .ok (.iload_n 3, 1) := by decide +kernel
theorem dX7_run_40 : decode cX7_run 40 = .ok (.iload 6, 2) := by decide +kernel
theorem dX7_run_42 : decode cX7_run 42 = .ok (.iconst 1, 1) := by decide +kernel
theorem dX7_run_43 : decode cX7_run 43 = .ok (.if_icmp .le 12, 3) := by decide +kernel
theorem dX7_run_46 : decode cX7_run 46 = .ok (.iconst 2, 1) := by decide +kernel
theorem dX7_run_47 : decode cX7_run 47 = .ok (.iload 6, 2) := by decide +kernel
theorem dX7_run_49 : decode cX7_run 49 = .ok (.iconst 1, 1) := by decide +kernel
theorem dX7_run_50 : decode cX7_run 50 = .ok (.isub, 1) := by decide +kernel
theorem dX7_run_51 : decode cX7_run 51 = .ok (.imul, 1) := by decide +kernel
theorem dX7_run_52 : decode cX7_run 52 = .ok (.goto 4, 3) := by decide +kernel
theorem dX7_run_55 : decode cX7_run 55 = .ok (.iconst 0, 1) := by decide +kernel
theorem dX7_run_56 : decode cX7_run 56 = .ok (.iadd, 1) := by decide +kernel
theorem dX7_run_57 : decode cX7_run 57 = .ok (.istore_n 3, 1) := by decide +kernel
theorem dX7_run_58 : decode cX7_run 58 = .ok (.iload 4, 2) := by decide +kernel
theorem dX7_run_60 : decode cX7_run 60 = .ok (.iload 6, 2) := by decide +kernel
theorem dX7_run_62 : decode cX7_run 62 = .ok (.ifCond .le 19, 3) := by decide +kernel
theorem dX7_run_65 : decode cX7_run 65 = .ok (.aload_n 0, 1) := by decide +kernel
theorem dX7_run_66 : decode cX7_run 66 = .ok (.getfield 45, 3) := by decide +kernel
theorem dX7_run_69 : decode cX7_run 69 = .ok (.iload 5, 2) := by decide +kernel
theorem dX7_run_71 : decode cX7_run 71 = .ok (.iaload, 1) := by decide +kernel
theorem dX7_run_72 : decode cX7_run 72 = .ok (.iload 5, 2) := by decide +kernel
theorem dX7_run_74 : decode cX7_run 74 = .ok (.if_icmp .ne 7, 3) := by decide +kernel
theorem dX7_run_77 : decode cX7_run 77 = .ok (.iconst 1, 1) := by decide +kernel
theorem dX7_run_78 : decode cX7_run 78 = .ok (.goto 4, 3) := by decide +kernel
theorem dX7_run_81 : decode cX7_run 81 = .ok (.iconst 0, 1) := by decide +kernel
theorem dX7_run_82 : decode cX7_run 82 = .ok (.iadd, 1) := by decide +kernel
theorem dX7_run_83 : decode cX7_run 83 = .ok (.istore 4, 2) := by decide +kernel
theorem dX7_run_85 : decode cX7_run 85 = .ok (.iinc 5 1, 3) := by decide +kernel
theorem dX7_run_88 : decode cX7_run 88 = .ok (.goto (-64), 3) := by decide +kernel
theorem dX7_run_91 : decode cX7_run 91 = .ok (.iload_n 1, 1) := by decide +kernel
theorem dX7_run_92 : decode cX7_run 92 = .ok (.ifCond .ne 7, 3) := by decide +kernel
theorem dX7_run_95 : decode cX7_run 95 = .ok (.iload_n 2, 1) := by decide +kernel
theorem dX7_run_96 : decode cX7_run 96 = .ok (.goto 16, 3) := by decide +kernel
theorem dX7_run_99 : decode cX7_run 99 = .ok (.iload_n 1, 1) := by decide +kernel
theorem dX7_run_100 : decode cX7_run 100 = .ok (.iconst 1, 1) := by decide +kernel
theorem dX7_run_101 : decode cX7_run 101 = .ok (.if_icmp .ne 9, 3) := by decide +kernel
theorem dX7_run_104 : decode cX7_run 104 = .ok (.iload_n 2, 1) := by decide +kernel
theorem dX7_run_105 : decode cX7_run 105 = .ok (.iload_n 3, 1) := by decide +kernel
theorem dX7_run_106 : decode cX7_run 106 = .ok (.imul, 1) := by decide +kernel
theorem dX7_run_107 : decode cX7_run 107 = .ok (.goto 5, 3) := by decide +kernel
theorem dX7_run_110 : decode cX7_run 110 = .ok (.iload 4, 2) := by decide +kernel
theorem dX7_run_112 : decode cX7_run 112 = .ok (.ireturn, 1) := by decide +kernel
set_option maxHeartbeats 4000000 in
set_option maxRecDepth 100000 in
theorem uX7_run_112 (C : CX D [(cA, .int), (cZ, .boolean)] p s m args meth c A cX7_run 7 RX7 (some .int)) (t0 : Int32) (S : St) : RU D (wM a cA cZ) p l e 2 s m args below meth c A 7 (QI D (wM a cA cZ) [(cA, .int), (cZ, .boolean)] A) (fX7_run_112 t0 S) 112 [.int t0] [] S := by
  unfold fX7_run_112
  exact R_reti C dX7_run_112
set_option maxHeartbeats 4000000 in
set_option maxRecDepth 100000 in
theorem uX7_run_82 (C : CX D [(cA, .int), (cZ, .boolean)] p s m args meth c A cX7_run 7 RX7 (some .int)) (k24 : Int32 → Int32 → Int32 → Int32 → Int32 → St → Rs) (h24 : ∀ (v1 v2 v3 v4 v5 : Int32) (S : St), RU D (wM a cA cZ) p l e 2 s m args below meth c A 7 (QI D (wM a cA cZ) [(cA, .int), (cZ, .boolean)] A) (k24 v1 v2 v3 v4 v5 S) 24 [] [(0, .ref (a 0)), (1, .int v1), (2, .int v2), (3, .int v3), (4, .int v4), (5, .int v5)] S) (v1 v2 v3 v5 t0 t1 : Int32) (S : St) : RU D (wM a cA cZ) p l e 2 s m args below meth c A 7 (QI D (wM a cA cZ) [(cA, .int), (cZ, .boolean)] A) (fX7_run_82 k24 v1 v2 v3 v5 t0 t1 S) 82 [.int t0, .int t1] [(0, .ref (a 0)), (1, .int v1), (2, .int v2), (3, .int v3), (5, .int v5)] S := by
  unfold fX7_run_82
  refine R_iadd C dX7_run_82 ?_
  refine R_let (fun x1 => ?_)
  refine R_istore (lv' := [(4, .int x1), (0, .ref (a 0)), (1, .int v1), (2, .int v2), (3, .int v3), (5, .int v5)]) C dX7_run_83 (by decide) rfl ?_
  refine R_iinc (v := v5 + 1) (lv' := [(5, .int (v5 + 1)), (4, .int x1), (0, .ref (a 0)), (1, .int v1), (2, .int v2), (3, .int v3)]) C dX7_run_85 5 rfl rfl (by decide) rfl ?_
  refine R_goto (tgt := 24) C dX7_run_88 (by decide) ?_
  refine R_sub [2, 3, 4, 5, 1, 0] rfl ?_
  exact h24 v1 v2 v3 x1 (v5 + 1) S
set_option maxHeartbeats 4000000 in
set_option maxRecDepth 100000 in
theorem uX7_run_81 (C : CX D [(cA, .int), (cZ, .boolean)] p s m args meth c A cX7_run 7 RX7 (some .int)) (k24 : Int32 → Int32 → Int32 → Int32 → Int32 → St → Rs) (h24 : ∀ (v1 v2 v3 v4 v5 : Int32) (S : St), RU D (wM a cA cZ) p l e 2 s m args below meth c A 7 (QI D (wM a cA cZ) [(cA, .int), (cZ, .boolean)] A) (k24 v1 v2 v3 v4 v5 S) 24 [] [(0, .ref (a 0)), (1, .int v1), (2, .int v2), (3, .int v3), (4, .int v4), (5, .int v5)] S) (v1 v2 v3 v5 t0 : Int32) (S : St) : RU D (wM a cA cZ) p l e 2 s m args below meth c A 7 (QI D (wM a cA cZ) [(cA, .int), (cZ, .boolean)] A) (fX7_run_81 k24 v1 v2 v3 v5 t0 S) 81 [.int t0] [(0, .ref (a 0)), (1, .int v1), (2, .int v2), (3, .int v3), (5, .int v5)] S := by
  unfold fX7_run_81
  refine R_iconst (v := (0 : Int32)) C dX7_run_81 (by decide) ?_
  exact uX7_run_82 C k24 h24 v1 v2 v3 v5 (0 : Int32) t0 S
set_option maxHeartbeats 4000000 in
set_option maxRecDepth 100000 in
theorem uX7_run_56 (C : CX D [(cA, .int), (cZ, .boolean)] p s m args meth c A cX7_run 7 RX7 (some .int)) (k24 : Int32 → Int32 → Int32 → Int32 → Int32 → St → Rs) (h24 : ∀ (v1 v2 v3 v4 v5 : Int32) (S : St), RU D (wM a cA cZ) p l e 2 s m args below meth c A 7 (QI D (wM a cA cZ) [(cA, .int), (cZ, .boolean)] A) (k24 v1 v2 v3 v4 v5 S) 24 [] [(0, .ref (a 0)), (1, .int v1), (2, .int v2), (3, .int v3), (4, .int v4), (5, .int v5)] S) (v1 v2 v4 v5 v6 t0 t1 : Int32) (S : St) : RU D (wM a cA cZ) p l e 2 s m args below meth c A 7 (QI D (wM a cA cZ) [(cA, .int), (cZ, .boolean)] A) (fX7_run_56 k24 v1 v2 v4 v5 v6 t0 t1 S) 56 [.int t0, .int t1] [(0, .ref (a 0)), (1, .int v1), (2, .int v2), (4, .int v4), (5, .int v5), (6, .int v6)] S := by
  unfold fX7_run_56
  refine R_iadd C dX7_run_56 ?_
  refine R_let (fun x1 => ?_)
  refine R_istore_n (lv' := [(3, .int x1), (0, .ref (a 0)), (1, .int v1), (2, .int v2), (4, .int v4), (5, .int v5), (6, .int v6)]) C dX7_run_57 rfl (by decide) rfl ?_
  refine R_iload C dX7_run_58 4 rfl ?_
  refine R_iload C dX7_run_60 6 rfl ?_
  refine R_if_le (tgt := 81) C dX7_run_62 (by decide) ?_ ?_
  · refine R_sub [1, 2, 3, 0, 5] rfl ?_
    exact uX7_run_81 C k24 h24 v1 v2 x1 v5 v4 S
  · refine R_aload_n C dX7_run_65 rfl 1 rfl ?_
    refine gtM_X7_value C wd_3_20 dX7_run_66 ?_
    refine R_iload C dX7_run_69 5 rfl ?_
    refine ldM8 C dX7_run_71 ?_
    refine R_iload C dX7_run_72 5 rfl ?_
    refine R_icmp_ne (tgt := 81) C dX7_run_74 (by decide) ?_ ?_
    · refine R_iconst (v := (1 : Int32)) C dX7_run_77 (by decide) ?_
      refine R_goto (tgt := 82) C dX7_run_78 (by decide) ?_
      refine R_sub [1, 2, 3, 0, 5] rfl ?_
      exact uX7_run_82 C k24 h24 v1 v2 x1 v5 (1 : Int32) v4 S
    · refine R_sub [1, 2, 3, 0, 5] rfl ?_
      exact uX7_run_81 C k24 h24 v1 v2 x1 v5 v4 S
set_option maxHeartbeats 4000000 in
set_option maxRecDepth 100000 in
theorem uX7_run_24_b (C : CX D [(cA, .int), (cZ, .boolean)] p s m args meth c A cX7_run 7 RX7 (some .int)) (k24 : Int32 → Int32 → Int32 → Int32 → Int32 → St → Rs) (h24 : ∀ (v1 v2 v3 v4 v5 : Int32) (S : St), RU D (wM a cA cZ) p l e 2 s m args below meth c A 7 (QI D (wM a cA cZ) [(cA, .int), (cZ, .boolean)] A) (k24 v1 v2 v3 v4 v5 S) 24 [] [(0, .ref (a 0)), (1, .int v1), (2, .int v2), (3, .int v3), (4, .int v4), (5, .int v5)] S) (v1 v2 v3 v4 v5 : Int32) (S : St) : RU D (wM a cA cZ) p l e 2 s m args below meth c A 7 (QI D (wM a cA cZ) [(cA, .int), (cZ, .boolean)] A) (fX7_run_24_b k24 v1 v2 v3 v4 v5 S) 24 [] [(0, .ref (a 0)), (1, .int v1), (2, .int v2), (3, .int v3), (4, .int v4), (5, .int v5)] S := by
  unfold fX7_run_24_b
  refine R_iload C dX7_run_24 5 rfl ?_
  refine R_bipush (v := (40 : Int32)) C dX7_run_26 (by decide) ?_
  refine R_icmp_ge (tgt := 91) C dX7_run_28 (by decide) ?_ ?_
  · refine R_iload_n C dX7_run_91 rfl 1 rfl ?_
    refine R_if_ne (tgt := 99) C dX7_run_92 (by decide) ?_ ?_
    · refine R_iload_n C dX7_run_95 rfl 2 rfl ?_
      refine R_goto (tgt := 112) C dX7_run_96 (by decide) ?_
      refine R_sub [] rfl ?_
      exact uX7_run_112 C v2 S
    · refine R_iload_n C dX7_run_99 rfl 1 rfl ?_
      refine R_iconst (v := (1 : Int32)) C dX7_run_100 (by decide) ?_
      refine R_icmp_ne (tgt := 110) C dX7_run_101 (by decide) ?_ ?_
      · refine R_iload_n C dX7_run_104 rfl 2 rfl ?_
        refine R_iload_n C dX7_run_105 rfl 3 rfl ?_
        refine R_imul C dX7_run_106 ?_
        refine R_goto (tgt := 112) C dX7_run_107 (by decide) ?_
        refine R_sub [] rfl ?_
        exact uX7_run_112 C (v2 * v3) S
      · refine R_iload C dX7_run_110 4 rfl ?_
        refine R_sub [] rfl ?_
        exact uX7_run_112 C v4 S
  · refine R_aload_n C dX7_run_31 rfl 0 rfl ?_
    refine R_iload C dX7_run_32 5 rfl ?_
    refine R_calli (As := [.int v5]) (st := []) C (kX7_copiesOf l D a cA cZ S v5) (by decide) (by decide) wd_3_161 kwX7_copiesOf 0 rfl rfl rfl rfl (Nat.le_of_ble_eq_true rfl) dX7_run_34 (fun r1 S2 => ?_)
    refine R_istore (lv' := [(6, .int r1), (0, .ref (a 0)), (1, .int v1), (2, .int v2), (3, .int v3), (4, .int v4), (5, .int v5)]) C dX7_run_37 (by decide) rfl ?_
    refine R_iload_n C dX7_run_39 rfl 4 rfl ?_
    refine R_iload C dX7_run_40 0 rfl ?_
    refine R_iconst (v := (1 : Int32)) C dX7_run_42 (by decide) ?_
    refine R_icmp_le (tgt := 55) C dX7_run_43 (by decide) ?_ ?_
    · refine R_iconst (v := (0 : Int32)) C dX7_run_55 (by decide) ?_
      refine R_sub [1, 2, 3, 5, 6, 0] rfl ?_
      exact uX7_run_56 C k24 h24 v1 v2 v4 v5 r1 (0 : Int32) v3 S2
    · refine R_iconst (v := (2 : Int32)) C dX7_run_46 (by decide) ?_
      refine R_iload C dX7_run_47 0 rfl ?_
      refine R_iconst (v := (1 : Int32)) C dX7_run_49 (by decide) ?_
      refine R_isub C dX7_run_50 ?_
      refine R_imul C dX7_run_51 ?_
      refine R_goto (tgt := 56) C dX7_run_52 (by decide) ?_
      refine R_sub [1, 2, 3, 5, 6, 0] rfl ?_
      exact uX7_run_56 C k24 h24 v1 v2 v4 v5 r1 ((2 : Int32) * (r1 - (1 : Int32))) v3 S2
set_option maxHeartbeats 4000000 in
set_option maxRecDepth 100000 in
theorem uX7_run_24 (C : CX D [(cA, .int), (cZ, .boolean)] p s m args meth c A cX7_run 7 RX7 (some .int)) : ∀ (n : Nat) (v1 v2 v3 v4 v5 : Int32) (S : St), RU D (wM a cA cZ) p l e 2 s m args below meth c A 7 (QI D (wM a cA cZ) [(cA, .int), (cZ, .boolean)] A) (fX7_run_24 n v1 v2 v3 v4 v5 S) 24 [] [(0, .ref (a 0)), (1, .int v1), (2, .int v2), (3, .int v3), (4, .int v4), (5, .int v5)] S := by
  intro n
  induction n with
  | zero => intro v1 v2 v3 v4 v5 S; exact R_none
  | succ n ih => intro v1 v2 v3 v4 v5 S; exact uX7_run_24_b C _ ih v1 v2 v3 v4 v5 S
set_option maxHeartbeats 4000000 in
set_option maxRecDepth 100000 in
theorem uX7_run (C : CX D [(cA, .int), (cZ, .boolean)] p s m args meth c A cX7_run 7 RX7 (some .int)) (v1 : Int32) (S : St) : RU D (wM a cA cZ) p l e 2 s m args below meth c A 7 (QI D (wM a cA cZ) [(cA, .int), (cZ, .boolean)] A) (fX7_run v1 S) 0 [] [(0, .ref (a 0)), (1, .int v1)] S := by
  unfold fX7_run
  refine R_iload_n C dX7_run_0 rfl 1 rfl ?_
  refine R_iconst (v := (0 : Int32)) C dX7_run_1 (by decide) ?_
  refine R_iconst (v := (2 : Int32)) C dX7_run_2 (by decide) ?_
  refine R_calls (As := [.int v1, .int (0 : Int32), .int (2 : Int32)]) (st := []) C (kX7_in l D a cA cZ S v1 (0 : Int32) (2 : Int32)) (by decide) (by decide) wd_3_70 kwX7_in rfl rfl (Nat.le_of_ble_eq_true rfl) dX7_run_3 (fun r1 S2 => ?_)
  refine R_if_ne (tgt := 11) C dX7_run_6 (by decide) ?_ ?_
  · refine R_iconst (v := (-1 : Int32)) C dX7_run_9 (by decide) ?_
    exact R_reti C dX7_run_10
  · refine R_aload_n C dX7_run_11 rfl 0 rfl ?_
    refine R_calli (As := []) (st := []) C (kX7_runs l D a cA cZ S2) (by decide) (by decide) wd_3_179 kwX7_runs 0 rfl rfl rfl rfl (Nat.le_of_ble_eq_true rfl) dX7_run_12 (fun r3 S4 => ?_)
    refine R_istore_n (lv' := [(2, .int r3), (0, .ref (a 0)), (1, .int v1)]) C dX7_run_15 rfl (by decide) rfl ?_
    refine R_iconst (v := (0 : Int32)) C dX7_run_16 (by decide) ?_
    refine R_istore_n (lv' := [(3, .int (0 : Int32)), (2, .int r3), (0, .ref (a 0)), (1, .int v1)]) C dX7_run_17 rfl (by decide) rfl ?_
    refine R_iconst (v := (0 : Int32)) C dX7_run_18 (by decide) ?_
    refine R_istore (lv' := [(4, .int (0 : Int32)), (3, .int (0 : Int32)), (2, .int r3), (0, .ref (a 0)), (1, .int v1)]) C dX7_run_19 (by decide) rfl ?_
    refine R_iconst (v := (0 : Int32)) C dX7_run_21 (by decide) ?_
    refine R_istore (lv' := [(5, .int (0 : Int32)), (4, .int (0 : Int32)), (3, .int (0 : Int32)), (2, .int r3), (0, .ref (a 0)), (1, .int v1)]) C dX7_run_22 (by decide) rfl ?_
    refine R_sub [4, 5, 3, 2, 1, 0] rfl ?_
    exact uX7_run_24 C FU v1 r3 (0 : Int32) (0 : Int32) (0 : Int32) S4
set_option maxHeartbeats 4000000 in
set_option maxRecDepth 100000 in
theorem kX7_run (l : Launch) (D : va_G) (a : Nat → Nat) (cA cZ : ClassId) (S : St) (v1 : Int32) : CI l D (wM a cA cZ) [(cA, .int), (cZ, .boolean)] yX7_run (.code yX7_run cX7_run 7 (some .int)) 2 [.ref (a 0), .int v1] (fX7_run v1 S) S := CI_of rfl (Nat.le_of_ble_eq_true rfl) (fun p e s m args below meth c A C => uX7_run C v1 S)
theorem dX7_master_0 : decode cX7_master 0 = .ok (.iload_n 1, 1) := by decide +kernel
theorem dX7_master_1 : decode cX7_master 1 = .ok (.invokestatic 86, 3) := by decide +kernel
theorem dX7_master_4 : decode cX7_master 4 = .ok (.ifCond .ne 5, 3) := by decide +kernel
theorem dX7_master_7 : decode cX7_master 7 = .ok (.iconst (-1), 1) := by decide +kernel
theorem dX7_master_8 : decode cX7_master 8 = .ok (.ireturn, 1) := by decide +kernel
theorem dX7_master_9 : decode cX7_master 9 = .ok (.iconst 0, 1) := by decide +kernel
theorem dX7_master_10 : decode cX7_master 10 = .ok (.istore_n 2, 1) := by decide +kernel
theorem dX7_master_11 : decode cX7_master 11 = .ok (.iload_n 2, 1) := by decide +kernel
theorem dX7_master_12 : decode cX7_master 12 = .ok (.bipush 8, 2) := by decide +kernel
theorem dX7_master_14 : decode cX7_master 14 = .ok (.if_icmp .ge 16, 3) := by decide +kernel
theorem dX7_master_17 : decode cX7_master 17 = .ok (.aload_n 0, 1) := by decide +kernel
theorem dX7_master_18 : decode cX7_master 18 = .ok (.getfield 51, 3) := by decide +kernel
theorem dX7_master_21 : decode cX7_master 21 = .ok (.iload_n 2, 1) := by decide +kernel
theorem dX7_master_22 : decode cX7_master 22 = .ok (.iconst 0, 1) := by decide +kernel
theorem dX7_master_23 : decode cX7_master 23 = .ok (.iastore, 1) := by decide +kernel
theorem dX7_master_24 : decode cX7_master 24 = .ok (.iinc 2 1, 3) := by decide +kernel
theorem dX7_master_27 : decode cX7_master 27 = .ok (.goto (-16), 3) := by decide +kernel
theorem dX7_master_30 : decode cX7_master 30 = .ok (.iconst (-1), 1) := by decide +kernel
theorem dX7_master_31 : decode cX7_master 31 = .ok (.istore_n 2, 1) := by decide +kernel
theorem dX7_master_32 : decode cX7_master 32 = .ok (.iconst 0, 1) := by decide +kernel
theorem dX7_master_33 : decode cX7_master 33 = .ok (.istore_n 3, 1) := by decide +kernel
theorem dX7_master_34 : decode cX7_master 34 = .ok (.iload_n 3, 1) := by decide +kernel
theorem dX7_master_35 : decode cX7_master 35 = .ok (.iload_n 1, 1) := by decide +kernel
theorem dX7_master_36 : decode cX7_master 36 = .ok (.if_icmp .gt 83, 3) := by decide +kernel
theorem dX7_master_39 : decode cX7_master 39 = .ok (.iconst (-1), 1) := by decide +kernel
theorem dX7_master_40 : decode cX7_master 40 = .ok (.istore_n 2, 1) := by decide +kernel
theorem dX7_master_41 : decode cX7_master 41 = .ok (.iconst 0, 1) := by decide +kernel
theorem dX7_master_42 : decode cX7_master 42 = .ok (.istore 4, 2) := by decide +kernel
theorem dX7_master_44 : decode cX7_master 44 = .ok (.iload 4, 2) := by decide +kernel
theorem dX7_master_46 : decode cX7_master 46 = .ok (.aload_n 0, 1) := by decide +kernel
theorem dX7_master_47 : decode cX7_master 47 = .ok (.getfield 54, 3) := by decide +kernel
theorem dX7_master_50 : decode cX7_master 50 = .ok (.if_icmp .ge 48, 3) := by decide +kernel
theorem dX7_master_53 : decode cX7_master 53 = .ok (.aload_n 0, 1) := by decide +kernel
theorem dX7_master_54 : decode cX7_master 54 = .ok (.getfield 22, 3) := by decide +kernel
theorem dX7_master_57 : decode cX7_master 57 = .ok (.bipush 8, 2) := by decide +kernel
theorem dX7_master_59 : decode cX7_master 59 = .ok (.iload_n 3, 1) := by decide +kernel
theorem dX7_master_60 : decode cX7_master 60 = .ok (.imul, 1) := by decide +kernel
theorem dX7_master_61 : decode cX7_master 61 = .ok (.iload 4, 2) := by decide +kernel
theorem dX7_master_63 : decode cX7_master 63 = .ok (.iadd, 1) := by decide +kernel
theorem dX7_master_64 : decode cX7_master 64 = .ok (.iaload, 1) := by decide +kernel
theorem dX7_master_65 : decode cX7_master 65 = .ok (.ifCond .le 27, 3) := by decide +kernel
theorem dX7_master_68 : decode cX7_master 68 = .ok (.iload_n 2, 1) := by decide +kernel
theorem dX7_master_69 : decode cX7_master 69 = .ok (.iconst (-1), 1) := by decide +kernel
theorem dX7_master_70 : decode cX7_master 70 = .ok (.if_icmp .eq 19, 3) := by decide +kernel
theorem dX7_master_73 : decode cX7_master 73 = .ok (.aload_n 0, 1) := by decide +kernel
theorem dX7_master_74 : decode cX7_master 74 = .ok (.getfield 51, 3) := by decide +kernel
theorem dX7_master_77 : decode cX7_master 77 = .ok (.iload 4, 2) := by decide +kernel
theorem dX7_master_79 : decode cX7_master 79 = .ok (.iaload, 1) := by decide +kernel
theorem dX7_master_80 : decode cX7_master 80 = .ok (.aload_n 0, 1) := by decide +kernel
theorem dX7_master_81 : decode cX7_master 81 = .ok (.getfield 51, 3) := by decide +kernel
theorem dX7_master_84 : decode cX7_master 84 = .ok (.iload_n 2, 1) := by decide +kernel
theorem dX7_master_85 : decode cX7_master 85 = .ok (.iaload, 1) := by decide +kernel
theorem dX7_master_86 : decode cX7_master 86 = .ok (.if_icmp .ge 6, 3) := by decide +kernel
theorem dX7_master_89 : decode cX7_master 89 = .ok (.iload 4, 2) := by decide +kernel
theorem dX7_master_91 : decode cX7_master 91 = .ok (.istore_n 2, 1) := by decide +kernel
theorem dX7_master_92 : decode cX7_master 92 = .ok (.iinc 4 1, 3) := by decide +kernel
theorem dX7_master_95 : decode cX7_master 95 = .ok (.goto (-51), 3) := by decide +kernel
theorem dX7_master_98 : decode cX7_master 98 = .ok (.iload_n 2, 1) := by decide +kernel
theorem dX7_master_99 : decode cX7_master 99 = .ok (.iconst (-1), 1) := by decide +kernel
theorem dX7_master_100 : decode cX7_master 100 = .ok (.if_icmp .eq 13, 3) := by decide +kernel
theorem dX7_master_103 : decode cX7_master 103 = .ok (.aload_n 0, 1) := by decide +kernel
theorem dX7_master_104 : decode cX7_master 104 = .ok (.getfield 51, 3) := by decide +kernel
theorem dX7_master_107 : decode cX7_master 107 = .ok (.iload_n 2, 1) := by decide +kernel
theorem dX7_master_108 : decode cX7_master 108 = .ok (.dup2, 1) := by decide +kernel
theorem dX7_master_109 : decode cX7_master 109 = .ok (.iaload, 1) := by decide +kernel
theorem dX7_master_110 : decode cX7_master 110 = .ok (.iconst 1, 1) := by decide +kernel
theorem dX7_master_111 : decode cX7_master 111 = .ok (.iadd, 1) := by decide +kernel
theorem dX7_master_112 : decode cX7_master 112 = .ok (.iastore, 1) := by decide +kernel
theorem dX7_master_113 : decode cX7_master 113 = .ok (.iinc 3 1, 3) := by decide +kernel
theorem dX7_master_116 : decode cX7_master 116 = .ok (.goto (-82), 3) := by decide +kernel
theorem dX7_master_119 : decode cX7_master 119 = .ok (.iload_n 2, 1) := by decide +kernel
theorem dX7_master_120 : decode cX7_master 120 = .ok (.ireturn, 1) := by decide +kernel
set_option maxHeartbeats 4000000 in
set_option maxRecDepth 100000 in
theorem uX7_master_113 (C : CX D [(cA, .int), (cZ, .boolean)] p s m args meth c A cX7_master 5 RX7 (some .int)) (k34 : Int32 → Int32 → Int32 → St → Rs) (h34 : ∀ (v1 v2 v3 : Int32) (S : St), RU D (wM a cA cZ) p l e 3 s m args below meth c A 5 (QI D (wM a cA cZ) [(cA, .int), (cZ, .boolean)] A) (k34 v1 v2 v3 S) 34 [] [(0, .ref (a 0)), (1, .int v1), (2, .int v2), (3, .int v3)] S) (v1 v2 v3 : Int32) (S : St) : RU D (wM a cA cZ) p l e 3 s m args below meth c A 5 (QI D (wM a cA cZ) [(cA, .int), (cZ, .boolean)] A) (fX7_master_113 k34 v1 v2 v3 S) 113 [] [(0, .ref (a 0)), (1, .int v1), (2, .int v2), (3, .int v3)] S := by
  unfold fX7_master_113
  refine R_iinc (v := v3 + 1) (lv' := [(3, .int (v3 + 1)), (0, .ref (a 0)), (1, .int v1), (2, .int v2)]) C dX7_master_113 3 rfl rfl (by decide) rfl ?_
  refine R_goto (tgt := 34) C dX7_master_116 (by decide) ?_
  refine R_sub [1, 2, 3, 0] rfl ?_
  exact h34 v1 v2 (v3 + 1) S
set_option maxHeartbeats 4000000 in
set_option maxRecDepth 100000 in
theorem uX7_master_92 (C : CX D [(cA, .int), (cZ, .boolean)] p s m args meth c A cX7_master 5 RX7 (some .int)) (k34 : Int32 → Int32 → Int32 → St → Rs) (k44 : Int32 → Int32 → Int32 → Int32 → St → Rs) (h34 : ∀ (v1 v2 v3 : Int32) (S : St), RU D (wM a cA cZ) p l e 3 s m args below meth c A 5 (QI D (wM a cA cZ) [(cA, .int), (cZ, .boolean)] A) (k34 v1 v2 v3 S) 34 [] [(0, .ref (a 0)), (1, .int v1), (2, .int v2), (3, .int v3)] S) (h44 : ∀ (v1 v2 v3 v4 : Int32) (S : St), RU D (wM a cA cZ) p l e 3 s m args below meth c A 5 (QI D (wM a cA cZ) [(cA, .int), (cZ, .boolean)] A) (k44 v1 v2 v3 v4 S) 44 [] [(0, .ref (a 0)), (1, .int v1), (2, .int v2), (3, .int v3), (4, .int v4)] S) (v1 v2 v3 v4 : Int32) (S : St) : RU D (wM a cA cZ) p l e 3 s m args below meth c A 5 (QI D (wM a cA cZ) [(cA, .int), (cZ, .boolean)] A) (fX7_master_92 k34 k44 v1 v2 v3 v4 S) 92 [] [(0, .ref (a 0)), (1, .int v1), (2, .int v2), (3, .int v3), (4, .int v4)] S := by
  unfold fX7_master_92
  refine R_iinc (v := v4 + 1) (lv' := [(4, .int (v4 + 1)), (0, .ref (a 0)), (1, .int v1), (2, .int v2), (3, .int v3)]) C dX7_master_92 4 rfl rfl (by decide) rfl ?_
  refine R_goto (tgt := 44) C dX7_master_95 (by decide) ?_
  refine R_sub [1, 2, 3, 4, 0] rfl ?_
  exact h44 v1 v2 v3 (v4 + 1) S
set_option maxHeartbeats 4000000 in
set_option maxRecDepth 100000 in
theorem uX7_master_89 (C : CX D [(cA, .int), (cZ, .boolean)] p s m args meth c A cX7_master 5 RX7 (some .int)) (k34 : Int32 → Int32 → Int32 → St → Rs) (k44 : Int32 → Int32 → Int32 → Int32 → St → Rs) (h34 : ∀ (v1 v2 v3 : Int32) (S : St), RU D (wM a cA cZ) p l e 3 s m args below meth c A 5 (QI D (wM a cA cZ) [(cA, .int), (cZ, .boolean)] A) (k34 v1 v2 v3 S) 34 [] [(0, .ref (a 0)), (1, .int v1), (2, .int v2), (3, .int v3)] S) (h44 : ∀ (v1 v2 v3 v4 : Int32) (S : St), RU D (wM a cA cZ) p l e 3 s m args below meth c A 5 (QI D (wM a cA cZ) [(cA, .int), (cZ, .boolean)] A) (k44 v1 v2 v3 v4 S) 44 [] [(0, .ref (a 0)), (1, .int v1), (2, .int v2), (3, .int v3), (4, .int v4)] S) (v1 v3 v4 : Int32) (S : St) : RU D (wM a cA cZ) p l e 3 s m args below meth c A 5 (QI D (wM a cA cZ) [(cA, .int), (cZ, .boolean)] A) (fX7_master_89 k34 k44 v1 v3 v4 S) 89 [] [(0, .ref (a 0)), (1, .int v1), (3, .int v3), (4, .int v4)] S := by
  unfold fX7_master_89
  refine R_iload C dX7_master_89 3 rfl ?_
  refine R_istore_n (lv' := [(2, .int v4), (0, .ref (a 0)), (1, .int v1), (3, .int v3), (4, .int v4)]) C dX7_master_91 rfl (by decide) rfl ?_
  refine R_sub [1, 2, 0, 3, 4] rfl ?_
  exact uX7_master_92 C k34 k44 h34 h44 v1 v4 v3 v4 S
set_option maxHeartbeats 4000000 in
set_option maxRecDepth 100000 in
theorem uX7_master_44_b (C : CX D [(cA, .int), (cZ, .boolean)] p s m args meth c A cX7_master 5 RX7 (some .int)) (k34 : Int32 → Int32 → Int32 → St → Rs) (h34 : ∀ (v1 v2 v3 : Int32) (S : St), RU D (wM a cA cZ) p l e 3 s m args below meth c A 5 (QI D (wM a cA cZ) [(cA, .int), (cZ, .boolean)] A) (k34 v1 v2 v3 S) 34 [] [(0, .ref (a 0)), (1, .int v1), (2, .int v2), (3, .int v3)] S) (k44 : Int32 → Int32 → Int32 → Int32 → St → Rs) (h44 : ∀ (v1 v2 v3 v4 : Int32) (S : St), RU D (wM a cA cZ) p l e 3 s m args below meth c A 5 (QI D (wM a cA cZ) [(cA, .int), (cZ, .boolean)] A) (k44 v1 v2 v3 v4 S) 44 [] [(0, .ref (a 0)), (1, .int v1), (2, .int v2), (3, .int v3), (4, .int v4)] S) (v1 v2 v3 v4 : Int32) (S : St) : RU D (wM a cA cZ) p l e 3 s m args below meth c A 5 (QI D (wM a cA cZ) [(cA, .int), (cZ, .boolean)] A) (fX7_master_44_b k34 k44 v1 v2 v3 v4 S) 44 [] [(0, .ref (a 0)), (1, .int v1), (2, .int v2), (3, .int v3), (4, .int v4)] S := by
  unfold fX7_master_44_b
  refine R_iload C dX7_master_44 4 rfl ?_
  refine R_aload_n C dX7_master_46 rfl 0 rfl ?_
  refine gtM_X7_hosts C wd_3_4 dX7_master_47 ?_
  refine R_icmp_ge (tgt := 98) C dX7_master_50 (by decide) ?_ ?_
  · refine R_iload_n C dX7_master_98 rfl 2 rfl ?_
    refine R_iconst (v := (-1 : Int32)) C dX7_master_99 (by decide) ?_
    refine R_icmp_eq (tgt := 113) C dX7_master_100 (by decide) ?_ ?_
    · refine R_sub [0, 1, 2, 3] rfl ?_
      exact uX7_master_113 C k34 h34 v1 v2 v3 S
    · refine R_aload_n C dX7_master_103 rfl 0 rfl ?_
      refine gtM_X7_of C wd_3_22 dX7_master_104 ?_
      refine R_iload_n C dX7_master_107 rfl 2 rfl ?_
      refine R_dup2 C dX7_master_108 rfl rfl ?_
      refine ldM10 C dX7_master_109 ?_
      refine R_iconst (v := (1 : Int32)) C dX7_master_110 (by decide) ?_
      refine R_iadd C dX7_master_111 ?_
      refine svM10 C dX7_master_112 ?_
      refine R_letS (fun S1 => ?_)
      refine R_sub [0, 1, 2, 3] rfl ?_
      exact uX7_master_113 C k34 h34 v1 v2 v3 S1
  · refine R_aload_n C dX7_master_53 rfl 0 rfl ?_
    refine gtM_X7_ends C wd_3_10 dX7_master_54 ?_
    refine R_bipush (v := (8 : Int32)) C dX7_master_57 (by decide) ?_
    refine R_iload_n C dX7_master_59 rfl 3 rfl ?_
    refine R_imul C dX7_master_60 ?_
    refine R_iload C dX7_master_61 4 rfl ?_
    refine R_iadd C dX7_master_63 ?_
    refine ldM4 C dX7_master_64 ?_
    refine R_if_le (tgt := 92) C dX7_master_65 (by decide) ?_ ?_
    · exact uX7_master_92 C k34 k44 h34 h44 v1 v2 v3 v4 S
    · refine R_iload_n C dX7_master_68 rfl 2 rfl ?_
      refine R_iconst (v := (-1 : Int32)) C dX7_master_69 (by decide) ?_
      refine R_icmp_eq (tgt := 89) C dX7_master_70 (by decide) ?_ ?_
      · refine R_sub [0, 1, 3, 4] rfl ?_
        exact uX7_master_89 C k34 k44 h34 h44 v1 v3 v4 S
      · refine R_aload_n C dX7_master_73 rfl 0 rfl ?_
        refine gtM_X7_of C wd_3_22 dX7_master_74 ?_
        refine R_iload C dX7_master_77 4 rfl ?_
        refine ldM10 C dX7_master_79 ?_
        refine R_aload_n C dX7_master_80 rfl 0 rfl ?_
        refine gtM_X7_of C wd_3_22 dX7_master_81 ?_
        refine R_iload_n C dX7_master_84 rfl 2 rfl ?_
        refine ldM10 C dX7_master_85 ?_
        refine R_icmp_ge (tgt := 92) C dX7_master_86 (by decide) ?_ ?_
        · exact uX7_master_92 C k34 k44 h34 h44 v1 v2 v3 v4 S
        · refine R_sub [0, 1, 3, 4] rfl ?_
          exact uX7_master_89 C k34 k44 h34 h44 v1 v3 v4 S
set_option maxHeartbeats 4000000 in
set_option maxRecDepth 100000 in
theorem uX7_master_44 (C : CX D [(cA, .int), (cZ, .boolean)] p s m args meth c A cX7_master 5 RX7 (some .int)) (k34 : Int32 → Int32 → Int32 → St → Rs) (h34 : ∀ (v1 v2 v3 : Int32) (S : St), RU D (wM a cA cZ) p l e 3 s m args below meth c A 5 (QI D (wM a cA cZ) [(cA, .int), (cZ, .boolean)] A) (k34 v1 v2 v3 S) 34 [] [(0, .ref (a 0)), (1, .int v1), (2, .int v2), (3, .int v3)] S) : ∀ (n : Nat) (v1 v2 v3 v4 : Int32) (S : St), RU D (wM a cA cZ) p l e 3 s m args below meth c A 5 (QI D (wM a cA cZ) [(cA, .int), (cZ, .boolean)] A) (fX7_master_44 k34 n v1 v2 v3 v4 S) 44 [] [(0, .ref (a 0)), (1, .int v1), (2, .int v2), (3, .int v3), (4, .int v4)] S := by
  intro n
  induction n with
  | zero => intro v1 v2 v3 v4 S; exact R_none
  | succ n ih => intro v1 v2 v3 v4 S; exact uX7_master_44_b C k34 h34 _ ih v1 v2 v3 v4 S
set_option maxHeartbeats 4000000 in
set_option maxRecDepth 100000 in
theorem uX7_master_34_b (C : CX D [(cA, .int), (cZ, .boolean)] p s m args meth c A cX7_master 5 RX7 (some .int)) (k34 : Int32 → Int32 → Int32 → St → Rs) (h34 : ∀ (v1 v2 v3 : Int32) (S : St), RU D (wM a cA cZ) p l e 3 s m args below meth c A 5 (QI D (wM a cA cZ) [(cA, .int), (cZ, .boolean)] A) (k34 v1 v2 v3 S) 34 [] [(0, .ref (a 0)), (1, .int v1), (2, .int v2), (3, .int v3)] S) (v1 v2 v3 : Int32) (S : St) : RU D (wM a cA cZ) p l e 3 s m args below meth c A 5 (QI D (wM a cA cZ) [(cA, .int), (cZ, .boolean)] A) (fX7_master_34_b k34 v1 v2 v3 S) 34 [] [(0, .ref (a 0)), (1, .int v1), (2, .int v2), (3, .int v3)] S := by
  unfold fX7_master_34_b
  refine R_iload_n C dX7_master_34 rfl 3 rfl ?_
  refine R_iload_n C dX7_master_35 rfl 1 rfl ?_
  refine R_icmp_gt (tgt := 119) C dX7_master_36 (by decide) ?_ ?_
  · refine R_iload_n C dX7_master_119 rfl 2 rfl ?_
    exact R_reti C dX7_master_120
  · refine R_iconst (v := (-1 : Int32)) C dX7_master_39 (by decide) ?_
    refine R_istore_n (lv' := [(2, .int (-1 : Int32)), (0, .ref (a 0)), (1, .int v1), (3, .int v3)]) C dX7_master_40 rfl (by decide) rfl ?_
    refine R_iconst (v := (0 : Int32)) C dX7_master_41 (by decide) ?_
    refine R_istore (lv' := [(4, .int (0 : Int32)), (2, .int (-1 : Int32)), (0, .ref (a 0)), (1, .int v1), (3, .int v3)]) C dX7_master_42 (by decide) rfl ?_
    refine R_sub [2, 3, 1, 4, 0] rfl ?_
    exact uX7_master_44 C k34 h34 FU v1 (-1 : Int32) v3 (0 : Int32) S
set_option maxHeartbeats 4000000 in
set_option maxRecDepth 100000 in
theorem uX7_master_34 (C : CX D [(cA, .int), (cZ, .boolean)] p s m args meth c A cX7_master 5 RX7 (some .int)) : ∀ (n : Nat) (v1 v2 v3 : Int32) (S : St), RU D (wM a cA cZ) p l e 3 s m args below meth c A 5 (QI D (wM a cA cZ) [(cA, .int), (cZ, .boolean)] A) (fX7_master_34 n v1 v2 v3 S) 34 [] [(0, .ref (a 0)), (1, .int v1), (2, .int v2), (3, .int v3)] S := by
  intro n
  induction n with
  | zero => intro v1 v2 v3 S; exact R_none
  | succ n ih => intro v1 v2 v3 S; exact uX7_master_34_b C _ ih v1 v2 v3 S
set_option maxHeartbeats 4000000 in
set_option maxRecDepth 100000 in
theorem uX7_master_11_b (C : CX D [(cA, .int), (cZ, .boolean)] p s m args meth c A cX7_master 5 RX7 (some .int)) (k11 : Int32 → Int32 → St → Rs) (h11 : ∀ (v1 v2 : Int32) (S : St), RU D (wM a cA cZ) p l e 3 s m args below meth c A 5 (QI D (wM a cA cZ) [(cA, .int), (cZ, .boolean)] A) (k11 v1 v2 S) 11 [] [(0, .ref (a 0)), (1, .int v1), (2, .int v2)] S) (v1 v2 : Int32) (S : St) : RU D (wM a cA cZ) p l e 3 s m args below meth c A 5 (QI D (wM a cA cZ) [(cA, .int), (cZ, .boolean)] A) (fX7_master_11_b k11 v1 v2 S) 11 [] [(0, .ref (a 0)), (1, .int v1), (2, .int v2)] S := by
  unfold fX7_master_11_b
  refine R_iload_n C dX7_master_11 rfl 2 rfl ?_
  refine R_bipush (v := (8 : Int32)) C dX7_master_12 (by decide) ?_
  refine R_icmp_ge (tgt := 30) C dX7_master_14 (by decide) ?_ ?_
  · refine R_iconst (v := (-1 : Int32)) C dX7_master_30 (by decide) ?_
    refine R_istore_n (lv' := [(2, .int (-1 : Int32)), (0, .ref (a 0)), (1, .int v1)]) C dX7_master_31 rfl (by decide) rfl ?_
    refine R_iconst (v := (0 : Int32)) C dX7_master_32 (by decide) ?_
    refine R_istore_n (lv' := [(3, .int (0 : Int32)), (2, .int (-1 : Int32)), (0, .ref (a 0)), (1, .int v1)]) C dX7_master_33 rfl (by decide) rfl ?_
    refine R_sub [2, 3, 1, 0] rfl ?_
    exact uX7_master_34 C FU v1 (-1 : Int32) (0 : Int32) S
  · refine R_aload_n C dX7_master_17 rfl 0 rfl ?_
    refine gtM_X7_of C wd_3_22 dX7_master_18 ?_
    refine R_iload_n C dX7_master_21 rfl 2 rfl ?_
    refine R_iconst (v := (0 : Int32)) C dX7_master_22 (by decide) ?_
    refine svM10 C dX7_master_23 ?_
    refine R_letS (fun S1 => ?_)
    refine R_iinc (v := v2 + 1) (lv' := [(2, .int (v2 + 1)), (0, .ref (a 0)), (1, .int v1)]) C dX7_master_24 2 rfl rfl (by decide) rfl ?_
    refine R_goto (tgt := 11) C dX7_master_27 (by decide) ?_
    refine R_sub [1, 2, 0] rfl ?_
    exact h11 v1 (v2 + 1) S1
set_option maxHeartbeats 4000000 in
set_option maxRecDepth 100000 in
theorem uX7_master_11 (C : CX D [(cA, .int), (cZ, .boolean)] p s m args meth c A cX7_master 5 RX7 (some .int)) : ∀ (n : Nat) (v1 v2 : Int32) (S : St), RU D (wM a cA cZ) p l e 3 s m args below meth c A 5 (QI D (wM a cA cZ) [(cA, .int), (cZ, .boolean)] A) (fX7_master_11 n v1 v2 S) 11 [] [(0, .ref (a 0)), (1, .int v1), (2, .int v2)] S := by
  intro n
  induction n with
  | zero => intro v1 v2 S; exact R_none
  | succ n ih => intro v1 v2 S; exact uX7_master_11_b C _ ih v1 v2 S
set_option maxHeartbeats 4000000 in
set_option maxRecDepth 100000 in
theorem uX7_master (C : CX D [(cA, .int), (cZ, .boolean)] p s m args meth c A cX7_master 5 RX7 (some .int)) (v1 : Int32) (S : St) : RU D (wM a cA cZ) p l e 3 s m args below meth c A 5 (QI D (wM a cA cZ) [(cA, .int), (cZ, .boolean)] A) (fX7_master v1 S) 0 [] [(0, .ref (a 0)), (1, .int v1)] S := by
  unfold fX7_master
  refine R_iload_n C dX7_master_0 rfl 1 rfl ?_
  refine R_calls (As := [.int v1]) (st := []) C (kX7_isPoint l D a cA cZ S v1) (by decide) (by decide) wd_3_67 kwX7_isPoint rfl rfl (Nat.le_of_ble_eq_true rfl) dX7_master_1 (fun r1 S2 => ?_)
  refine R_if_ne (tgt := 9) C dX7_master_4 (by decide) ?_ ?_
  · refine R_iconst (v := (-1 : Int32)) C dX7_master_7 (by decide) ?_
    exact R_reti C dX7_master_8
  · refine R_iconst (v := (0 : Int32)) C dX7_master_9 (by decide) ?_
    refine R_istore_n (lv' := [(2, .int (0 : Int32)), (0, .ref (a 0)), (1, .int v1)]) C dX7_master_10 rfl (by decide) rfl ?_
    refine R_sub [1, 2, 0] rfl ?_
    exact uX7_master_11 C FU v1 (0 : Int32) S2
set_option maxHeartbeats 4000000 in
set_option maxRecDepth 100000 in
theorem kX7_master (l : Launch) (D : va_G) (a : Nat → Nat) (cA cZ : ClassId) (S : St) (v1 : Int32) : CI l D (wM a cA cZ) [(cA, .int), (cZ, .boolean)] yX7_master (.code yX7_master cX7_master 5 (some .int)) 3 [.ref (a 0), .int v1] (fX7_master v1 S) S := CI_of rfl (Nat.le_of_ble_eq_true rfl) (fun p e s m args below meth c A C => uX7_master C v1 S)
theorem dX7_count_0 : decode cX7_count 0 = .ok (.iconst 0, 1) := by decide +kernel
theorem dX7_count_1 : decode cX7_count 1 = .ok (.istore_n 2, 1) := by decide +kernel
theorem dX7_count_2 : decode cX7_count 2 = .ok (.iload_n 1, 1) := by decide +kernel
theorem dX7_count_3 : decode cX7_count 3 = .ok (.tableswitch 173 0 10 #[57, 62, 67, 72, 77, 82, 121, 153, 158, 163, 168], 57) := by decide +kernel
theorem dX7_count_60 : decode cX7_count 60 = .ok (.aload_n 0, 1) := by decide +kernel
theorem dX7_count_61 : decode cX7_count 61 = .ok (.getfield 54, 3) := by decide +kernel
theorem dX7_count_64 : decode cX7_count 64 = .ok (.ireturn, 1) := by decide +kernel
theorem dX7_count_65 : decode cX7_count 65 = .ok (.aload_n 0, 1) := by decide +kernel
theorem dX7_count_66 : decode cX7_count 66 = .ok (.getfield 61, 3) := by decide +kernel
theorem dX7_count_69 : decode cX7_count 69 = .ok (.ireturn, 1) := by decide +kernel
theorem dX7_count_70 : decode cX7_count 70 = .ok (.aload_n 0, 1) := by decide +kernel
theorem dX7_count_71 : decode cX7_count 71 = .ok (.getfield 64, 3) := by decide +kernel
theorem dX7_count_74 : decode cX7_count 74 = .ok (.ireturn, 1) := by decide +kernel
theorem dX7_count_75 : decode cX7_count 75 = .ok (.aload_n 0, 1) := by decide +kernel
theorem dX7_count_76 : decode cX7_count 76 = .ok (.getfield 112, 3) := by decide +kernel
theorem dX7_count_79 : decode cX7_count 79 = .ok (.ireturn, 1) := by decide +kernel
theorem dX7_count_80 : decode cX7_count 80 = .ok (.aload_n 0, 1) := by decide +kernel
theorem dX7_count_81 : decode cX7_count 81 = .ok (.invokevirtual 67, 3) := by decide +kernel
theorem dX7_count_84 : decode cX7_count 84 = .ok (.ireturn, 1) := by decide +kernel
theorem dX7_count_85 : decode cX7_count 85 = .ok (.sipush 300, 3) := by decide +kernel
theorem dX7_count_88 : decode cX7_count 88 = .ok (.istore_n 2, 1) := by decide +kernel
theorem dX7_count_89 : decode cX7_count 89 = .ok (.iconst 0, 1) := by decide +kernel
theorem dX7_count_90 : decode cX7_count 90 = .ok (.istore_n 3, 1) := by decide +kernel
theorem dX7_count_91 : decode cX7_count 91 = .ok (.iload_n 3, 1) := by decide +kernel
theorem dX7_count_92 : decode cX7_count 92 = .ok (.aload_n 0, 1) := by decide +kernel
theorem dX7_count_93 : decode cX7_count 93 = .ok (.getfield 54, 3) := by decide +kernel
theorem dX7_count_96 : decode cX7_count 96 = .ok (.if_icmp .ge 26, 3) := by decide +kernel
theorem dX7_count_99 : decode cX7_count 99 = .ok (.aload_n 0, 1) := by decide +kernel
theorem dX7_count_100 : decode cX7_count 100 = .ok (.getfield 19, 3) := by decide +kernel
theorem dX7_count_103 : decode cX7_count 103 = .ok (.iload_n 3, 1) := by decide +kernel
theorem dX7_count_104 : decode cX7_count 104 = .ok (.iaload, 1) := by decide +kernel
theorem dX7_count_105 : decode cX7_count 105 = .ok (.iload_n 2, 1) := by decide +kernel
theorem dX7_count_106 : decode cX7_count 106 = .ok (.if_icmp .ge 10, 3) := by decide +kernel
theorem dX7_count_109 : decode cX7_count 109 = .ok (.aload_n 0, 1) := by decide +kernel
theorem dX7_count_110 : decode cX7_count 110 = .ok (.getfield 19, 3) := by decide +kernel
theorem dX7_count_113 : decode cX7_count 113 = .ok (.iload_n 3, 1) := by decide +kernel
theorem dX7_count_114 : decode cX7_count 114 = .ok (.iaload, 1) := by decide +kernel
theorem dX7_count_115 : decode cX7_count 115 = .ok (.istore_n 2, 1) := by decide +kernel
theorem dX7_count_116 : decode cX7_count 116 = .ok (.iinc 3 1, 3) := by decide +kernel
theorem dX7_count_119 : decode cX7_count 119 = .ok (.goto (-28), 3) := by decide +kernel
theorem dX7_count_122 : decode cX7_count 122 = .ok (.iload_n 2, 1) := by decide +kernel
theorem dX7_count_123 : decode cX7_count 123 = .ok (.ireturn, 1) := by decide +kernel
theorem dX7_count_124 : decode cX7_count 124 = .ok (.iconst 0, 1) := by decide +kernel
theorem dX7_count_125 : decode cX7_count 125 = .ok (.istore_n 3, 1) := by decide +kernel
theorem dX7_count_126 : decode cX7_count 126 = .ok (.iload_n 3, 1) := by decide +kernel
theorem dX7_count_127 : decode cX7_count 127 = .ok (.bipush 40, 2) := by decide +kernel
theorem dX7_count_129 : decode cX7_count 129 = .ok (.if_icmp .ge 25, 3) := by decide +kernel
theorem dX7_count_132 : decode cX7_count 132 = .ok (.iload_n 2, 1) := by decide +kernel
theorem dX7_count_133 : decode cX7_count 133 = .ok (.aload_n 0, 1) := by decide +kernel
theorem dX7_count_134 : decode cX7_count 134 = .ok (.iload_n 3, 1) := by decide +kernel
theorem dX7_count_135 : decode cX7_count 135 = .ok (.invokevirtual 114, 3) := by decide +kernel
theorem dX7_count_138 : decode cX7_count 138 = .ok (.ifCond .le 7, 3) := by decide +kernel
theorem dX7_count_141 : decode cX7_count 141 = .ok (.iconst 1, 1) := by decide +kernel
theorem dX7_count_142 : decode cX7_count 142 = .ok (.goto 4, 3) := by decide +kernel
theorem dX7_count_145 : decode cX7_count 145 = .ok (.iconst 0, 1) := by decide +kernel
theorem dX7_count_146 : decode cX7_count 146 = .ok (.iadd, 1) := by decide +kernel
theorem dX7_count_147 : decode cX7_count 147 = .ok (.istore_n 2, 1) := by decide +kernel
theorem dX7_count_148 : decode cX7_count 148 = .ok (.iinc 3 1, 3) := by decide +kernel
theorem dX7_count_151 : decode cX7_count 151 = .ok (.goto (-25), 3) := by decide +kernel
theorem dX7_count_154 : decode cX7_count 154 = .ok (.iload_n 2, 1) := by decide +kernel
theorem dX7_count_155 : decode cX7_count 155 = .ok (.ireturn, 1) := by decide +kernel
theorem dX7_count_156 : decode cX7_count 156 = .ok (.aload_n 0, 1) := by decide +kernel
theorem dX7_count_157 : decode cX7_count 157 = .ok (.getfield 32, 3) := by decide +kernel
theorem dX7_count_160 : decode cX7_count 160 = .ok (.ireturn, 1) := by decide +kernel
theorem dX7_count_161 : decode cX7_count 161 = .ok (.aload_n 0, 1) := by decide +kernel
theorem dX7_count_162 : decode cX7_count 162 = .ok (.getfield 25, 3) := by decide +kernel
theorem dX7_count_165 : decode cX7_count 165 = .ok (.ireturn, 1) := by decide +kernel
theorem dX7_count_166 : decode cX7_count 166 = .ok (.aload_n 0, 1) := by decide +kernel
theorem dX7_count_167 : decode cX7_count 167 = .ok (.getfield 29, 3) := by decide +kernel
theorem dX7_count_170 : decode cX7_count 170 = .ok (.ireturn, 1) := by decide +kernel
theorem dX7_count_171 : decode cX7_count 171 = .ok (.aload_n 0, 1) := by decide +kernel
theorem dX7_count_172 : decode cX7_count 172 = .ok (.getfield 96, 3) := by decide +kernel
theorem dX7_count_175 : decode cX7_count 175 = .ok (.ireturn, 1) := by decide +kernel
theorem dX7_count_176 : decode cX7_count 176 = .ok (.iconst (-1), 1) := by decide +kernel
theorem dX7_count_177 : decode cX7_count 177 = .ok (.ireturn, 1) := by decide +kernel
set_option maxHeartbeats 4000000 in
set_option maxRecDepth 100000 in
theorem uX7_count_116 (C : CX D [(cA, .int), (cZ, .boolean)] p s m args meth c A cX7_count 4 RX7 (some .int)) (k91 : Int32 → Int32 → St → Rs) (h91 : ∀ (v2 v3 : Int32) (S : St), RU D (wM a cA cZ) p l e 2 s m args below meth c A 4 (QI D (wM a cA cZ) [(cA, .int), (cZ, .boolean)] A) (k91 v2 v3 S) 91 [] [(0, .ref (a 0)), (2, .int v2), (3, .int v3)] S) (v2 v3 : Int32) (S : St) : RU D (wM a cA cZ) p l e 2 s m args below meth c A 4 (QI D (wM a cA cZ) [(cA, .int), (cZ, .boolean)] A) (fX7_count_116 k91 v2 v3 S) 116 [] [(0, .ref (a 0)), (2, .int v2), (3, .int v3)] S := by
  unfold fX7_count_116
  refine R_iinc (v := v3 + 1) (lv' := [(3, .int (v3 + 1)), (0, .ref (a 0)), (2, .int v2)]) C dX7_count_116 2 rfl rfl (by decide) rfl ?_
  refine R_goto (tgt := 91) C dX7_count_119 (by decide) ?_
  refine R_sub [1, 2, 0] rfl ?_
  exact h91 v2 (v3 + 1) S
set_option maxHeartbeats 4000000 in
set_option maxRecDepth 100000 in
theorem uX7_count_91_b (C : CX D [(cA, .int), (cZ, .boolean)] p s m args meth c A cX7_count 4 RX7 (some .int)) (k91 : Int32 → Int32 → St → Rs) (h91 : ∀ (v2 v3 : Int32) (S : St), RU D (wM a cA cZ) p l e 2 s m args below meth c A 4 (QI D (wM a cA cZ) [(cA, .int), (cZ, .boolean)] A) (k91 v2 v3 S) 91 [] [(0, .ref (a 0)), (2, .int v2), (3, .int v3)] S) (v2 v3 : Int32) (S : St) : RU D (wM a cA cZ) p l e 2 s m args below meth c A 4 (QI D (wM a cA cZ) [(cA, .int), (cZ, .boolean)] A) (fX7_count_91_b k91 v2 v3 S) 91 [] [(0, .ref (a 0)), (2, .int v2), (3, .int v3)] S := by
  unfold fX7_count_91_b
  refine R_iload_n C dX7_count_91 rfl 2 rfl ?_
  refine R_aload_n C dX7_count_92 rfl 0 rfl ?_
  refine gtM_X7_hosts C wd_3_4 dX7_count_93 ?_
  refine R_icmp_ge (tgt := 122) C dX7_count_96 (by decide) ?_ ?_
  · refine R_iload_n C dX7_count_122 rfl 1 rfl ?_
    exact R_reti C dX7_count_123
  · refine R_aload_n C dX7_count_99 rfl 0 rfl ?_
    refine gtM_X7_loads C wd_3_9 dX7_count_100 ?_
    refine R_iload_n C dX7_count_103 rfl 2 rfl ?_
    refine ldM3 C dX7_count_104 ?_
    refine R_iload_n C dX7_count_105 rfl 1 rfl ?_
    refine R_icmp_ge (tgt := 116) C dX7_count_106 (by decide) ?_ ?_
    · exact uX7_count_116 C k91 h91 v2 v3 S
    · refine R_aload_n C dX7_count_109 rfl 0 rfl ?_
      refine gtM_X7_loads C wd_3_9 dX7_count_110 ?_
      refine R_iload_n C dX7_count_113 rfl 2 rfl ?_
      refine ldM3 C dX7_count_114 ?_
      refine R_let (fun x1 => ?_)
      refine R_istore_n (lv' := [(2, .int x1), (0, .ref (a 0)), (3, .int v3)]) C dX7_count_115 rfl (by decide) rfl ?_
      refine R_sub [1, 0, 2] rfl ?_
      exact uX7_count_116 C k91 h91 x1 v3 S
set_option maxHeartbeats 4000000 in
set_option maxRecDepth 100000 in
theorem uX7_count_91 (C : CX D [(cA, .int), (cZ, .boolean)] p s m args meth c A cX7_count 4 RX7 (some .int)) : ∀ (n : Nat) (v2 v3 : Int32) (S : St), RU D (wM a cA cZ) p l e 2 s m args below meth c A 4 (QI D (wM a cA cZ) [(cA, .int), (cZ, .boolean)] A) (fX7_count_91 n v2 v3 S) 91 [] [(0, .ref (a 0)), (2, .int v2), (3, .int v3)] S := by
  intro n
  induction n with
  | zero => intro v2 v3 S; exact R_none
  | succ n ih => intro v2 v3 S; exact uX7_count_91_b C _ ih v2 v3 S
set_option maxHeartbeats 4000000 in
set_option maxRecDepth 100000 in
theorem uX7_count_146 (C : CX D [(cA, .int), (cZ, .boolean)] p s m args meth c A cX7_count 4 RX7 (some .int)) (k126 : Int32 → Int32 → St → Rs) (h126 : ∀ (v2 v3 : Int32) (S : St), RU D (wM a cA cZ) p l e 2 s m args below meth c A 4 (QI D (wM a cA cZ) [(cA, .int), (cZ, .boolean)] A) (k126 v2 v3 S) 126 [] [(0, .ref (a 0)), (2, .int v2), (3, .int v3)] S) (v3 t0 t1 : Int32) (S : St) : RU D (wM a cA cZ) p l e 2 s m args below meth c A 4 (QI D (wM a cA cZ) [(cA, .int), (cZ, .boolean)] A) (fX7_count_146 k126 v3 t0 t1 S) 146 [.int t0, .int t1] [(0, .ref (a 0)), (3, .int v3)] S := by
  unfold fX7_count_146
  refine R_iadd C dX7_count_146 ?_
  refine R_let (fun x1 => ?_)
  refine R_istore_n (lv' := [(2, .int x1), (0, .ref (a 0)), (3, .int v3)]) C dX7_count_147 rfl (by decide) rfl ?_
  refine R_iinc (v := v3 + 1) (lv' := [(3, .int (v3 + 1)), (2, .int x1), (0, .ref (a 0))]) C dX7_count_148 2 rfl rfl (by decide) rfl ?_
  refine R_goto (tgt := 126) C dX7_count_151 (by decide) ?_
  refine R_sub [2, 1, 0] rfl ?_
  exact h126 x1 (v3 + 1) S
set_option maxHeartbeats 4000000 in
set_option maxRecDepth 100000 in
theorem uX7_count_126_b (C : CX D [(cA, .int), (cZ, .boolean)] p s m args meth c A cX7_count 4 RX7 (some .int)) (k126 : Int32 → Int32 → St → Rs) (h126 : ∀ (v2 v3 : Int32) (S : St), RU D (wM a cA cZ) p l e 2 s m args below meth c A 4 (QI D (wM a cA cZ) [(cA, .int), (cZ, .boolean)] A) (k126 v2 v3 S) 126 [] [(0, .ref (a 0)), (2, .int v2), (3, .int v3)] S) (v2 v3 : Int32) (S : St) : RU D (wM a cA cZ) p l e 2 s m args below meth c A 4 (QI D (wM a cA cZ) [(cA, .int), (cZ, .boolean)] A) (fX7_count_126_b k126 v2 v3 S) 126 [] [(0, .ref (a 0)), (2, .int v2), (3, .int v3)] S := by
  unfold fX7_count_126_b
  refine R_iload_n C dX7_count_126 rfl 2 rfl ?_
  refine R_bipush (v := (40 : Int32)) C dX7_count_127 (by decide) ?_
  refine R_icmp_ge (tgt := 154) C dX7_count_129 (by decide) ?_ ?_
  · refine R_iload_n C dX7_count_154 rfl 1 rfl ?_
    exact R_reti C dX7_count_155
  · refine R_iload_n C dX7_count_132 rfl 1 rfl ?_
    refine R_aload_n C dX7_count_133 rfl 0 rfl ?_
    refine R_iload_n C dX7_count_134 rfl 2 rfl ?_
    refine R_calli (As := [.int v3]) (st := [.int v2]) C (kX7_copiesOf l D a cA cZ S v3) (by decide) (by decide) wd_3_161 kwX7_copiesOf 0 rfl rfl rfl rfl (Nat.le_of_ble_eq_true rfl) dX7_count_135 (fun r1 S2 => ?_)
    refine R_if_le (tgt := 145) C dX7_count_138 (by decide) ?_ ?_
    · refine R_iconst (v := (0 : Int32)) C dX7_count_145 (by decide) ?_
      refine R_sub [0, 2] rfl ?_
      exact uX7_count_146 C k126 h126 v3 (0 : Int32) v2 S2
    · refine R_iconst (v := (1 : Int32)) C dX7_count_141 (by decide) ?_
      refine R_goto (tgt := 146) C dX7_count_142 (by decide) ?_
      refine R_sub [0, 2] rfl ?_
      exact uX7_count_146 C k126 h126 v3 (1 : Int32) v2 S2
set_option maxHeartbeats 4000000 in
set_option maxRecDepth 100000 in
theorem uX7_count_126 (C : CX D [(cA, .int), (cZ, .boolean)] p s m args meth c A cX7_count 4 RX7 (some .int)) : ∀ (n : Nat) (v2 v3 : Int32) (S : St), RU D (wM a cA cZ) p l e 2 s m args below meth c A 4 (QI D (wM a cA cZ) [(cA, .int), (cZ, .boolean)] A) (fX7_count_126 n v2 v3 S) 126 [] [(0, .ref (a 0)), (2, .int v2), (3, .int v3)] S := by
  intro n
  induction n with
  | zero => intro v2 v3 S; exact R_none
  | succ n ih => intro v2 v3 S; exact uX7_count_126_b C _ ih v2 v3 S
set_option maxHeartbeats 4000000 in
set_option maxRecDepth 100000 in
theorem uX7_count (C : CX D [(cA, .int), (cZ, .boolean)] p s m args meth c A cX7_count 4 RX7 (some .int)) (v1 : Int32) (S : St) : RU D (wM a cA cZ) p l e 2 s m args below meth c A 4 (QI D (wM a cA cZ) [(cA, .int), (cZ, .boolean)] A) (fX7_count v1 S) 0 [] [(0, .ref (a 0)), (1, .int v1)] S := by
  unfold fX7_count
  refine R_iconst (v := (0 : Int32)) C dX7_count_0 (by decide) ?_
  refine R_istore_n (lv' := [(2, .int (0 : Int32)), (0, .ref (a 0)), (1, .int v1)]) C dX7_count_1 rfl (by decide) rfl ?_
  refine R_iload_n C dX7_count_2 rfl 2 rfl ?_
  refine R_eq (v := 0) (fun _ => ?_) (fun q0 => ?_)
  · refine R_tsIn (tgt := 60) (off := 57) C dX7_count_3 (by decide) (by decide) (by decide +kernel) (by decide) ?_
    refine R_aload_n C dX7_count_60 rfl 1 rfl ?_
    refine gtM_X7_hosts C wd_3_4 dX7_count_61 ?_
    exact R_reti C dX7_count_64
  refine R_eq (v := 1) (fun _ => ?_) (fun q1 => ?_)
  · refine R_tsIn (tgt := 65) (off := 62) C dX7_count_3 (by decide) (by decide) (by decide +kernel) (by decide) ?_
    refine R_aload_n C dX7_count_65 rfl 1 rfl ?_
    refine gtM_X7_lines C wd_3_5 dX7_count_66 ?_
    exact R_reti C dX7_count_69
  refine R_eq (v := 2) (fun _ => ?_) (fun q2 => ?_)
  · refine R_tsIn (tgt := 70) (off := 67) C dX7_count_3 (by decide) (by decide) (by decide +kernel) (by decide) ?_
    refine R_aload_n C dX7_count_70 rfl 1 rfl ?_
    refine gtM_X7_live C wd_3_11 dX7_count_71 ?_
    exact R_reti C dX7_count_74
  refine R_eq (v := 3) (fun _ => ?_) (fun q3 => ?_)
  · refine R_tsIn (tgt := 75) (off := 72) C dX7_count_3 (by decide) (by decide) (by decide +kernel) (by decide) ?_
    refine R_aload_n C dX7_count_75 rfl 1 rfl ?_
    refine gtM_X7_moves C wd_3_16 dX7_count_76 ?_
    exact R_reti C dX7_count_79
  refine R_eq (v := 4) (fun _ => ?_) (fun q4 => ?_)
  · refine R_tsIn (tgt := 80) (off := 77) C dX7_count_3 (by decide) (by decide) (by decide +kernel) (by decide) ?_
    refine R_aload_n C dX7_count_80 rfl 1 rfl ?_
    refine R_calli (As := []) (st := []) C (kX7_greatest l D a cA cZ S) (by decide) (by decide) wd_3_85 kwX7_greatest 0 rfl rfl rfl rfl (Nat.le_of_ble_eq_true rfl) dX7_count_81 (fun r1 S2 => ?_)
    exact R_reti C dX7_count_84
  refine R_eq (v := 5) (fun _ => ?_) (fun q5 => ?_)
  · refine R_tsIn (tgt := 85) (off := 82) C dX7_count_3 (by decide) (by decide) (by decide +kernel) (by decide) ?_
    refine R_sipush (v := (300 : Int32)) C dX7_count_85 (by decide) ?_
    refine R_istore_n (lv' := [(2, .int (300 : Int32)), (0, .ref (a 0)), (1, .int v1)]) C dX7_count_88 rfl (by decide) rfl ?_
    refine R_iconst (v := (0 : Int32)) C dX7_count_89 (by decide) ?_
    refine R_istore_n (lv' := [(3, .int (0 : Int32)), (2, .int (300 : Int32)), (0, .ref (a 0)), (1, .int v1)]) C dX7_count_90 rfl (by decide) rfl ?_
    refine R_sub [2, 1, 0] rfl ?_
    exact uX7_count_91 C FU (300 : Int32) (0 : Int32) S
  refine R_eq (v := 6) (fun _ => ?_) (fun q6 => ?_)
  · refine R_tsIn (tgt := 124) (off := 121) C dX7_count_3 (by decide) (by decide) (by decide +kernel) (by decide) ?_
    refine R_iconst (v := (0 : Int32)) C dX7_count_124 (by decide) ?_
    refine R_istore_n (lv' := [(3, .int (0 : Int32)), (2, .int (0 : Int32)), (0, .ref (a 0)), (1, .int v1)]) C dX7_count_125 rfl (by decide) rfl ?_
    refine R_sub [2, 1, 0] rfl ?_
    exact uX7_count_126 C FU (0 : Int32) (0 : Int32) S
  refine R_eq (v := 7) (fun _ => ?_) (fun q7 => ?_)
  · refine R_tsIn (tgt := 156) (off := 153) C dX7_count_3 (by decide) (by decide) (by decide +kernel) (by decide) ?_
    refine R_aload_n C dX7_count_156 rfl 1 rfl ?_
    refine gtM_X7_rule C wd_3_15 dX7_count_157 ?_
    exact R_reti C dX7_count_160
  refine R_eq (v := 8) (fun _ => ?_) (fun q8 => ?_)
  · refine R_tsIn (tgt := 161) (off := 158) C dX7_count_3 (by decide) (by decide) (by decide +kernel) (by decide) ?_
    refine R_aload_n C dX7_count_161 rfl 1 rfl ?_
    refine gtM_X7_slack C wd_3_13 dX7_count_162 ?_
    exact R_reti C dX7_count_165
  refine R_eq (v := 9) (fun _ => ?_) (fun q9 => ?_)
  · refine R_tsIn (tgt := 166) (off := 163) C dX7_count_3 (by decide) (by decide) (by decide +kernel) (by decide) ?_
    refine R_aload_n C dX7_count_166 rfl 1 rfl ?_
    refine gtM_X7_lean C wd_3_14 dX7_count_167 ?_
    exact R_reti C dX7_count_170
  refine R_eq (v := 10) (fun _ => ?_) (fun q10 => ?_)
  · refine R_tsIn (tgt := 171) (off := 168) C dX7_count_3 (by decide) (by decide) (by decide +kernel) (by decide) ?_
    refine R_aload_n C dX7_count_171 rfl 1 rfl ?_
    refine gtM_X7_window C wd_3_12 dX7_count_172 ?_
    exact R_reti C dX7_count_175
  refine R_tsOut (tgt := 176) C dX7_count_3 (by have hq := And.intro True.intro True.intro; have w0 := lv_neT (a := 0) q0 rfl; have w1 := lv_neT (a := 1) q1 rfl; have w2 := lv_neT (a := 2) q2 rfl; have w3 := lv_neT (a := 3) q3 rfl; have w4 := lv_neT (a := 4) q4 rfl; have w5 := lv_neT (a := 5) q5 rfl; have w6 := lv_neT (a := 6) q6 rfl; have w7 := lv_neT (a := 7) q7 rfl; have w8 := lv_neT (a := 8) q8 rfl; have w9 := lv_neT (a := 9) q9 rfl; have w10 := lv_neT (a := 10) q10 rfl; omega) (by decide) ?_
  refine R_iconst (v := (-1 : Int32)) C dX7_count_176 (by decide) ?_
  exact R_reti C dX7_count_177
set_option maxHeartbeats 4000000 in
set_option maxRecDepth 100000 in
theorem kX7_count (l : Launch) (D : va_G) (a : Nat → Nat) (cA cZ : ClassId) (S : St) (v1 : Int32) : CI l D (wM a cA cZ) [(cA, .int), (cZ, .boolean)] yX7_count (.code yX7_count cX7_count 4 (some .int)) 2 [.ref (a 0), .int v1] (fX7_count v1 S) S := CI_of rfl (Nat.le_of_ble_eq_true rfl) (fun p e s m args below meth c A C => uX7_count C v1 S)
end
