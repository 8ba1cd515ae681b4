/-! walks of the reference -/
section
variable {D : va_G} {a : Nat → Nat} {cA cZ : ClassId} {p : Program} {l : Launch} {e : Env} {s : State} {m : MethodId} {args : Array Value} {below : List Frame} {meth : Method} {c : Code} {A : Nat → Prop}

theorem dX7_change_0 : decode cX7_change 0 = .ok (.aload_n 0, 1) := by decide +kernel
theorem dX7_change_1 : decode cX7_change 1 = .ok (.getfield 22, 3) := by decide +kernel
theorem dX7_change_4 : decode cX7_change 4 = .ok (.bipush 8, 2) := by decide +kernel
theorem dX7_change_6 : decode cX7_change 6 = .ok (.iload_n 1, 1) := by decide +kernel
theorem dX7_change_7 : decode cX7_change 7 = .ok (.imul, 1) := by decide +kernel
theorem dX7_change_8 : decode cX7_change 8 = .ok (.iload_n 3, 1) := by decide +kernel
theorem dX7_change_9 : decode cX7_change 9 = .ok (.iadd, 1) := by decide +kernel
theorem dX7_change_10 : decode cX7_change 10 = .ok (.iaload, 1) := by decide +kernel
theorem dX7_change_11 : decode cX7_change 11 = .ok (.ifCond .ne 7, 3) := by decide +kernel
theorem dX7_change_14 : decode cX7_change 14 = .ok (.iconst 1, 1) := by decide +kernel
theorem dX7_change_15 : decode cX7_change 15 = .ok (.goto 4, 3) := by decide +kernel
theorem dX7_change_18 : decode cX7_change 18 = .ok (.iconst 0, 1) := by decide +kernel
theorem dX7_change_19 : decode cX7_change 19 = .ok (.aload_n 0, 1) := by decide +kernel
theorem dX7_change_20 : decode cX7_change 20 = .ok (.getfield 22, 3) := by decide +kernel
theorem dX7_change_23 : decode cX7_change 23 = .ok (.bipush 8, 2) := by decide +kernel
theorem dX7_change_25 : decode cX7_change 25 = .ok (.iload_n 1, 1) := by decide +kernel
theorem dX7_change_26 : decode cX7_change 26 = .ok (.imul, 1) := by decide +kernel
theorem dX7_change_27 : decode cX7_change 27 = .ok (.iload_n 2, 1) := by decide +kernel
theorem dX7_change_28 : decode cX7_change 28 = .ok (.iadd, 1) := by decide +kernel
theorem dX7_change_29 : decode cX7_change 29 = .ok (.iaload, 1) := by decide +kernel
theorem dX7_change_30 : decode cX7_change 30 = .ok (.iconst 1, 1) := by decide +kernel
theorem dX7_change_31 : decode cX7_change 31 = .ok (.if_icmp .ne 7, 3) := by decide +kernel
theorem dX7_change_34 : decode cX7_change 34 = .ok (.iconst 1, 1) := by decide +kernel
theorem dX7_change_35 : decode cX7_change 35 = .ok (.goto 4, 3) := by decide +kernel
theorem dX7_change_38 : decode cX7_change 38 = .ok (.iconst 0, 1) := by decide +kernel
theorem dX7_change_39 : decode cX7_change 39 = .ok (.isub, 1) := by decide +kernel
theorem dX7_change_40 : decode cX7_change 40 = .ok (.ireturn, 1) := by decide +kernel
set_option maxHeartbeats 4000000 in
set_option maxRecDepth 100000 in
theorem uX7_change_39 (C : CX D [(cA, .int), (cZ, .boolean)] p s m args meth c A cX7_change 4 RX7 (some .int)) (t0 t1 : Int32) (S : St) : RU D (wM a cA cZ) p l e 1 s m args below meth c A 4 (QI D (wM a cA cZ) [(cA, .int), (cZ, .boolean)] A) (fX7_change_39 t0 t1 S) 39 [.int t0, .int t1] [] S := by
  unfold fX7_change_39
  refine R_isub C dX7_change_39 ?_
  exact R_reti C dX7_change_40
set_option maxHeartbeats 4000000 in
set_option maxRecDepth 100000 in
theorem uX7_change_19 (C : CX D [(cA, .int), (cZ, .boolean)] p s m args meth c A cX7_change 4 RX7 (some .int)) (v1 v2 t0 : Int32) (S : St) : RU D (wM a cA cZ) p l e 1 s m args below meth c A 4 (QI D (wM a cA cZ) [(cA, .int), (cZ, .boolean)] A) (fX7_change_19 v1 v2 t0 S) 19 [.int t0] [(0, .ref (a 0)), (1, .int v1), (2, .int v2)] S := by
  unfold fX7_change_19
  refine R_aload_n C dX7_change_19 rfl 0 rfl ?_
  refine gtM_X7_ends C wd_3_10 dX7_change_20 ?_
  refine R_bipush (v := (8 : Int32)) C dX7_change_23 (by decide) ?_
  refine R_iload_n C dX7_change_25 rfl 1 rfl ?_
  refine R_imul C dX7_change_26 ?_
  refine R_iload_n C dX7_change_27 rfl 2 rfl ?_
  refine R_iadd C dX7_change_28 ?_
  refine ldM4 C dX7_change_29 ?_
  refine R_iconst (v := (1 : Int32)) C dX7_change_30 (by decide) ?_
  refine R_icmp_ne (tgt := 38) C dX7_change_31 (by decide) ?_ ?_
  · refine R_iconst (v := (1 : Int32)) C dX7_change_34 (by decide) ?_
    refine R_goto (tgt := 39) C dX7_change_35 (by decide) ?_
    refine R_sub [] rfl ?_
    exact uX7_change_39 C (1 : Int32) t0 S
  · refine R_iconst (v := (0 : Int32)) C dX7_change_38 (by decide) ?_
    refine R_sub [] rfl ?_
    exact uX7_change_39 C (0 : Int32) t0 S
set_option maxHeartbeats 4000000 in
set_option maxRecDepth 100000 in
theorem uX7_change (C : CX D [(cA, .int), (cZ, .boolean)] p s m args meth c A cX7_change 4 RX7 (some .int)) (v1 v2 v3 : Int32) (S : St) : RU D (wM a cA cZ) p l e 1 s m args below meth c A 4 (QI D (wM a cA cZ) [(cA, .int), (cZ, .boolean)] A) (fX7_change v1 v2 v3 S) 0 [] [(0, .ref (a 0)), (1, .int v1), (2, .int v2), (3, .int v3)] S := by
  unfold fX7_change
  refine R_aload_n C dX7_change_0 rfl 0 rfl ?_
  refine gtM_X7_ends C wd_3_10 dX7_change_1 ?_
  refine R_bipush (v := (8 : Int32)) C dX7_change_4 (by decide) ?_
  refine R_iload_n C dX7_change_6 rfl 1 rfl ?_
  refine R_imul C dX7_change_7 ?_
  refine R_iload_n C dX7_change_8 rfl 3 rfl ?_
  refine R_iadd C dX7_change_9 ?_
  refine ldM4 C dX7_change_10 ?_
  refine R_if_ne (tgt := 18) C dX7_change_11 (by decide) ?_ ?_
  · refine R_iconst (v := (1 : Int32)) C dX7_change_14 (by decide) ?_
    refine R_goto (tgt := 19) C dX7_change_15 (by decide) ?_
    refine R_sub [0, 1, 2] rfl ?_
    exact uX7_change_19 C v1 v2 (1 : Int32) S
  · refine R_iconst (v := (0 : Int32)) C dX7_change_18 (by decide) ?_
    refine R_sub [0, 1, 2] rfl ?_
    exact uX7_change_19 C v1 v2 (0 : Int32) S
set_option maxHeartbeats 4000000 in
set_option maxRecDepth 100000 in
theorem kX7_change (l : Launch) (D : va_G) (a : Nat → Nat) (cA cZ : ClassId) (S : St) (v1 v2 v3 : Int32) : CI l D (wM a cA cZ) [(cA, .int), (cZ, .boolean)] yX7_change (.code yX7_change cX7_change 4 (some .int)) 1 [.ref (a 0), .int v1, .int v2, .int v3] (fX7_change v1 v2 v3 S) S := CI_of rfl (Nat.le_of_ble_eq_true rfl) (fun p e s m args below meth c A C => uX7_change C v1 v2 v3 S)
theorem dX7_room_0 : decode cX7_room 0 = .ok (.aload_n 0, 1) := by decide +kernel
theorem dX7_room_1 : decode cX7_room 1 = .ok (.aload_n 0, 1) := by decide +kernel
theorem dX7_room_2 : decode cX7_room 2 = .ok (.getfield 64, 3) := by decide +kernel
theorem dX7_room_5 : decode cX7_room 5 = .ok (.invokevirtual 75, 3) := by decide +kernel
theorem dX7_room_8 : decode cX7_room 8 = .ok (.ireturn, 1) := by decide +kernel
set_option maxHeartbeats 4000000 in
set_option maxRecDepth 100000 in
theorem uX7_room (C : CX D [(cA, .int), (cZ, .boolean)] p s m args meth c A cX7_room 1 RX7 (some .int)) (S : St) : RU D (wM a cA cZ) p l e 2 s m args below meth c A 1 (QI D (wM a cA cZ) [(cA, .int), (cZ, .boolean)] A) (fX7_room S) 0 [] [(0, .ref (a 0))] S := by
  unfold fX7_room
  refine R_aload_n C dX7_room_0 rfl 0 rfl ?_
  refine R_aload_n C dX7_room_1 rfl 0 rfl ?_
  refine gtM_X7_live C wd_3_11 dX7_room_2 ?_
  refine R_calli (As := [.int (S.1 2)]) (st := []) C (kX7_roomFor l D a cA cZ S (S.1 2)) (by decide) (by decide) wd_3_77 kwX7_roomFor 0 rfl rfl rfl rfl (Nat.le_of_ble_eq_true rfl) dX7_room_5 (fun r1 S2 => ?_)
  exact R_reti C dX7_room_8
set_option maxHeartbeats 4000000 in
set_option maxRecDepth 100000 in
theorem kX7_room (l : Launch) (D : va_G) (a : Nat → Nat) (cA cZ : ClassId) (S : St) : CI l D (wM a cA cZ) [(cA, .int), (cZ, .boolean)] yX7_room (.code yX7_room cX7_room 1 (some .int)) 2 [.ref (a 0)] (fX7_room S) S := CI_of rfl (Nat.le_of_ble_eq_true rfl) (fun p e s m args below meth c A C => uX7_room C S)
theorem dX7_moves_0 : decode cX7_moves 0 = .ok (.aload_n 0, 1) := by decide +kernel
theorem dX7_moves_1 : decode cX7_moves 1 = .ok (.invokevirtual 102, 3) := by decide +kernel
theorem dX7_moves_4 : decode cX7_moves 4 = .ok (.istore_n 1, 1) := by decide +kernel
theorem dX7_moves_5 : decode cX7_moves 5 = .ok (.iconst (-1), 1) := by decide +kernel
theorem dX7_moves_6 : decode cX7_moves 6 = .ok (.istore_n 2, 1) := by decide +kernel
theorem dX7_moves_7 : decode cX7_moves 7 = .ok (.iconst 0, 1) := by decide +kernel
theorem dX7_moves_8 : decode cX7_moves 8 = .ok (.istore_n 3, 1) := by decide +kernel
theorem dX7_moves_9 : decode cX7_moves 9 = .ok (.iconst 0, 1) := by decide +kernel
theorem dX7_moves_10 : decode cX7_moves 10 = .ok (.istore 4, 2) := by decide +kernel
theorem dX7_moves_12 : decode cX7_moves 12 = .ok (.iconst 0, 1) := by decide +kernel
theorem dX7_moves_13 : decode cX7_moves 13 = .ok (.istore 5, 2) := by decide +kernel
theorem dX7_moves_15 : decode cX7_moves 15 = .ok (.iconst 0, 1) := by decide +kernel
theorem dX7_moves_16 : decode cX7_moves 16 = .ok (.istore 6, 2) := by decide +kernel
theorem dX7_moves_18 : decode cX7_moves 18 = .ok (.iload 6, 2) := by decide +kernel
theorem dX7_moves_20 : decode cX7_moves 20 = .ok (.aload_n 0, 1) := by decide +kernel
theorem dX7_moves_21 : decode cX7_moves 21 = .ok (.getfield 61, 3) := by decide +kernel
theorem dX7_moves_24 : decode cX7_moves 24 = .ok (.if_icmp .ge 192, 3) := by decide +kernel
theorem dX7_moves_27 : decode cX7_moves 27 = .ok (.iconst 0, 1) := by decide +kernel
theorem dX7_moves_28 : decode cX7_moves 28 = .ok (.istore 7, 2) := by decide +kernel
theorem dX7_moves_30 : decode cX7_moves 30 = .ok (.iload 7, 2) := by decide +kernel
theorem dX7_moves_32 : decode cX7_moves 32 = .ok (.aload_n 0, 1) := by decide +kernel
theorem dX7_moves_33 : decode cX7_moves 33 = .ok (.getfield 54, 3) := by decide +kernel
theorem dX7_moves_36 : decode cX7_moves 36 = .ok (.if_icmp .ge 174, 3) := by decide +kernel
theorem dX7_moves_39 : decode cX7_moves 39 = .ok (.aload_n 0, 1) := by decide +kernel
theorem dX7_moves_40 : decode cX7_moves 40 = .ok (.getfield 16, 3) := by decide +kernel
theorem dX7_moves_43 : decode cX7_moves 43 = .ok (.iload 6, 2) := by decide +kernel
theorem dX7_moves_45 : decode cX7_moves 45 = .ok (.iaload, 1) := by decide +kernel
theorem dX7_moves_46 : decode cX7_moves 46 = .ok (.iconst (-1), 1) := by decide +kernel
theorem dX7_moves_47 : decode cX7_moves 47 = .ok (.if_icmp .eq 163, 3) := by decide +kernel
theorem dX7_moves_50 : decode cX7_moves 50 = .ok (.aload_n 0, 1) := by decide +kernel
theorem dX7_moves_51 : decode cX7_moves 51 = .ok (.getfield 16, 3) := by decide +kernel
theorem dX7_moves_54 : decode cX7_moves 54 = .ok (.iload 6, 2) := by decide +kernel
theorem dX7_moves_56 : decode cX7_moves 56 = .ok (.iaload, 1) := by decide +kernel
theorem dX7_moves_57 : decode cX7_moves 57 = .ok (.istore 8, 2) := by decide +kernel
theorem dX7_moves_59 : decode cX7_moves 59 = .ok (.iload 7, 2) := by decide +kernel
theorem dX7_moves_61 : decode cX7_moves 61 = .ok (.iload 8, 2) := by decide +kernel
theorem dX7_moves_63 : decode cX7_moves 63 = .ok (.if_icmp .eq 141, 3) := by decide +kernel
theorem dX7_moves_66 : decode cX7_moves 66 = .ok (.aload_n 0, 1) := by decide +kernel
theorem dX7_moves_67 : decode cX7_moves 67 = .ok (.getfield 19, 3) := by decide +kernel
theorem dX7_moves_70 : decode cX7_moves 70 = .ok (.iload 7, 2) := by decide +kernel
theorem dX7_moves_72 : decode cX7_moves 72 = .ok (.iaload, 1) := by decide +kernel
theorem dX7_moves_73 : decode cX7_moves 73 = .ok (.iload_n 1, 1) := by decide +kernel
theorem dX7_moves_74 : decode cX7_moves 74 = .ok (.if_icmp .lt 6, 3) := by decide +kernel
theorem dX7_moves_77 : decode cX7_moves 77 = .ok (.goto 127, 3) := by decide +kernel
theorem dX7_moves_80 : decode cX7_moves 80 = .ok (.aload_n 0, 1) := by decide +kernel
theorem dX7_moves_81 : decode cX7_moves 81 = .ok (.aload_n 0, 1) := by decide +kernel
theorem dX7_moves_82 : decode cX7_moves 82 = .ok (.getfield 9, 3) := by decide +kernel
theorem dX7_moves_85 : decode cX7_moves 85 = .ok (.iload 6, 2) := by decide +kernel
theorem dX7_moves_87 : decode cX7_moves 87 = .ok (.iaload, 1) := by decide +kernel
theorem dX7_moves_88 : decode cX7_moves 88 = .ok (.iload 8, 2) := by decide +kernel
theorem dX7_moves_90 : decode cX7_moves 90 = .ok (.iload 7, 2) := by decide +kernel
theorem dX7_moves_92 : decode cX7_moves 92 = .ok (.invokevirtual 105, 3) := by decide +kernel
theorem dX7_moves_95 : decode cX7_moves 95 = .ok (.aload_n 0, 1) := by decide +kernel
theorem dX7_moves_96 : decode cX7_moves 96 = .ok (.aload_n 0, 1) := by decide +kernel
theorem dX7_moves_97 : decode cX7_moves 97 = .ok (.getfield 13, 3) := by decide +kernel
theorem dX7_moves_100 : decode cX7_moves 100 = .ok (.iload 6, 2) := by decide +kernel
theorem dX7_moves_102 : decode cX7_moves 102 = .ok (.iaload, 1) := by decide +kernel
theorem dX7_moves_103 : decode cX7_moves 103 = .ok (.iload 8, 2) := by decide +kernel
theorem dX7_moves_105 : decode cX7_moves 105 = .ok (.iload 7, 2) := by decide +kernel
theorem dX7_moves_107 : decode cX7_moves 107 = .ok (.invokevirtual 105, 3) := by decide +kernel
theorem dX7_moves_110 : decode cX7_moves 110 = .ok (.iadd, 1) := by decide +kernel
theorem dX7_moves_111 : decode cX7_moves 111 = .ok (.istore 9, 2) := by decide +kernel
theorem dX7_moves_113 : decode cX7_moves 113 = .ok (.iconst 2, 1) := by decide +kernel
theorem dX7_moves_114 : decode cX7_moves 114 = .ok (.aload_n 0, 1) := by decide +kernel
theorem dX7_moves_115 : decode cX7_moves 115 = .ok (.getfield 19, 3) := by decide +kernel
theorem dX7_moves_118 : decode cX7_moves 118 = .ok (.iload 7, 2) := by decide +kernel
theorem dX7_moves_120 : decode cX7_moves 120 = .ok (.iaload, 1) := by decide +kernel
theorem dX7_moves_121 : decode cX7_moves 121 = .ok (.aload_n 0, 1) := by decide +kernel
theorem dX7_moves_122 : decode cX7_moves 122 = .ok (.getfield 19, 3) := by decide +kernel
theorem dX7_moves_125 : decode cX7_moves 125 = .ok (.iload 8, 2) := by decide +kernel
theorem dX7_moves_127 : decode cX7_moves 127 = .ok (.iaload, 1) := by decide +kernel
theorem dX7_moves_128 : decode cX7_moves 128 = .ok (.isub, 1) := by decide +kernel
theorem dX7_moves_129 : decode cX7_moves 129 = .ok (.imul, 1) := by decide +kernel
theorem dX7_moves_130 : decode cX7_moves 130 = .ok (.iconst 2, 1) := by decide +kernel
theorem dX7_moves_131 : decode cX7_moves 131 = .ok (.iadd, 1) := by decide +kernel
theorem dX7_moves_132 : decode cX7_moves 132 = .ok (.istore 10, 2) := by decide +kernel
theorem dX7_moves_134 : decode cX7_moves 134 = .ok (.iload 9, 2) := by decide +kernel
theorem dX7_moves_136 : decode cX7_moves 136 = .ok (.ifCond .lt 13, 3) := by decide +kernel
theorem dX7_moves_139 : decode cX7_moves 139 = .ok (.iload 9, 2) := by decide +kernel
theorem dX7_moves_141 : decode cX7_moves 141 = .ok (.ifCond .ne 12, 3) := by decide +kernel
theorem dX7_moves_144 : decode cX7_moves 144 = .ok (.iload 10, 2) := by decide +kernel
theorem dX7_moves_146 : decode cX7_moves 146 = .ok (.ifCond .ge 7, 3) := by decide +kernel
theorem dX7_moves_149 : decode cX7_moves 149 = .ok (.iconst 1, 1) := by decide +kernel
theorem dX7_moves_150 : decode cX7_moves 150 = .ok (.goto 4, 3) := by decide +kernel
theorem dX7_moves_153 : decode cX7_moves 153 = .ok (.iconst 0, 1) := by decide +kernel
theorem dX7_moves_154 : decode cX7_moves 154 = .ok (.istore 11, 2) := by decide +kernel
theorem dX7_moves_156 : decode cX7_moves 156 = .ok (.iload 11, 2) := by decide +kernel
theorem dX7_moves_158 : decode cX7_moves 158 = .ok (.ifCond .eq 46, 3) := by decide +kernel
theorem dX7_moves_161 : decode cX7_moves 161 = .ok (.iload_n 2, 1) := by decide +kernel
theorem dX7_moves_162 : decode cX7_moves 162 = .ok (.iconst (-1), 1) := by decide +kernel
theorem dX7_moves_163 : decode cX7_moves 163 = .ok (.if_icmp .eq 27, 3) := by decide +kernel
theorem dX7_moves_166 : decode cX7_moves 166 = .ok (.iload 9, 2) := by decide +kernel
theorem dX7_moves_168 : decode cX7_moves 168 = .ok (.iload 4, 2) := by decide +kernel
theorem dX7_moves_170 : decode cX7_moves 170 = .ok (.if_icmp .gt 34, 3) := by decide +kernel
theorem dX7_moves_173 : decode cX7_moves 173 = .ok (.iload 9, 2) := by decide +kernel
theorem dX7_moves_175 : decode cX7_moves 175 = .ok (.iload 4, 2) := by decide +kernel
theorem dX7_moves_177 : decode cX7_moves 177 = .ok (.if_icmp .ne 13, 3) := by decide +kernel
theorem dX7_moves_180 : decode cX7_moves 180 = .ok (.iload 10, 2) := by decide +kernel
theorem dX7_moves_182 : decode cX7_moves 182 = .ok (.iload 5, 2) := by decide +kernel
theorem dX7_moves_184 : decode cX7_moves 184 = .ok (.if_icmp .lt 6, 3) := by decide +kernel
theorem dX7_moves_187 : decode cX7_moves 187 = .ok (.goto 17, 3) := by decide +kernel
theorem dX7_moves_190 : decode cX7_moves 190 = .ok (.iload 6, 2) := by decide +kernel
theorem dX7_moves_192 : decode cX7_moves 192 = .ok (.istore_n 2, 1) := by decide +kernel
theorem dX7_moves_193 : decode cX7_moves 193 = .ok (.iload 7, 2) := by decide +kernel
theorem dX7_moves_195 : decode cX7_moves 195 = .ok (.istore_n 3, 1) := by decide +kernel
theorem dX7_moves_196 : decode cX7_moves 196 = .ok (.iload 9, 2) := by decide +kernel
theorem dX7_moves_198 : decode cX7_moves 198 = .ok (.istore 4, 2) := by decide +kernel
theorem dX7_moves_200 : decode cX7_moves 200 = .ok (.iload 10, 2) := by decide +kernel
theorem dX7_moves_202 : decode cX7_moves 202 = .ok (.istore 5, 2) := by decide +kernel
theorem dX7_moves_204 : decode cX7_moves 204 = .ok (.iinc 7 1, 3) := by decide +kernel
theorem dX7_moves_207 : decode cX7_moves 207 = .ok (.goto (-177), 3) := by decide +kernel
theorem dX7_moves_210 : decode cX7_moves 210 = .ok (.iinc 6 1, 3) := by decide +kernel
theorem dX7_moves_213 : decode cX7_moves 213 = .ok (.goto (-195), 3) := by decide +kernel
theorem dX7_moves_216 : decode cX7_moves 216 = .ok (.iload_n 2, 1) := by decide +kernel
theorem dX7_moves_217 : decode cX7_moves 217 = .ok (.iconst (-1), 1) := by decide +kernel
theorem dX7_moves_218 : decode cX7_moves 218 = .ok (.if_icmp .ne 5, 3) := by decide +kernel
theorem dX7_moves_221 : decode cX7_moves 221 = .ok (.iconst 0, 1) := by decide +kernel
theorem dX7_moves_222 : decode cX7_moves 222 = .ok (.ireturn, 1) := by decide +kernel
theorem dX7_moves_223 : decode cX7_moves 223 = .ok (.aload_n 0, 1) := by decide +kernel
theorem dX7_moves_224 : decode cX7_moves 224 = .ok (.iload_n 2, 1) := by decide +kernel
theorem dX7_moves_225 : decode cX7_moves 225 = .ok (.aload_n 0, 1) := by decide +kernel
theorem dX7_moves_226 : decode cX7_moves 226 = .ok (.getfield 16, 3) := by decide +kernel
theorem dX7_moves_229 : decode cX7_moves 229 = .ok (.iload_n 2, 1) := by decide +kernel
theorem dX7_moves_230 : decode cX7_moves 230 = .ok (.iaload, 1) := by decide +kernel
theorem dX7_moves_231 : decode cX7_moves 231 = .ok (.iconst (-1), 1) := by decide +kernel
theorem dX7_moves_232 : decode cX7_moves 232 = .ok (.invokevirtual 82, 3) := by decide +kernel
theorem dX7_moves_235 : decode cX7_moves 235 = .ok (.aload_n 0, 1) := by decide +kernel
theorem dX7_moves_236 : decode cX7_moves 236 = .ok (.iload_n 2, 1) := by decide +kernel
theorem dX7_moves_237 : decode cX7_moves 237 = .ok (.iload_n 3, 1) := by decide +kernel
theorem dX7_moves_238 : decode cX7_moves 238 = .ok (.iconst 1, 1) := by decide +kernel
theorem dX7_moves_239 : decode cX7_moves 239 = .ok (.invokevirtual 82, 3) := by decide +kernel
theorem dX7_moves_242 : decode cX7_moves 242 = .ok (.iconst 1, 1) := by decide +kernel
theorem dX7_moves_243 : decode cX7_moves 243 = .ok (.ireturn, 1) := by decide +kernel
set_option maxHeartbeats 4000000 in
set_option maxRecDepth 100000 in
theorem uX7_moves_210 (C : CX D [(cA, .int), (cZ, .boolean)] p s m args meth c A cX7_moves 12 RX7 (some .boolean)) (k18 : Int32 → Int32 → Int32 → Int32 → Int32 → Int32 → St → Rs) (h18 : ∀ (v1 v2 v3 v4 v5 v6 : Int32) (S : St), RU D (wM a cA cZ) p l e 3 s m args below meth c A 12 (QI D (wM a cA cZ) [(cA, .int), (cZ, .boolean)] A) (k18 v1 v2 v3 v4 v5 v6 S) 18 [] [(0, .ref (a 0)), (1, .int v1), (2, .int v2), (3, .int v3), (4, .int v4), (5, .int v5), (6, .int v6)] S) (v1 v2 v3 v4 v5 v6 : Int32) (S : St) : RU D (wM a cA cZ) p l e 3 s m args below meth c A 12 (QI D (wM a cA cZ) [(cA, .int), (cZ, .boolean)] A) (fX7_moves_210 k18 v1 v2 v3 v4 v5 v6 S) 210 [] [(0, .ref (a 0)), (1, .int v1), (2, .int v2), (3, .int v3), (4, .int v4), (5, .int v5), (6, .int v6)] S := by
  unfold fX7_moves_210
  refine R_iinc (v := v6 + 1) (lv' := [(6, .int (v6 + 1)), (0, .ref (a 0)), (1, .int v1), (2, .int v2), (3, .int v3), (4, .int v4), (5, .int v5)]) C dX7_moves_210 6 rfl rfl (by decide) rfl ?_
  refine R_goto (tgt := 18) C dX7_moves_213 (by decide) ?_
  refine R_sub [1, 2, 3, 4, 5, 6, 0] rfl ?_
  exact h18 v1 v2 v3 v4 v5 (v6 + 1) S
set_option maxHeartbeats 4000000 in
set_option maxRecDepth 100000 in
theorem uX7_moves_204 (C : CX D [(cA, .int), (cZ, .boolean)] p s m args meth c A cX7_moves 12 RX7 (some .boolean)) (k18 : Int32 → Int32 → Int32 → Int32 → Int32 → Int32 → St → Rs) (k30 : Int32 → Int32 → Int32 → Int32 → Int32 → Int32 → Int32 → St → Rs) (h18 : ∀ (v1 v2 v3 v4 v5 v6 : Int32) (S : St), RU D (wM a cA cZ) p l e 3 s m args below meth c A 12 (QI D (wM a cA cZ) [(cA, .int), (cZ, .boolean)] A) (k18 v1 v2 v3 v4 v5 v6 S) 18 [] [(0, .ref (a 0)), (1, .int v1), (2, .int v2), (3, .int v3), (4, .int v4), (5, .int v5), (6, .int v6)] S) (h30 : ∀ (v1 v2 v3 v4 v5 v6 v7 : Int32) (S : St), RU D (wM a cA cZ) p l e 3 s m args below meth c A 12 (QI D (wM a cA cZ) [(cA, .int), (cZ, .boolean)] A) (k30 v1 v2 v3 v4 v5 v6 v7 S) 30 [] [(0, .ref (a 0)), (1, .int v1), (2, .int v2), (3, .int v3), (4, .int v4), (5, .int v5), (6, .int v6), (7, .int v7)] S) (v1 v2 v3 v4 v5 v6 v7 : Int32) (S : St) : RU D (wM a cA cZ) p l e 3 s m args below meth c A 12 (QI D (wM a cA cZ) [(cA, .int), (cZ, .boolean)] A) (fX7_moves_204 k18 k30 v1 v2 v3 v4 v5 v6 v7 S) 204 [] [(0, .ref (a 0)), (1, .int v1), (2, .int v2), (3, .int v3), (4, .int v4), (5, .int v5), (6, .int v6), (7, .int v7)] S := by
  unfold fX7_moves_204
  refine R_iinc (v := v7 + 1) (lv' := [(7, .int (v7 + 1)), (0, .ref (a 0)), (1, .int v1), (2, .int v2), (3, .int v3), (4, .int v4), (5, .int v5), (6, .int v6)]) C dX7_moves_204 7 rfl rfl (by decide) rfl ?_
  refine R_goto (tgt := 30) C dX7_moves_207 (by decide) ?_
  refine R_sub [1, 2, 3, 4, 5, 6, 7, 0] rfl ?_
  exact h30 v1 v2 v3 v4 v5 v6 (v7 + 1) S
set_option maxHeartbeats 4000000 in
set_option maxRecDepth 100000 in
theorem uX7_moves_190 (C : CX D [(cA, .int), (cZ, .boolean)] p s m args meth c A cX7_moves 12 RX7 (some .boolean)) (k18 : Int32 → Int32 → Int32 → Int32 → Int32 → Int32 → St → Rs) (k30 : Int32 → Int32 → Int32 → Int32 → Int32 → Int32 → Int32 → St → Rs) (h18 : ∀ (v1 v2 v3 v4 v5 v6 : Int32) (S : St), RU D (wM a cA cZ) p l e 3 s m args below meth c A 12 (QI D (wM a cA cZ) [(cA, .int), (cZ, .boolean)] A) (k18 v1 v2 v3 v4 v5 v6 S) 18 [] [(0, .ref (a 0)), (1, .int v1), (2, .int v2), (3, .int v3), (4, .int v4), (5, .int v5), (6, .int v6)] S) (h30 : ∀ (v1 v2 v3 v4 v5 v6 v7 : Int32) (S : St), RU D (wM a cA cZ) p l e 3 s m args below meth c A 12 (QI D (wM a cA cZ) [(cA, .int), (cZ, .boolean)] A) (k30 v1 v2 v3 v4 v5 v6 v7 S) 30 [] [(0, .ref (a 0)), (1, .int v1), (2, .int v2), (3, .int v3), (4, .int v4), (5, .int v5), (6, .int v6), (7, .int v7)] S) (v1 v6 v7 v9 v10 : Int32) (S : St) : RU D (wM a cA cZ) p l e 3 s m args below meth c A 12 (QI D (wM a cA cZ) [(cA, .int), (cZ, .boolean)] A) (fX7_moves_190 k18 k30 v1 v6 v7 v9 v10 S) 190 [] [(0, .ref (a 0)), (1, .int v1), (6, .int v6), (7, .int v7), (9, .int v9), (10, .int v10)] S := by
  unfold fX7_moves_190
  refine R_iload C dX7_moves_190 2 rfl ?_
  refine R_istore_n (lv' := [(2, .int v6), (0, .ref (a 0)), (1, .int v1), (6, .int v6), (7, .int v7), (9, .int v9), (10, .int v10)]) C dX7_moves_192 rfl (by decide) rfl ?_
  refine R_iload C dX7_moves_193 4 rfl ?_
  refine R_istore_n (lv' := [(3, .int v7), (2, .int v6), (0, .ref (a 0)), (1, .int v1), (6, .int v6), (7, .int v7), (9, .int v9), (10, .int v10)]) C dX7_moves_195 rfl (by decide) rfl ?_
  refine R_iload C dX7_moves_196 6 rfl ?_
  refine R_istore (lv' := [(4, .int v9), (3, .int v7), (2, .int v6), (0, .ref (a 0)), (1, .int v1), (6, .int v6), (7, .int v7), (9, .int v9), (10, .int v10)]) C dX7_moves_198 (by decide) rfl ?_
  refine R_iload C dX7_moves_200 8 rfl ?_
  refine R_istore (lv' := [(5, .int v10), (4, .int v9), (3, .int v7), (2, .int v6), (0, .ref (a 0)), (1, .int v1), (6, .int v6), (7, .int v7), (9, .int v9), (10, .int v10)]) C dX7_moves_202 (by decide) rfl ?_
  refine R_sub [4, 5, 3, 2, 1, 0, 6, 7] rfl ?_
  exact uX7_moves_204 C k18 k30 h18 h30 v1 v6 v7 v9 v10 v6 v7 S
set_option maxHeartbeats 4000000 in
set_option maxRecDepth 100000 in
theorem uX7_moves_154 (C : CX D [(cA, .int), (cZ, .boolean)] p s m args meth c A cX7_moves 12 RX7 (some .boolean)) (k18 : Int32 → Int32 → Int32 → Int32 → Int32 → Int32 → St → Rs) (k30 : Int32 → Int32 → Int32 → Int32 → Int32 → Int32 → Int32 → St → Rs) (h18 : ∀ (v1 v2 v3 v4 v5 v6 : Int32) (S : St), RU D (wM a cA cZ) p l e 3 s m args below meth c A 12 (QI D (wM a cA cZ) [(cA, .int), (cZ, .boolean)] A) (k18 v1 v2 v3 v4 v5 v6 S) 18 [] [(0, .ref (a 0)), (1, .int v1), (2, .int v2), (3, .int v3), (4, .int v4), (5, .int v5), (6, .int v6)] S) (h30 : ∀ (v1 v2 v3 v4 v5 v6 v7 : Int32) (S : St), RU D (wM a cA cZ) p l e 3 s m args below meth c A 12 (QI D (wM a cA cZ) [(cA, .int), (cZ, .boolean)] A) (k30 v1 v2 v3 v4 v5 v6 v7 S) 30 [] [(0, .ref (a 0)), (1, .int v1), (2, .int v2), (3, .int v3), (4, .int v4), (5, .int v5), (6, .int v6), (7, .int v7)] S) (v1 v2 v3 v4 v5 v6 v7 v9 v10 t0 : Int32) (S : St) : RU D (wM a cA cZ) p l e 3 s m args below meth c A 12 (QI D (wM a cA cZ) [(cA, .int), (cZ, .boolean)] A) (fX7_moves_154 k18 k30 v1 v2 v3 v4 v5 v6 v7 v9 v10 t0 S) 154 [.int t0] [(0, .ref (a 0)), (1, .int v1), (2, .int v2), (3, .int v3), (4, .int v4), (5, .int v5), (6, .int v6), (7, .int v7), (9, .int v9), (10, .int v10)] S := by
  unfold fX7_moves_154
  refine R_istore (lv' := [(11, .int t0), (0, .ref (a 0)), (1, .int v1), (2, .int v2), (3, .int v3), (4, .int v4), (5, .int v5), (6, .int v6), (7, .int v7), (9, .int v9), (10, .int v10)]) C dX7_moves_154 (by decide) rfl ?_
  refine R_iload C dX7_moves_156 0 rfl ?_
  refine R_if_eq (tgt := 204) C dX7_moves_158 (by decide) ?_ ?_
  · refine R_sub [1, 2, 3, 4, 5, 6, 7, 8] rfl ?_
    exact uX7_moves_204 C k18 k30 h18 h30 v1 v2 v3 v4 v5 v6 v7 S
  · refine R_iload_n C dX7_moves_161 rfl 3 rfl ?_
    refine R_iconst (v := (-1 : Int32)) C dX7_moves_162 (by decide) ?_
    refine R_icmp_eq (tgt := 190) C dX7_moves_163 (by decide) ?_ ?_
    · refine R_sub [1, 2, 7, 8, 9, 10] rfl ?_
      exact uX7_moves_190 C k18 k30 h18 h30 v1 v6 v7 v9 v10 S
    · refine R_iload C dX7_moves_166 9 rfl ?_
      refine R_iload C dX7_moves_168 5 rfl ?_
      refine R_icmp_gt (tgt := 204) C dX7_moves_170 (by decide) ?_ ?_
      · refine R_sub [1, 2, 3, 4, 5, 6, 7, 8] rfl ?_
        exact uX7_moves_204 C k18 k30 h18 h30 v1 v2 v3 v4 v5 v6 v7 S
      · refine R_iload C dX7_moves_173 9 rfl ?_
        refine R_iload C dX7_moves_175 5 rfl ?_
        refine R_icmp_ne (tgt := 190) C dX7_moves_177 (by decide) ?_ ?_
        · refine R_iload C dX7_moves_180 10 rfl ?_
          refine R_iload C dX7_moves_182 6 rfl ?_
          refine R_icmp_lt (tgt := 190) C dX7_moves_184 (by decide) ?_ ?_
          · refine R_sub [1, 2, 7, 8, 9, 10] rfl ?_
            exact uX7_moves_190 C k18 k30 h18 h30 v1 v6 v7 v9 v10 S
          · refine R_goto (tgt := 204) C dX7_moves_187 (by decide) ?_
            refine R_sub [1, 2, 3, 4, 5, 6, 7, 8] rfl ?_
            exact uX7_moves_204 C k18 k30 h18 h30 v1 v2 v3 v4 v5 v6 v7 S
        · refine R_sub [1, 2, 7, 8, 9, 10] rfl ?_
          exact uX7_moves_190 C k18 k30 h18 h30 v1 v6 v7 v9 v10 S
set_option maxHeartbeats 4000000 in
set_option maxRecDepth 100000 in
theorem uX7_moves_149 (C : CX D [(cA, .int), (cZ, .boolean)] p s m args meth c A cX7_moves 12 RX7 (some .boolean)) (k18 : Int32 → Int32 → Int32 → Int32 → Int32 → Int32 → St → Rs) (k30 : Int32 → Int32 → Int32 → Int32 → Int32 → Int32 → Int32 → St → Rs) (h18 : ∀ (v1 v2 v3 v4 v5 v6 : Int32) (S : St), RU D (wM a cA cZ) p l e 3 s m args below meth c A 12 (QI D (wM a cA cZ) [(cA, .int), (cZ, .boolean)] A) (k18 v1 v2 v3 v4 v5 v6 S) 18 [] [(0, .ref (a 0)), (1, .int v1), (2, .int v2), (3, .int v3), (4, .int v4), (5, .int v5), (6, .int v6)] S) (h30 : ∀ (v1 v2 v3 v4 v5 v6 v7 : Int32) (S : St), RU D (wM a cA cZ) p l e 3 s m args below meth c A 12 (QI D (wM a cA cZ) [(cA, .int), (cZ, .boolean)] A) (k30 v1 v2 v3 v4 v5 v6 v7 S) 30 [] [(0, .ref (a 0)), (1, .int v1), (2, .int v2), (3, .int v3), (4, .int v4), (5, .int v5), (6, .int v6), (7, .int v7)] S) (v1 v2 v3 v4 v5 v6 v7 v9 v10 : Int32) (S : St) : RU D (wM a cA cZ) p l e 3 s m args below meth c A 12 (QI D (wM a cA cZ) [(cA, .int), (cZ, .boolean)] A) (fX7_moves_149 k18 k30 v1 v2 v3 v4 v5 v6 v7 v9 v10 S) 149 [] [(0, .ref (a 0)), (1, .int v1), (2, .int v2), (3, .int v3), (4, .int v4), (5, .int v5), (6, .int v6), (7, .int v7), (9, .int v9), (10, .int v10)] S := by
  unfold fX7_moves_149
  refine R_iconst (v := (1 : Int32)) C dX7_moves_149 (by decide) ?_
  refine R_goto (tgt := 154) C dX7_moves_150 (by decide) ?_
  exact uX7_moves_154 C k18 k30 h18 h30 v1 v2 v3 v4 v5 v6 v7 v9 v10 (1 : Int32) S
set_option maxHeartbeats 4000000 in
set_option maxRecDepth 100000 in
theorem uX7_moves_153 (C : CX D [(cA, .int), (cZ, .boolean)] p s m args meth c A cX7_moves 12 RX7 (some .boolean)) (k18 : Int32 → Int32 → Int32 → Int32 → Int32 → Int32 → St → Rs) (k30 : Int32 → Int32 → Int32 → Int32 → Int32 → Int32 → Int32 → St → Rs) (h18 : ∀ (v1 v2 v3 v4 v5 v6 : Int32) (S : St), RU D (wM a cA cZ) p l e 3 s m args below meth c A 12 (QI D (wM a cA cZ) [(cA, .int), (cZ, .boolean)] A) (k18 v1 v2 v3 v4 v5 v6 S) 18 [] [(0, .ref (a 0)), (1, .int v1), (2, .int v2), (3, .int v3), (4, .int v4), (5, .int v5), (6, .int v6)] S) (h30 : ∀ (v1 v2 v3 v4 v5 v6 v7 : Int32) (S : St), RU D (wM a cA cZ) p l e 3 s m args below meth c A 12 (QI D (wM a cA cZ) [(cA, .int), (cZ, .boolean)] A) (k30 v1 v2 v3 v4 v5 v6 v7 S) 30 [] [(0, .ref (a 0)), (1, .int v1), (2, .int v2), (3, .int v3), (4, .int v4), (5, .int v5), (6, .int v6), (7, .int v7)] S) (v1 v2 v3 v4 v5 v6 v7 v9 v10 : Int32) (S : St) : RU D (wM a cA cZ) p l e 3 s m args below meth c A 12 (QI D (wM a cA cZ) [(cA, .int), (cZ, .boolean)] A) (fX7_moves_153 k18 k30 v1 v2 v3 v4 v5 v6 v7 v9 v10 S) 153 [] [(0, .ref (a 0)), (1, .int v1), (2, .int v2), (3, .int v3), (4, .int v4), (5, .int v5), (6, .int v6), (7, .int v7), (9, .int v9), (10, .int v10)] S := by
  unfold fX7_moves_153
  refine R_iconst (v := (0 : Int32)) C dX7_moves_153 (by decide) ?_
  exact uX7_moves_154 C k18 k30 h18 h30 v1 v2 v3 v4 v5 v6 v7 v9 v10 (0 : Int32) S
set_option maxHeartbeats 4000000 in
set_option maxRecDepth 100000 in
theorem uX7_moves_30_b (C : CX D [(cA, .int), (cZ, .boolean)] p s m args meth c A cX7_moves 12 RX7 (some .boolean)) (k18 : Int32 → Int32 → Int32 → Int32 → Int32 → Int32 → St → Rs) (h18 : ∀ (v1 v2 v3 v4 v5 v6 : Int32) (S : St), RU D (wM a cA cZ) p l e 3 s m args below meth c A 12 (QI D (wM a cA cZ) [(cA, .int), (cZ, .boolean)] A) (k18 v1 v2 v3 v4 v5 v6 S) 18 [] [(0, .ref (a 0)), (1, .int v1), (2, .int v2), (3, .int v3), (4, .int v4), (5, .int v5), (6, .int v6)] S) (k30 : Int32 → Int32 → Int32 → Int32 → Int32 → Int32 → Int32 → St → Rs) (h30 : ∀ (v1 v2 v3 v4 v5 v6 v7 : Int32) (S : St), RU D (wM a cA cZ) p l e 3 s m args below meth c A 12 (QI D (wM a cA cZ) [(cA, .int), (cZ, .boolean)] A) (k30 v1 v2 v3 v4 v5 v6 v7 S) 30 [] [(0, .ref (a 0)), (1, .int v1), (2, .int v2), (3, .int v3), (4, .int v4), (5, .int v5), (6, .int v6), (7, .int v7)] S) (v1 v2 v3 v4 v5 v6 v7 : Int32) (S : St) : RU D (wM a cA cZ) p l e 3 s m args below meth c A 12 (QI D (wM a cA cZ) [(cA, .int), (cZ, .boolean)] A) (fX7_moves_30_b k18 k30 v1 v2 v3 v4 v5 v6 v7 S) 30 [] [(0, .ref (a 0)), (1, .int v1), (2, .int v2), (3, .int v3), (4, .int v4), (5, .int v5), (6, .int v6), (7, .int v7)] S := by
  unfold fX7_moves_30_b
  refine R_iload C dX7_moves_30 7 rfl ?_
  refine R_aload_n C dX7_moves_32 rfl 0 rfl ?_
  refine gtM_X7_hosts C wd_3_4 dX7_moves_33 ?_
  refine R_icmp_ge (tgt := 210) C dX7_moves_36 (by decide) ?_ ?_
  · refine R_sub [0, 1, 2, 3, 4, 5, 6] rfl ?_
    exact uX7_moves_210 C k18 h18 v1 v2 v3 v4 v5 v6 S
  · refine R_aload_n C dX7_moves_39 rfl 0 rfl ?_
    refine gtM_X7_hostOf C wd_3_8 dX7_moves_40 ?_
    refine R_iload C dX7_moves_43 6 rfl ?_
    refine ldM2 C dX7_moves_45 ?_
    refine R_iconst (v := (-1 : Int32)) C dX7_moves_46 (by decide) ?_
    refine R_icmp_eq (tgt := 210) C dX7_moves_47 (by decide) ?_ ?_
    · refine R_sub [0, 1, 2, 3, 4, 5, 6] rfl ?_
      exact uX7_moves_210 C k18 h18 v1 v2 v3 v4 v5 v6 S
    · refine R_aload_n C dX7_moves_50 rfl 0 rfl ?_
      refine gtM_X7_hostOf C wd_3_8 dX7_moves_51 ?_
      refine R_iload C dX7_moves_54 6 rfl ?_
      refine ldM2 C dX7_moves_56 ?_
      refine R_let (fun x1 => ?_)
      refine R_istore (lv' := [(8, .int x1), (0, .ref (a 0)), (1, .int v1), (2, .int v2), (3, .int v3), (4, .int v4), (5, .int v5), (6, .int v6), (7, .int v7)]) C dX7_moves_57 (by decide) rfl ?_
      refine R_iload C dX7_moves_59 8 rfl ?_
      refine R_iload C dX7_moves_61 0 rfl ?_
      refine R_icmp_eq (tgt := 204) C dX7_moves_63 (by decide) ?_ ?_
      · refine R_sub [1, 2, 3, 4, 5, 6, 7, 8] rfl ?_
        exact uX7_moves_204 C k18 k30 h18 h30 v1 v2 v3 v4 v5 v6 v7 S
      · refine R_aload_n C dX7_moves_66 rfl 1 rfl ?_
        refine gtM_X7_loads C wd_3_9 dX7_moves_67 ?_
        refine R_iload C dX7_moves_70 8 rfl ?_
        refine ldM3 C dX7_moves_72 ?_
        refine R_iload_n C dX7_moves_73 rfl 2 rfl ?_
        refine R_icmp_lt (tgt := 80) C dX7_moves_74 (by decide) ?_ ?_
        · refine R_aload_n C dX7_moves_80 rfl 1 rfl ?_
          refine R_aload_n C dX7_moves_81 rfl 1 rfl ?_
          refine gtM_X7_one C wd_3_6 dX7_moves_82 ?_
          refine R_iload C dX7_moves_85 7 rfl ?_
          refine ldM0 C dX7_moves_87 ?_
          refine R_iload C dX7_moves_88 0 rfl ?_
          refine R_iload C dX7_moves_90 8 rfl ?_
          refine R_calli (As := [.int (S.2 0 (ix v6)), .int x1, .int v7]) (st := []) C (kX7_change l D a cA cZ S (S.2 0 (ix v6)) x1 v7) (by decide) (by decide) wd_3_133 kwX7_change 0 rfl rfl rfl rfl (Nat.le_of_ble_eq_true rfl) dX7_moves_92 (fun r2 S3 => ?_)
          refine R_aload_n C dX7_moves_95 rfl 1 rfl ?_
          refine R_aload_n C dX7_moves_96 rfl 1 rfl ?_
          refine gtM_X7_other C wd_3_7 dX7_moves_97 ?_
          refine R_iload C dX7_moves_100 7 rfl ?_
          refine ldM1 C dX7_moves_102 ?_
          refine R_iload C dX7_moves_103 0 rfl ?_
          refine R_iload C dX7_moves_105 8 rfl ?_
          refine R_calli (As := [.int (S3.2 1 (ix v6)), .int x1, .int v7]) (st := [.int r2]) C (kX7_change l D a cA cZ S3 (S3.2 1 (ix v6)) x1 v7) (by decide) (by decide) wd_3_133 kwX7_change 0 rfl rfl rfl rfl (Nat.le_of_ble_eq_true rfl) dX7_moves_107 (fun r4 S5 => ?_)
          refine R_iadd C dX7_moves_110 ?_
          refine R_let (fun x6 => ?_)
          refine R_istore (lv' := [(9, .int x6), (8, .int x1), (0, .ref (a 0)), (1, .int v1), (2, .int v2), (3, .int v3), (4, .int v4), (5, .int v5), (6, .int v6), (7, .int v7)]) C dX7_moves_111 (by decide) rfl ?_
          refine R_iconst (v := (2 : Int32)) C dX7_moves_113 (by decide) ?_
          refine R_aload_n C dX7_moves_114 rfl 2 rfl ?_
          refine gtM_X7_loads C wd_3_9 dX7_moves_115 ?_
          refine R_iload C dX7_moves_118 9 rfl ?_
          refine ldM3 C dX7_moves_120 ?_
          refine R_aload_n C dX7_moves_121 rfl 2 rfl ?_
          refine gtM_X7_loads C wd_3_9 dX7_moves_122 ?_
          refine R_iload C dX7_moves_125 1 rfl ?_
          refine ldM3 C dX7_moves_127 ?_
          refine R_isub C dX7_moves_128 ?_
          refine R_imul C dX7_moves_129 ?_
          refine R_iconst (v := (2 : Int32)) C dX7_moves_130 (by decide) ?_
          refine R_iadd C dX7_moves_131 ?_
          refine R_let (fun x7 => ?_)
          refine R_istore (lv' := [(10, .int x7), (9, .int x6), (8, .int x1), (0, .ref (a 0)), (1, .int v1), (2, .int v2), (3, .int v3), (4, .int v4), (5, .int v5), (6, .int v6), (7, .int v7)]) C dX7_moves_132 (by decide) rfl ?_
          refine R_iload C dX7_moves_134 1 rfl ?_
          refine R_if_lt (tgt := 149) C dX7_moves_136 (by decide) ?_ ?_
          · refine R_sub [3, 4, 5, 6, 7, 8, 9, 10, 1, 0] rfl ?_
            exact uX7_moves_149 C k18 k30 h18 h30 v1 v2 v3 v4 v5 v6 v7 x6 x7 S5
          · refine R_iload C dX7_moves_139 1 rfl ?_
            refine R_if_ne (tgt := 153) C dX7_moves_141 (by decide) ?_ ?_
            · refine R_iload C dX7_moves_144 0 rfl ?_
              refine R_if_ge (tgt := 153) C dX7_moves_146 (by decide) ?_ ?_
              · refine R_sub [3, 4, 5, 6, 7, 8, 9, 10, 1, 0] rfl ?_
                exact uX7_moves_153 C k18 k30 h18 h30 v1 v2 v3 v4 v5 v6 v7 x6 x7 S5
              · refine R_sub [3, 4, 5, 6, 7, 8, 9, 10, 1, 0] rfl ?_
                exact uX7_moves_149 C k18 k30 h18 h30 v1 v2 v3 v4 v5 v6 v7 x6 x7 S5
            · refine R_sub [3, 4, 5, 6, 7, 8, 9, 10, 1, 0] rfl ?_
              exact uX7_moves_153 C k18 k30 h18 h30 v1 v2 v3 v4 v5 v6 v7 x6 x7 S5
        · refine R_goto (tgt := 204) C dX7_moves_77 (by decide) ?_
          refine R_sub [1, 2, 3, 4, 5, 6, 7, 8] rfl ?_
          exact uX7_moves_204 C k18 k30 h18 h30 v1 v2 v3 v4 v5 v6 v7 S
set_option maxHeartbeats 4000000 in
set_option maxRecDepth 100000 in
theorem uX7_moves_30 (C : CX D [(cA, .int), (cZ, .boolean)] p s m args meth c A cX7_moves 12 RX7 (some .boolean)) (k18 : Int32 → Int32 → Int32 → Int32 → Int32 → Int32 → St → Rs) (h18 : ∀ (v1 v2 v3 v4 v5 v6 : Int32) (S : St), RU D (wM a cA cZ) p l e 3 s m args below meth c A 12 (QI D (wM a cA cZ) [(cA, .int), (cZ, .boolean)] A) (k18 v1 v2 v3 v4 v5 v6 S) 18 [] [(0, .ref (a 0)), (1, .int v1), (2, .int v2), (3, .int v3), (4, .int v4), (5, .int v5), (6, .int v6)] S) : ∀ (n : Nat) (v1 v2 v3 v4 v5 v6 v7 : Int32) (S : St), RU D (wM a cA cZ) p l e 3 s m args below meth c A 12 (QI D (wM a cA cZ) [(cA, .int), (cZ, .boolean)] A) (fX7_moves_30 k18 n v1 v2 v3 v4 v5 v6 v7 S) 30 [] [(0, .ref (a 0)), (1, .int v1), (2, .int v2), (3, .int v3), (4, .int v4), (5, .int v5), (6, .int v6), (7, .int v7)] S := by
  intro n
  induction n with
  | zero => intro v1 v2 v3 v4 v5 v6 v7 S; exact R_none
  | succ n ih => intro v1 v2 v3 v4 v5 v6 v7 S; exact uX7_moves_30_b C k18 h18 _ ih v1 v2 v3 v4 v5 v6 v7 S
set_option maxHeartbeats 4000000 in
set_option maxRecDepth 100000 in
theorem uX7_moves_18_b (C : CX D [(cA, .int), (cZ, .boolean)] p s m args meth c A cX7_moves 12 RX7 (some .boolean)) (k18 : Int32 → Int32 → Int32 → Int32 → Int32 → Int32 → St → Rs) (h18 : ∀ (v1 v2 v3 v4 v5 v6 : Int32) (S : St), RU D (wM a cA cZ) p l e 3 s m args below meth c A 12 (QI D (wM a cA cZ) [(cA, .int), (cZ, .boolean)] A) (k18 v1 v2 v3 v4 v5 v6 S) 18 [] [(0, .ref (a 0)), (1, .int v1), (2, .int v2), (3, .int v3), (4, .int v4), (5, .int v5), (6, .int v6)] S) (v1 v2 v3 v4 v5 v6 : Int32) (S : St) : RU D (wM a cA cZ) p l e 3 s m args below meth c A 12 (QI D (wM a cA cZ) [(cA, .int), (cZ, .boolean)] A) (fX7_moves_18_b k18 v1 v2 v3 v4 v5 v6 S) 18 [] [(0, .ref (a 0)), (1, .int v1), (2, .int v2), (3, .int v3), (4, .int v4), (5, .int v5), (6, .int v6)] S := by
  unfold fX7_moves_18_b
  refine R_iload C dX7_moves_18 6 rfl ?_
  refine R_aload_n C dX7_moves_20 rfl 0 rfl ?_
  refine gtM_X7_lines C wd_3_5 dX7_moves_21 ?_
  refine R_icmp_ge (tgt := 216) C dX7_moves_24 (by decide) ?_ ?_
  · refine R_iload_n C dX7_moves_216 rfl 2 rfl ?_
    refine R_iconst (v := (-1 : Int32)) C dX7_moves_217 (by decide) ?_
    refine R_icmp_ne (tgt := 223) C dX7_moves_218 (by decide) ?_ ?_
    · refine R_iconst (v := (0 : Int32)) C dX7_moves_221 (by decide) ?_
      exact R_retz C dX7_moves_222
    · refine R_aload_n C dX7_moves_223 rfl 0 rfl ?_
      refine R_iload_n C dX7_moves_224 rfl 2 rfl ?_
      refine R_aload_n C dX7_moves_225 rfl 0 rfl ?_
      refine gtM_X7_hostOf C wd_3_8 dX7_moves_226 ?_
      refine R_iload_n C dX7_moves_229 rfl 2 rfl ?_
      refine ldM2 C dX7_moves_230 ?_
      refine R_iconst (v := (-1 : Int32)) C dX7_moves_231 (by decide) ?_
      refine R_callv (As := [.int v2, .int (S.2 2 (ix v2)), .int (-1 : Int32)]) (st := []) C (kX7_puts l D a cA cZ S v2 (S.2 2 (ix v2)) (-1 : Int32)) (by decide) (by decide) wd_3_93 kwX7_puts 0 rfl rfl rfl rfl (Nat.le_of_ble_eq_true rfl) dX7_moves_232 (fun r1 S2 => ?_)
      refine R_aload_n C dX7_moves_235 rfl 0 rfl ?_
      refine R_iload_n C dX7_moves_236 rfl 2 rfl ?_
      refine R_iload_n C dX7_moves_237 rfl 3 rfl ?_
      refine R_iconst (v := (1 : Int32)) C dX7_moves_238 (by decide) ?_
      refine R_callv (As := [.int v2, .int v3, .int (1 : Int32)]) (st := []) C (kX7_puts l D a cA cZ S2 v2 v3 (1 : Int32)) (by decide) (by decide) wd_3_93 kwX7_puts 0 rfl rfl rfl rfl (Nat.le_of_ble_eq_true rfl) dX7_moves_239 (fun r3 S4 => ?_)
      refine R_iconst (v := (1 : Int32)) C dX7_moves_242 (by decide) ?_
      exact R_retz C dX7_moves_243
  · refine R_iconst (v := (0 : Int32)) C dX7_moves_27 (by decide) ?_
    refine R_istore (lv' := [(7, .int (0 : Int32)), (0, .ref (a 0)), (1, .int v1), (2, .int v2), (3, .int v3), (4, .int v4), (5, .int v5), (6, .int v6)]) C dX7_moves_28 (by decide) rfl ?_
    refine R_sub [1, 2, 3, 4, 5, 6, 7, 0] rfl ?_
    exact uX7_moves_30 C k18 h18 FU v1 v2 v3 v4 v5 v6 (0 : Int32) S
set_option maxHeartbeats 4000000 in
set_option maxRecDepth 100000 in
theorem uX7_moves_18 (C : CX D [(cA, .int), (cZ, .boolean)] p s m args meth c A cX7_moves 12 RX7 (some .boolean)) : ∀ (n : Nat) (v1 v2 v3 v4 v5 v6 : Int32) (S : St), RU D (wM a cA cZ) p l e 3 s m args below meth c A 12 (QI D (wM a cA cZ) [(cA, .int), (cZ, .boolean)] A) (fX7_moves_18 n v1 v2 v3 v4 v5 v6 S) 18 [] [(0, .ref (a 0)), (1, .int v1), (2, .int v2), (3, .int v3), (4, .int v4), (5, .int v5), (6, .int v6)] S := by
  intro n
  induction n with
  | zero => intro v1 v2 v3 v4 v5 v6 S; exact R_none
  | succ n ih => intro v1 v2 v3 v4 v5 v6 S; exact uX7_moves_18_b C _ ih v1 v2 v3 v4 v5 v6 S
set_option maxHeartbeats 4000000 in
set_option maxRecDepth 100000 in
theorem uX7_moves (C : CX D [(cA, .int), (cZ, .boolean)] p s m args meth c A cX7_moves 12 RX7 (some .boolean)) (S : St) : RU D (wM a cA cZ) p l e 3 s m args below meth c A 12 (QI D (wM a cA cZ) [(cA, .int), (cZ, .boolean)] A) (fX7_moves S) 0 [] [(0, .ref (a 0))] S := by
  unfold fX7_moves
  refine R_aload_n C dX7_moves_0 rfl 0 rfl ?_
  refine R_calli (As := []) (st := []) C (kX7_room l D a cA cZ S) (by decide) (by decide) wd_3_129 kwX7_room 0 rfl rfl rfl rfl (Nat.le_of_ble_eq_true rfl) dX7_moves_1 (fun r1 S2 => ?_)
  refine R_istore_n (lv' := [(1, .int r1), (0, .ref (a 0))]) C dX7_moves_4 rfl (by decide) rfl ?_
  refine R_iconst (v := (-1 : Int32)) C dX7_moves_5 (by decide) ?_
  refine R_istore_n (lv' := [(2, .int (-1 : Int32)), (1, .int r1), (0, .ref (a 0))]) C dX7_moves_6 rfl (by decide) rfl ?_
  refine R_iconst (v := (0 : Int32)) C dX7_moves_7 (by decide) ?_
  refine R_istore_n (lv' := [(3, .int (0 : Int32)), (2, .int (-1 : Int32)), (1, .int r1), (0, .ref (a 0))]) C dX7_moves_8 rfl (by decide) rfl ?_
  refine R_iconst (v := (0 : Int32)) C dX7_moves_9 (by decide) ?_
  refine R_istore (lv' := [(4, .int (0 : Int32)), (3, .int (0 : Int32)), (2, .int (-1 : Int32)), (1, .int r1), (0, .ref (a 0))]) C dX7_moves_10 (by decide) rfl ?_
  refine R_iconst (v := (0 : Int32)) C dX7_moves_12 (by decide) ?_
  refine R_istore (lv' := [(5, .int (0 : Int32)), (4, .int (0 : Int32)), (3, .int (0 : Int32)), (2, .int (-1 : Int32)), (1, .int r1), (0, .ref (a 0))]) C dX7_moves_13 (by decide) rfl ?_
  refine R_iconst (v := (0 : Int32)) C dX7_moves_15 (by decide) ?_
  refine R_istore (lv' := [(6, .int (0 : Int32)), (5, .int (0 : Int32)), (4, .int (0 : Int32)), (3, .int (0 : Int32)), (2, .int (-1 : Int32)), (1, .int r1), (0, .ref (a 0))]) C dX7_moves_16 (by decide) rfl ?_
  refine R_sub [6, 5, 4, 3, 2, 1, 0] rfl ?_
  exact uX7_moves_18 C FU r1 (-1 : Int32) (0 : Int32) (0 : Int32) (0 : Int32) (0 : Int32) S2
set_option maxHeartbeats 4000000 in
set_option maxRecDepth 100000 in
theorem kX7_moves (l : Launch) (D : va_G) (a : Nat → Nat) (cA cZ : ClassId) (S : St) : CI l D (wM a cA cZ) [(cA, .int), (cZ, .boolean)] yX7_moves (.code yX7_moves cX7_moves 12 (some .boolean)) 3 [.ref (a 0)] (fX7_moves S) S := CI_of rfl (Nat.le_of_ble_eq_true rfl) (fun p e s m args below meth c A C => uX7_moves C S)
theorem dX7_better_0 : decode cX7_better 0 = .ok (.iload_n 1, 1) := by decide +kernel
theorem dX7_better_1 : decode cX7_better 1 = .ok (.iconst 0, 1) := by decide +kernel
theorem dX7_better_2 : decode cX7_better 2 = .ok (.bipush 50, 2) := by decide +kernel
theorem dX7_better_4 : decode cX7_better 4 = .ok (.invokestatic 57, 3) := by decide +kernel
theorem dX7_better_7 : decode cX7_better 7 = .ok (.ifCond .ne 5, 3) := by decide +kernel
theorem dX7_better_10 : decode cX7_better 10 = .ok (.iconst (-1), 1) := by decide +kernel
theorem dX7_better_11 : decode cX7_better 11 = .ok (.ireturn, 1) := by decide +kernel
theorem dX7_better_12 : decode cX7_better 12 = .ok (.iconst 0, 1) := by decide +kernel
theorem dX7_better_13 : decode cX7_better 13 = .ok (.istore_n 2, 1) := by decide +kernel
theorem dX7_better_14 : decode cX7_better 14 = .ok (.iload_n 2, 1) := by decide +kernel
theorem dX7_better_15 : decode cX7_better 15 = .ok (.iload_n 1, 1) := by decide +kernel
theorem dX7_better_16 : decode cX7_better 16 = .ok (.if_icmp .ge 16, 3) := by decide +kernel
theorem dX7_better_19 : decode cX7_better 19 = .ok (.aload_n 0, 1) := by decide +kernel
theorem dX7_better_20 : decode cX7_better 20 = .ok (.invokevirtual 108, 3) := by decide +kernel
theorem dX7_better_23 : decode cX7_better 23 = .ok (.ifCond .eq 9, 3) := by decide +kernel
theorem dX7_better_26 : decode cX7_better 26 = .ok (.iinc 2 1, 3) := by decide +kernel
theorem dX7_better_29 : decode cX7_better 29 = .ok (.goto (-15), 3) := by decide +kernel
theorem dX7_better_32 : decode cX7_better 32 = .ok (.aload_n 0, 1) := by decide +kernel
theorem dX7_better_33 : decode cX7_better 33 = .ok (.dup, 1) := by decide +kernel
theorem dX7_better_34 : decode cX7_better 34 = .ok (.getfield 112, 3) := by decide +kernel
theorem dX7_better_37 : decode cX7_better 37 = .ok (.iload_n 2, 1) := by decide +kernel
theorem dX7_better_38 : decode cX7_better 38 = .ok (.iadd, 1) := by decide +kernel
theorem dX7_better_39 : decode cX7_better 39 = .ok (.putfield 112, 3) := by decide +kernel
theorem dX7_better_42 : decode cX7_better 42 = .ok (.iload_n 2, 1) := by decide +kernel
theorem dX7_better_43 : decode cX7_better 43 = .ok (.ireturn, 1) := by decide +kernel
set_option maxHeartbeats 4000000 in
set_option maxRecDepth 100000 in
theorem uX7_better_32 (C : CX D [(cA, .int), (cZ, .boolean)] p s m args meth c A cX7_better 3 RX7 (some .int)) (v2 : Int32) (S : St) : RU D (wM a cA cZ) p l e 4 s m args below meth c A 3 (QI D (wM a cA cZ) [(cA, .int), (cZ, .boolean)] A) (fX7_better_32 v2 S) 32 [] [(0, .ref (a 0)), (2, .int v2)] S := by
  unfold fX7_better_32
  refine R_aload_n C dX7_better_32 rfl 0 rfl ?_
  refine R_dup C dX7_better_33 rfl ?_
  refine gtM_X7_moves C wd_3_16 dX7_better_34 ?_
  refine R_iload_n C dX7_better_37 rfl 1 rfl ?_
  refine R_iadd C dX7_better_38 ?_
  refine ptM_X7_moves C wd_3_16 dX7_better_39 ?_
  refine R_letS (fun S1 => ?_)
  refine R_iload_n C dX7_better_42 rfl 1 rfl ?_
  exact R_reti C dX7_better_43
set_option maxHeartbeats 4000000 in
set_option maxRecDepth 100000 in
theorem uX7_better_14_b (C : CX D [(cA, .int), (cZ, .boolean)] p s m args meth c A cX7_better 3 RX7 (some .int)) (k14 : Int32 → Int32 → St → Rs) (h14 : ∀ (v1 v2 : Int32) (S : St), RU D (wM a cA cZ) p l e 4 s m args below meth c A 3 (QI D (wM a cA cZ) [(cA, .int), (cZ, .boolean)] A) (k14 v1 v2 S) 14 [] [(0, .ref (a 0)), (1, .int v1), (2, .int v2)] S) (v1 v2 : Int32) (S : St) : RU D (wM a cA cZ) p l e 4 s m args below meth c A 3 (QI D (wM a cA cZ) [(cA, .int), (cZ, .boolean)] A) (fX7_better_14_b k14 v1 v2 S) 14 [] [(0, .ref (a 0)), (1, .int v1), (2, .int v2)] S := by
  unfold fX7_better_14_b
  refine R_iload_n C dX7_better_14 rfl 2 rfl ?_
  refine R_iload_n C dX7_better_15 rfl 1 rfl ?_
  refine R_icmp_ge (tgt := 32) C dX7_better_16 (by decide) ?_ ?_
  · refine R_sub [0, 2] rfl ?_
    exact uX7_better_32 C v2 S
  · refine R_aload_n C dX7_better_19 rfl 0 rfl ?_
    refine R_calli (As := []) (st := []) C (kX7_moves l D a cA cZ S) (by decide) (by decide) wd_3_125 kwX7_moves 0 rfl rfl rfl rfl (Nat.le_of_ble_eq_true rfl) dX7_better_20 (fun r1 S2 => ?_)
    refine R_if_eq (tgt := 32) C dX7_better_23 (by decide) ?_ ?_
    · refine R_sub [0, 2] rfl ?_
      exact uX7_better_32 C v2 S2
    · refine R_iinc (v := v2 + 1) (lv' := [(2, .int (v2 + 1)), (0, .ref (a 0)), (1, .int v1)]) C dX7_better_26 2 rfl rfl (by decide) rfl ?_
      refine R_goto (tgt := 14) C dX7_better_29 (by decide) ?_
      refine R_sub [1, 2, 0] rfl ?_
      exact h14 v1 (v2 + 1) S2
set_option maxHeartbeats 4000000 in
set_option maxRecDepth 100000 in
theorem uX7_better_14 (C : CX D [(cA, .int), (cZ, .boolean)] p s m args meth c A cX7_better 3 RX7 (some .int)) : ∀ (n : Nat) (v1 v2 : Int32) (S : St), RU D (wM a cA cZ) p l e 4 s m args below meth c A 3 (QI D (wM a cA cZ) [(cA, .int), (cZ, .boolean)] A) (fX7_better_14 n v1 v2 S) 14 [] [(0, .ref (a 0)), (1, .int v1), (2, .int v2)] S := by
  intro n
  induction n with
  | zero => intro v1 v2 S; exact R_none
  | succ n ih => intro v1 v2 S; exact uX7_better_14_b C _ ih v1 v2 S
set_option maxHeartbeats 4000000 in
set_option maxRecDepth 100000 in
theorem uX7_better (C : CX D [(cA, .int), (cZ, .boolean)] p s m args meth c A cX7_better 3 RX7 (some .int)) (v1 : Int32) (S : St) : RU D (wM a cA cZ) p l e 4 s m args below meth c A 3 (QI D (wM a cA cZ) [(cA, .int), (cZ, .boolean)] A) (fX7_better v1 S) 0 [] [(0, .ref (a 0)), (1, .int v1)] S := by
  unfold fX7_better
  refine R_iload_n C dX7_better_0 rfl 1 rfl ?_
  refine R_iconst (v := (0 : Int32)) C dX7_better_1 (by decide) ?_
  refine R_bipush (v := (50 : Int32)) C dX7_better_2 (by decide) ?_
  refine R_calls (As := [.int v1, .int (0 : Int32), .int (50 : Int32)]) (st := []) C (kX7_in l D a cA cZ S v1 (0 : Int32) (50 : Int32)) (by decide) (by decide) wd_3_70 kwX7_in rfl rfl (Nat.le_of_ble_eq_true rfl) dX7_better_4 (fun r1 S2 => ?_)
  refine R_if_ne (tgt := 12) C dX7_better_7 (by decide) ?_ ?_
  · refine R_iconst (v := (-1 : Int32)) C dX7_better_10 (by decide) ?_
    exact R_reti C dX7_better_11
  · refine R_iconst (v := (0 : Int32)) C dX7_better_12 (by decide) ?_
    refine R_istore_n (lv' := [(2, .int (0 : Int32)), (0, .ref (a 0)), (1, .int v1)]) C dX7_better_13 rfl (by decide) rfl ?_
    refine R_sub [1, 2, 0] rfl ?_
    exact uX7_better_14 C FU v1 (0 : Int32) S2
set_option maxHeartbeats 4000000 in
set_option maxRecDepth 100000 in
theorem kX7_better (l : Launch) (D : va_G) (a : Nat → Nat) (cA cZ : ClassId) (S : St) (v1 : Int32) : CI l D (wM a cA cZ) [(cA, .int), (cZ, .boolean)] yX7_better (.code yX7_better cX7_better 3 (some .int)) 4 [.ref (a 0), .int v1] (fX7_better v1 S) S := CI_of rfl (Nat.le_of_ble_eq_true rfl) (fun p e s m args below meth c A C => uX7_better C v1 S)
theorem dX7_more_0 : decode cX7_more 0 = .ok (.aload_n 0, 1) := by decide +kernel
theorem dX7_more_1 : decode cX7_more 1 = .ok (.getfield 54, 3) := by decide +kernel
theorem dX7_more_4 : decode cX7_more 4 = .ok (.bipush 8, 2) := by decide +kernel
theorem dX7_more_6 : decode cX7_more 6 = .ok (.if_icmp .ne 5, 3) := by decide +kernel
theorem dX7_more_9 : decode cX7_more 9 = .ok (.iconst (-1), 1) := by decide +kernel
theorem dX7_more_10 : decode cX7_more 10 = .ok (.ireturn, 1) := by decide +kernel
theorem dX7_more_11 : decode cX7_more 11 = .ok (.aload_n 0, 1) := by decide +kernel
theorem dX7_more_12 : decode cX7_more 12 = .ok (.dup, 1) := by decide +kernel
theorem dX7_more_13 : decode cX7_more 13 = .ok (.getfield 54, 3) := by decide +kernel
theorem dX7_more_16 : decode cX7_more 16 = .ok (.iconst 1, 1) := by decide +kernel
theorem dX7_more_17 : decode cX7_more 17 = .ok (.iadd, 1) := by decide +kernel
theorem dX7_more_18 : decode cX7_more 18 = .ok (.putfield 54, 3) := by decide +kernel
theorem dX7_more_21 : decode cX7_more 21 = .ok (.aload_n 0, 1) := by decide +kernel
theorem dX7_more_22 : decode cX7_more 22 = .ok (.getfield 54, 3) := by decide +kernel
theorem dX7_more_25 : decode cX7_more 25 = .ok (.ireturn, 1) := by decide +kernel
set_option maxHeartbeats 4000000 in
set_option maxRecDepth 100000 in
theorem uX7_more (C : CX D [(cA, .int), (cZ, .boolean)] p s m args meth c A cX7_more 1 RX7 (some .int)) (S : St) : RU D (wM a cA cZ) p l e 1 s m args below meth c A 1 (QI D (wM a cA cZ) [(cA, .int), (cZ, .boolean)] A) (fX7_more S) 0 [] [(0, .ref (a 0))] S := by
  unfold fX7_more
  refine R_aload_n C dX7_more_0 rfl 0 rfl ?_
  refine gtM_X7_hosts C wd_3_4 dX7_more_1 ?_
  refine R_bipush (v := (8 : Int32)) C dX7_more_4 (by decide) ?_
  refine R_icmp_ne (tgt := 11) C dX7_more_6 (by decide) ?_ ?_
  · refine R_iconst (v := (-1 : Int32)) C dX7_more_9 (by decide) ?_
    exact R_reti C dX7_more_10
  · refine R_aload_n C dX7_more_11 rfl 0 rfl ?_
    refine R_dup C dX7_more_12 rfl ?_
    refine gtM_X7_hosts C wd_3_4 dX7_more_13 ?_
    refine R_iconst (v := (1 : Int32)) C dX7_more_16 (by decide) ?_
    refine R_iadd C dX7_more_17 ?_
    refine ptM_X7_hosts C wd_3_4 dX7_more_18 ?_
    refine R_letS (fun S1 => ?_)
    refine R_aload_n C dX7_more_21 rfl 0 rfl ?_
    refine gtM_X7_hosts C wd_3_4 dX7_more_22 ?_
    exact R_reti C dX7_more_25
set_option maxHeartbeats 4000000 in
set_option maxRecDepth 100000 in
theorem kX7_more (l : Launch) (D : va_G) (a : Nat → Nat) (cA cZ : ClassId) (S : St) : CI l D (wM a cA cZ) [(cA, .int), (cZ, .boolean)] yX7_more (.code yX7_more cX7_more 1 (some .int)) 1 [.ref (a 0)] (fX7_more S) S := CI_of rfl (Nat.le_of_ble_eq_true rfl) (fun p e s m args below meth c A C => uX7_more C S)
theorem dX7_less_0 : decode cX7_less 0 = .ok (.iload_n 1, 1) := by decide +kernel
theorem dX7_less_1 : decode cX7_less 1 = .ok (.iconst 0, 1) := by decide +kernel
theorem dX7_less_2 : decode cX7_less 2 = .ok (.aload_n 0, 1) := by decide +kernel
theorem dX7_less_3 : decode cX7_less 3 = .ok (.getfield 54, 3) := by decide +kernel
theorem dX7_less_6 : decode cX7_less 6 = .ok (.iconst 1, 1) := by decide +kernel
theorem dX7_less_7 : decode cX7_less 7 = .ok (.isub, 1) := by decide +kernel
theorem dX7_less_8 : decode cX7_less 8 = .ok (.invokestatic 57, 3) := by decide +kernel
theorem dX7_less_11 : decode cX7_less 11 = .ok (.ifCond .eq 11, 3) := by decide +kernel
theorem dX7_less_14 : decode cX7_less 14 = .ok (.aload_n 0, 1) := by decide +kernel
theorem dX7_less_15 : decode cX7_less 15 = .ok (.getfield 54, 3) := by decide +kernel
theorem dX7_less_18 : decode cX7_less 18 = .ok (.iconst 2, 1) := by decide +kernel
theorem dX7_less_19 : decode cX7_less 19 = .ok (.if_icmp .ne 5, 3) := by decide +kernel
theorem dX7_less_22 : decode cX7_less 22 = .ok (.iconst (-1), 1) := by decide +kernel
theorem dX7_less_23 : decode cX7_less 23 = .ok (.ireturn, 1) := by decide +kernel
theorem dX7_less_24 : decode cX7_less 24 = .ok (.iconst 0, 1) := by decide +kernel
theorem dX7_less_25 : decode cX7_less 25 = .ok (.istore_n 2, 1) := by decide +kernel
theorem dX7_less_26 : decode cX7_less 26 = .ok (.iconst 0, 1) := by decide +kernel
theorem dX7_less_27 : decode cX7_less 27 = .ok (.istore_n 3, 1) := by decide +kernel
theorem dX7_less_28 : decode cX7_less 28 = .ok (.iload_n 3, 1) := by decide +kernel
theorem dX7_less_29 : decode cX7_less 29 = .ok (.aload_n 0, 1) := by decide +kernel
theorem dX7_less_30 : decode cX7_less 30 = .ok (.getfield 61, 3) := by decide +kernel
theorem dX7_less_33 : decode cX7_less 33 = .ok (.if_icmp .ge 52, 3) := by decide +kernel
theorem dX7_less_36 : decode cX7_less 36 = .ok (.aload_n 0, 1) := by decide +kernel
theorem dX7_less_37 : decode cX7_less 37 = .ok (.getfield 35, 3) := by decide +kernel
theorem dX7_less_40 : decode cX7_less 40 = .ok (.iload_n 3, 1) := by decide +kernel
theorem dX7_less_41 : decode cX7_less 41 = .ok (.aload_n 0, 1) := by decide +kernel
theorem dX7_less_42 : decode cX7_less 42 = .ok (.getfield 16, 3) := by decide +kernel
theorem dX7_less_45 : decode cX7_less 45 = .ok (.iload_n 3, 1) := by decide +kernel
theorem dX7_less_46 : decode cX7_less 46 = .ok (.iaload, 1) := by decide +kernel
theorem dX7_less_47 : decode cX7_less 47 = .ok (.iload_n 1, 1) := by decide +kernel
theorem dX7_less_48 : decode cX7_less 48 = .ok (.if_icmp .ne 7, 3) := by decide +kernel
theorem dX7_less_51 : decode cX7_less 51 = .ok (.iconst 1, 1) := by decide +kernel
theorem dX7_less_52 : decode cX7_less 52 = .ok (.goto 4, 3) := by decide +kernel
theorem dX7_less_55 : decode cX7_less 55 = .ok (.iconst 0, 1) := by decide +kernel
theorem dX7_less_56 : decode cX7_less 56 = .ok (.bastore, 1) := by decide +kernel
theorem dX7_less_57 : decode cX7_less 57 = .ok (.aload_n 0, 1) := by decide +kernel
theorem dX7_less_58 : decode cX7_less 58 = .ok (.getfield 35, 3) := by decide +kernel
theorem dX7_less_61 : decode cX7_less 61 = .ok (.iload_n 3, 1) := by decide +kernel
theorem dX7_less_62 : decode cX7_less 62 = .ok (.baload, 1) := by decide +kernel
theorem dX7_less_63 : decode cX7_less 63 = .ok (.ifCond .ne 6, 3) := by decide +kernel
theorem dX7_less_66 : decode cX7_less 66 = .ok (.goto 13, 3) := by decide +kernel
theorem dX7_less_69 : decode cX7_less 69 = .ok (.aload_n 0, 1) := by decide +kernel
theorem dX7_less_70 : decode cX7_less 70 = .ok (.iload_n 3, 1) := by decide +kernel
theorem dX7_less_71 : decode cX7_less 71 = .ok (.iload_n 1, 1) := by decide +kernel
theorem dX7_less_72 : decode cX7_less 72 = .ok (.iconst (-1), 1) := by decide +kernel
theorem dX7_less_73 : decode cX7_less 73 = .ok (.invokevirtual 82, 3) := by decide +kernel
theorem dX7_less_76 : decode cX7_less 76 = .ok (.iinc 2 1, 3) := by decide +kernel
theorem dX7_less_79 : decode cX7_less 79 = .ok (.iinc 3 1, 3) := by decide +kernel
theorem dX7_less_82 : decode cX7_less 82 = .ok (.goto (-54), 3) := by decide +kernel
theorem dX7_less_85 : decode cX7_less 85 = .ok (.iconst 0, 1) := by decide +kernel
theorem dX7_less_86 : decode cX7_less 86 = .ok (.istore_n 3, 1) := by decide +kernel
theorem dX7_less_87 : decode cX7_less 87 = .ok (.iload_n 3, 1) := by decide +kernel
theorem dX7_less_88 : decode cX7_less 88 = .ok (.aload_n 0, 1) := by decide +kernel
theorem dX7_less_89 : decode cX7_less 89 = .ok (.getfield 61, 3) := by decide +kernel
theorem dX7_less_92 : decode cX7_less 92 = .ok (.if_icmp .ge 29, 3) := by decide +kernel
theorem dX7_less_95 : decode cX7_less 95 = .ok (.aload_n 0, 1) := by decide +kernel
theorem dX7_less_96 : decode cX7_less 96 = .ok (.getfield 16, 3) := by decide +kernel
theorem dX7_less_99 : decode cX7_less 99 = .ok (.iload_n 3, 1) := by decide +kernel
theorem dX7_less_100 : decode cX7_less 100 = .ok (.iaload, 1) := by decide +kernel
theorem dX7_less_101 : decode cX7_less 101 = .ok (.iload_n 1, 1) := by decide +kernel
theorem dX7_less_102 : decode cX7_less 102 = .ok (.if_icmp .le 13, 3) := by decide +kernel
theorem dX7_less_105 : decode cX7_less 105 = .ok (.aload_n 0, 1) := by decide +kernel
theorem dX7_less_106 : decode cX7_less 106 = .ok (.getfield 16, 3) := by decide +kernel
theorem dX7_less_109 : decode cX7_less 109 = .ok (.iload_n 3, 1) := by decide +kernel
theorem dX7_less_110 : decode cX7_less 110 = .ok (.dup2, 1) := by decide +kernel
theorem dX7_less_111 : decode cX7_less 111 = .ok (.iaload, 1) := by decide +kernel
theorem dX7_less_112 : decode cX7_less 112 = .ok (.iconst 1, 1) := by decide +kernel
theorem dX7_less_113 : decode cX7_less 113 = .ok (.isub, 1) := by decide +kernel
theorem dX7_less_114 : decode cX7_less 114 = .ok (.iastore, 1) := by decide +kernel
theorem dX7_less_115 : decode cX7_less 115 = .ok (.iinc 3 1, 3) := by decide +kernel
theorem dX7_less_118 : decode cX7_less 118 = .ok (.goto (-31), 3) := by decide +kernel
theorem dX7_less_121 : decode cX7_less 121 = .ok (.iload_n 1, 1) := by decide +kernel
theorem dX7_less_122 : decode cX7_less 122 = .ok (.istore_n 3, 1) := by decide +kernel
theorem dX7_less_123 : decode cX7_less 123 = .ok (.iload_n 3, 1) := by decide +kernel
theorem dX7_less_124 : decode cX7_less 124 = .ok (.iconst 1, 1) := by decide +kernel
theorem dX7_less_125 : decode cX7_less 125 = .ok (.iadd, 1) := by decide +kernel
theorem dX7_less_126 : decode cX7_less 126 = .ok (.bipush 8, 2) := by decide +kernel
theorem dX7_less_128 : decode cX7_less 128 = .ok (.if_icmp .ge 65, 3) := by decide +kernel
theorem dX7_less_131 : decode cX7_less 131 = .ok (.aload_n 0, 1) := by decide +kernel
theorem dX7_less_132 : decode cX7_less 132 = .ok (.getfield 19, 3) := by decide +kernel
theorem dX7_less_135 : decode cX7_less 135 = .ok (.iload_n 3, 1) := by decide +kernel
theorem dX7_less_136 : decode cX7_less 136 = .ok (.aload_n 0, 1) := by decide +kernel
theorem dX7_less_137 : decode cX7_less 137 = .ok (.getfield 19, 3) := by decide +kernel
theorem dX7_less_140 : decode cX7_less 140 = .ok (.iload_n 3, 1) := by decide +kernel
theorem dX7_less_141 : decode cX7_less 141 = .ok (.iconst 1, 1) := by decide +kernel
theorem dX7_less_142 : decode cX7_less 142 = .ok (.iadd, 1) := by decide +kernel
theorem dX7_less_143 : decode cX7_less 143 = .ok (.iaload, 1) := by decide +kernel
theorem dX7_less_144 : decode cX7_less 144 = .ok (.iastore, 1) := by decide +kernel
theorem dX7_less_145 : decode cX7_less 145 = .ok (.iconst 0, 1) := by decide +kernel
theorem dX7_less_146 : decode cX7_less 146 = .ok (.istore 4, 2) := by decide +kernel
theorem dX7_less_148 : decode cX7_less 148 = .ok (.iload 4, 2) := by decide +kernel
theorem dX7_less_150 : decode cX7_less 150 = .ok (.bipush 40, 2) := by decide +kernel
theorem dX7_less_152 : decode cX7_less 152 = .ok (.if_icmp .ge 35, 3) := by decide +kernel
theorem dX7_less_155 : decode cX7_less 155 = .ok (.aload_n 0, 1) := by decide +kernel
theorem dX7_less_156 : decode cX7_less 156 = .ok (.getfield 22, 3) := by decide +kernel
theorem dX7_less_159 : decode cX7_less 159 = .ok (.bipush 8, 2) := by decide +kernel
theorem dX7_less_161 : decode cX7_less 161 = .ok (.iload 4, 2) := by decide +kernel
theorem dX7_less_163 : decode cX7_less 163 = .ok (.imul, 1) := by decide +kernel
theorem dX7_less_164 : decode cX7_less 164 = .ok (.iload_n 3, 1) := by decide +kernel
theorem dX7_less_165 : decode cX7_less 165 = .ok (.iadd, 1) := by decide +kernel
theorem dX7_less_166 : decode cX7_less 166 = .ok (.aload_n 0, 1) := by decide +kernel
theorem dX7_less_167 : decode cX7_less 167 = .ok (.getfield 22, 3) := by decide +kernel
theorem dX7_less_170 : decode cX7_less 170 = .ok (.bipush 8, 2) := by decide +kernel
theorem dX7_less_172 : decode cX7_less 172 = .ok (.iload 4, 2) := by decide +kernel
theorem dX7_less_174 : decode cX7_less 174 = .ok (.imul, 1) := by decide +kernel
theorem dX7_less_175 : decode cX7_less 175 = .ok (.iload_n 3, 1) := by decide +kernel
theorem dX7_less_176 : decode cX7_less 176 = .ok (.iadd, 1) := by decide +kernel
theorem dX7_less_177 : decode cX7_less 177 = .ok (.iconst 1, 1) := by decide +kernel
theorem dX7_less_178 : decode cX7_less 178 = .ok (.iadd, 1) := by decide +kernel
theorem dX7_less_179 : decode cX7_less 179 = .ok (.iaload, 1) := by decide +kernel
theorem dX7_less_180 : decode cX7_less 180 = .ok (.iastore, 1) := by decide +kernel
theorem dX7_less_181 : decode cX7_less 181 = .ok (.iinc 4 1, 3) := by decide +kernel
theorem dX7_less_184 : decode cX7_less 184 = .ok (.goto (-36), 3) := by decide +kernel
theorem dX7_less_187 : decode cX7_less 187 = .ok (.iinc 3 1, 3) := by decide +kernel
theorem dX7_less_190 : decode cX7_less 190 = .ok (.goto (-67), 3) := by decide +kernel
theorem dX7_less_193 : decode cX7_less 193 = .ok (.aload_n 0, 1) := by decide +kernel
theorem dX7_less_194 : decode cX7_less 194 = .ok (.getfield 19, 3) := by decide +kernel
theorem dX7_less_197 : decode cX7_less 197 = .ok (.bipush 7, 2) := by decide +kernel
theorem dX7_less_199 : decode cX7_less 199 = .ok (.iconst 0, 1) := by decide +kernel
theorem dX7_less_200 : decode cX7_less 200 = .ok (.iastore, 1) := by decide +kernel
theorem dX7_less_201 : decode cX7_less 201 = .ok (.iconst 0, 1) := by decide +kernel
theorem dX7_less_202 : decode cX7_less 202 = .ok (.istore_n 3, 1) := by decide +kernel
theorem dX7_less_203 : decode cX7_less 203 = .ok (.iload_n 3, 1) := by decide +kernel
theorem dX7_less_204 : decode cX7_less 204 = .ok (.bipush 40, 2) := by decide +kernel
theorem dX7_less_206 : decode cX7_less 206 = .ok (.if_icmp .ge 24, 3) := by decide +kernel
theorem dX7_less_209 : decode cX7_less 209 = .ok (.aload_n 0, 1) := by decide +kernel
theorem dX7_less_210 : decode cX7_less 210 = .ok (.getfield 22, 3) := by decide +kernel
theorem dX7_less_213 : decode cX7_less 213 = .ok (.bipush 8, 2) := by decide +kernel
theorem dX7_less_215 : decode cX7_less 215 = .ok (.iload_n 3, 1) := by decide +kernel
theorem dX7_less_216 : decode cX7_less 216 = .ok (.imul, 1) := by decide +kernel
theorem dX7_less_217 : decode cX7_less 217 = .ok (.bipush 8, 2) := by decide +kernel
theorem dX7_less_219 : decode cX7_less 219 = .ok (.iadd, 1) := by decide +kernel
theorem dX7_less_220 : decode cX7_less 220 = .ok (.iconst 1, 1) := by decide +kernel
theorem dX7_less_221 : decode cX7_less 221 = .ok (.isub, 1) := by decide +kernel
theorem dX7_less_222 : decode cX7_less 222 = .ok (.iconst 0, 1) := by decide +kernel
theorem dX7_less_223 : decode cX7_less 223 = .ok (.iastore, 1) := by decide +kernel
theorem dX7_less_224 : decode cX7_less 224 = .ok (.iinc 3 1, 3) := by decide +kernel
theorem dX7_less_227 : decode cX7_less 227 = .ok (.goto (-24), 3) := by decide +kernel
theorem dX7_less_230 : decode cX7_less 230 = .ok (.aload_n 0, 1) := by decide +kernel
theorem dX7_less_231 : decode cX7_less 231 = .ok (.dup, 1) := by decide +kernel
theorem dX7_less_232 : decode cX7_less 232 = .ok (.getfield 54, 3) := by decide +kernel
theorem dX7_less_235 : decode cX7_less 235 = .ok (.iconst 1, 1) := by decide +kernel
theorem dX7_less_236 : decode cX7_less 236 = .ok (.isub, 1) := by decide +kernel
theorem dX7_less_237 : decode cX7_less 237 = .ok (.putfield 54, 3) := by decide +kernel
theorem dX7_less_240 : decode cX7_less 240 = .ok (.iconst 0, 1) := by decide +kernel
theorem dX7_less_241 : decode cX7_less 241 = .ok (.istore_n 3, 1) := by decide +kernel
theorem dX7_less_242 : decode cX7_less 242 = .ok (.iload_n 3, 1) := by decide +kernel
theorem dX7_less_243 : decode cX7_less 243 = .ok (.aload_n 0, 1) := by decide +kernel
theorem dX7_less_244 : decode cX7_less 244 = .ok (.getfield 61, 3) := by decide +kernel
theorem dX7_less_247 : decode cX7_less 247 = .ok (.if_icmp .ge 24, 3) := by decide +kernel
theorem dX7_less_250 : decode cX7_less 250 = .ok (.aload_n 0, 1) := by decide +kernel
theorem dX7_less_251 : decode cX7_less 251 = .ok (.getfield 35, 3) := by decide +kernel
theorem dX7_less_254 : decode cX7_less 254 = .ok (.iload_n 3, 1) := by decide +kernel
theorem dX7_less_255 : decode cX7_less 255 = .ok (.baload, 1) := by decide +kernel
theorem dX7_less_256 : decode cX7_less 256 = .ok (.ifCond .eq 9, 3) := by decide +kernel
theorem dX7_less_259 : decode cX7_less 259 = .ok (.aload_n 0, 1) := by decide +kernel
theorem dX7_less_260 : decode cX7_less 260 = .ok (.iload_n 3, 1) := by decide +kernel
theorem dX7_less_261 : decode cX7_less 261 = .ok (.invokevirtual 90, 3) := by decide +kernel
theorem dX7_less_264 : decode cX7_less 264 = .ok (.pop, 1) := by decide +kernel
theorem dX7_less_265 : decode cX7_less 265 = .ok (.iinc 3 1, 3) := by decide +kernel
theorem dX7_less_268 : decode cX7_less 268 = .ok (.goto (-26), 3) := by decide +kernel
theorem dX7_less_271 : decode cX7_less 271 = .ok (.iload_n 2, 1) := by decide +kernel
theorem dX7_less_272 : decode cX7_less 272 = .ok (.ireturn, 1) := by decide +kernel
set_option maxHeartbeats 4000000 in
set_option maxRecDepth 100000 in
theorem uX7_less_22 (C : CX D [(cA, .int), (cZ, .boolean)] p s m args meth c A cX7_less 5 RX7 (some .int)) (S : St) : RU D (wM a cA cZ) p l e 6 s m args below meth c A 5 (QI D (wM a cA cZ) [(cA, .int), (cZ, .boolean)] A) (fX7_less_22 S) 22 [] [] S := by
  unfold fX7_less_22
  refine R_iconst (v := (-1 : Int32)) C dX7_less_22 (by decide) ?_
  exact R_reti C dX7_less_23
set_option maxHeartbeats 4000000 in
set_option maxRecDepth 100000 in
theorem uX7_less_265 (C : CX D [(cA, .int), (cZ, .boolean)] p s m args meth c A cX7_less 5 RX7 (some .int)) (k242 : Int32 → Int32 → St → Rs) (h242 : ∀ (v2 v3 : Int32) (S : St), RU D (wM a cA cZ) p l e 6 s m args below meth c A 5 (QI D (wM a cA cZ) [(cA, .int), (cZ, .boolean)] A) (k242 v2 v3 S) 242 [] [(0, .ref (a 0)), (2, .int v2), (3, .int v3)] S) (v2 v3 : Int32) (S : St) : RU D (wM a cA cZ) p l e 6 s m args below meth c A 5 (QI D (wM a cA cZ) [(cA, .int), (cZ, .boolean)] A) (fX7_less_265 k242 v2 v3 S) 265 [] [(0, .ref (a 0)), (2, .int v2), (3, .int v3)] S := by
  unfold fX7_less_265
  refine R_iinc (v := v3 + 1) (lv' := [(3, .int (v3 + 1)), (0, .ref (a 0)), (2, .int v2)]) C dX7_less_265 2 rfl rfl (by decide) rfl ?_
  refine R_goto (tgt := 242) C dX7_less_268 (by decide) ?_
  refine R_sub [1, 2, 0] rfl ?_
  exact h242 v2 (v3 + 1) S
set_option maxHeartbeats 4000000 in
set_option maxRecDepth 100000 in
theorem uX7_less_242_b (C : CX D [(cA, .int), (cZ, .boolean)] p s m args meth c A cX7_less 5 RX7 (some .int)) (k242 : Int32 → Int32 → St → Rs) (h242 : ∀ (v2 v3 : Int32) (S : St), RU D (wM a cA cZ) p l e 6 s m args below meth c A 5 (QI D (wM a cA cZ) [(cA, .int), (cZ, .boolean)] A) (k242 v2 v3 S) 242 [] [(0, .ref (a 0)), (2, .int v2), (3, .int v3)] S) (v2 v3 : Int32) (S : St) : RU D (wM a cA cZ) p l e 6 s m args below meth c A 5 (QI D (wM a cA cZ) [(cA, .int), (cZ, .boolean)] A) (fX7_less_242_b k242 v2 v3 S) 242 [] [(0, .ref (a 0)), (2, .int v2), (3, .int v3)] S := by
  unfold fX7_less_242_b
  refine R_iload_n C dX7_less_242 rfl 2 rfl ?_
  refine R_aload_n C dX7_less_243 rfl 0 rfl ?_
  refine gtM_X7_lines C wd_3_5 dX7_less_244 ?_
  refine R_icmp_ge (tgt := 271) C dX7_less_247 (by decide) ?_ ?_
  · refine R_iload_n C dX7_less_271 rfl 1 rfl ?_
    exact R_reti C dX7_less_272
  · refine R_aload_n C dX7_less_250 rfl 0 rfl ?_
    refine gtM_X7_isAnew C wd_3_17 dX7_less_251 ?_
    refine R_iload_n C dX7_less_254 rfl 2 rfl ?_
    refine ldM5 C dX7_less_255 ?_
    refine R_if_eq (tgt := 265) C dX7_less_256 (by decide) ?_ ?_
    · exact uX7_less_265 C k242 h242 v2 v3 S
    · refine R_aload_n C dX7_less_259 rfl 0 rfl ?_
      refine R_iload_n C dX7_less_260 rfl 2 rfl ?_
      refine R_calli (As := [.int v3]) (st := []) C (kX7_deals l D a cA cZ S v3) (by decide) (by decide) wd_3_73 kwX7_deals 0 rfl rfl rfl rfl (Nat.le_of_ble_eq_true rfl) dX7_less_261 (fun r1 S2 => ?_)
      refine R_pop C dX7_less_264 rfl ?_
      exact uX7_less_265 C k242 h242 v2 v3 S2
set_option maxHeartbeats 4000000 in
set_option maxRecDepth 100000 in
theorem uX7_less_242 (C : CX D [(cA, .int), (cZ, .boolean)] p s m args meth c A cX7_less 5 RX7 (some .int)) : ∀ (n : Nat) (v2 v3 : Int32) (S : St), RU D (wM a cA cZ) p l e 6 s m args below meth c A 5 (QI D (wM a cA cZ) [(cA, .int), (cZ, .boolean)] A) (fX7_less_242 n v2 v3 S) 242 [] [(0, .ref (a 0)), (2, .int v2), (3, .int v3)] S := by
  intro n
  induction n with
  | zero => intro v2 v3 S; exact R_none
  | succ n ih => intro v2 v3 S; exact uX7_less_242_b C _ ih v2 v3 S
set_option maxHeartbeats 4000000 in
set_option maxRecDepth 100000 in
theorem uX7_less_203_b (C : CX D [(cA, .int), (cZ, .boolean)] p s m args meth c A cX7_less 5 RX7 (some .int)) (k203 : Int32 → Int32 → St → Rs) (h203 : ∀ (v2 v3 : Int32) (S : St), RU D (wM a cA cZ) p l e 6 s m args below meth c A 5 (QI D (wM a cA cZ) [(cA, .int), (cZ, .boolean)] A) (k203 v2 v3 S) 203 [] [(0, .ref (a 0)), (2, .int v2), (3, .int v3)] S) (v2 v3 : Int32) (S : St) : RU D (wM a cA cZ) p l e 6 s m args below meth c A 5 (QI D (wM a cA cZ) [(cA, .int), (cZ, .boolean)] A) (fX7_less_203_b k203 v2 v3 S) 203 [] [(0, .ref (a 0)), (2, .int v2), (3, .int v3)] S := by
  unfold fX7_less_203_b
  refine R_iload_n C dX7_less_203 rfl 2 rfl ?_
  refine R_bipush (v := (40 : Int32)) C dX7_less_204 (by decide) ?_
  refine R_icmp_ge (tgt := 230) C dX7_less_206 (by decide) ?_ ?_
  · refine R_aload_n C dX7_less_230 rfl 0 rfl ?_
    refine R_dup C dX7_less_231 rfl ?_
    refine gtM_X7_hosts C wd_3_4 dX7_less_232 ?_
    refine R_iconst (v := (1 : Int32)) C dX7_less_235 (by decide) ?_
    refine R_isub C dX7_less_236 ?_
    refine ptM_X7_hosts C wd_3_4 dX7_less_237 ?_
    refine R_letS (fun S1 => ?_)
    refine R_iconst (v := (0 : Int32)) C dX7_less_240 (by decide) ?_
    refine R_istore_n (lv' := [(3, .int (0 : Int32)), (0, .ref (a 0)), (2, .int v2)]) C dX7_less_241 rfl (by decide) rfl ?_
    refine R_sub [1, 2, 0] rfl ?_
    exact uX7_less_242 C FU v2 (0 : Int32) S1
  · refine R_aload_n C dX7_less_209 rfl 0 rfl ?_
    refine gtM_X7_ends C wd_3_10 dX7_less_210 ?_
    refine R_bipush (v := (8 : Int32)) C dX7_less_213 (by decide) ?_
    refine R_iload_n C dX7_less_215 rfl 2 rfl ?_
    refine R_imul C dX7_less_216 ?_
    refine R_bipush (v := (8 : Int32)) C dX7_less_217 (by decide) ?_
    refine R_iadd C dX7_less_219 ?_
    refine R_iconst (v := (1 : Int32)) C dX7_less_220 (by decide) ?_
    refine R_isub C dX7_less_221 ?_
    refine R_iconst (v := (0 : Int32)) C dX7_less_222 (by decide) ?_
    refine svM4 C dX7_less_223 ?_
    refine R_letS (fun S2 => ?_)
    refine R_iinc (v := v3 + 1) (lv' := [(3, .int (v3 + 1)), (0, .ref (a 0)), (2, .int v2)]) C dX7_less_224 2 rfl rfl (by decide) rfl ?_
    refine R_goto (tgt := 203) C dX7_less_227 (by decide) ?_
    refine R_sub [1, 2, 0] rfl ?_
    exact h203 v2 (v3 + 1) S2
set_option maxHeartbeats 4000000 in
set_option maxRecDepth 100000 in
theorem uX7_less_203 (C : CX D [(cA, .int), (cZ, .boolean)] p s m args meth c A cX7_less 5 RX7 (some .int)) : ∀ (n : Nat) (v2 v3 : Int32) (S : St), RU D (wM a cA cZ) p l e 6 s m args below meth c A 5 (QI D (wM a cA cZ) [(cA, .int), (cZ, .boolean)] A) (fX7_less_203 n v2 v3 S) 203 [] [(0, .ref (a 0)), (2, .int v2), (3, .int v3)] S := by
  intro n
  induction n with
  | zero => intro v2 v3 S; exact R_none
  | succ n ih => intro v2 v3 S; exact uX7_less_203_b C _ ih v2 v3 S
set_option maxHeartbeats 4000000 in
set_option maxRecDepth 100000 in
theorem uX7_less_148_b (C : CX D [(cA, .int), (cZ, .boolean)] p s m args meth c A cX7_less 5 RX7 (some .int)) (k123 : Int32 → Int32 → St → Rs) (h123 : ∀ (v2 v3 : Int32) (S : St), RU D (wM a cA cZ) p l e 6 s m args below meth c A 5 (QI D (wM a cA cZ) [(cA, .int), (cZ, .boolean)] A) (k123 v2 v3 S) 123 [] [(0, .ref (a 0)), (2, .int v2), (3, .int v3)] S) (k148 : Int32 → Int32 → Int32 → St → Rs) (h148 : ∀ (v2 v3 v4 : Int32) (S : St), RU D (wM a cA cZ) p l e 6 s m args below meth c A 5 (QI D (wM a cA cZ) [(cA, .int), (cZ, .boolean)] A) (k148 v2 v3 v4 S) 148 [] [(0, .ref (a 0)), (2, .int v2), (3, .int v3), (4, .int v4)] S) (v2 v3 v4 : Int32) (S : St) : RU D (wM a cA cZ) p l e 6 s m args below meth c A 5 (QI D (wM a cA cZ) [(cA, .int), (cZ, .boolean)] A) (fX7_less_148_b k123 k148 v2 v3 v4 S) 148 [] [(0, .ref (a 0)), (2, .int v2), (3, .int v3), (4, .int v4)] S := by
  unfold fX7_less_148_b
  refine R_iload C dX7_less_148 3 rfl ?_
  refine R_bipush (v := (40 : Int32)) C dX7_less_150 (by decide) ?_
  refine R_icmp_ge (tgt := 187) C dX7_less_152 (by decide) ?_ ?_
  · refine R_iinc (v := v3 + 1) (lv' := [(3, .int (v3 + 1)), (0, .ref (a 0)), (2, .int v2), (4, .int v4)]) C dX7_less_187 2 rfl rfl (by decide) rfl ?_
    refine R_goto (tgt := 123) C dX7_less_190 (by decide) ?_
    refine R_sub [1, 2, 0] rfl ?_
    exact h123 v2 (v3 + 1) S
  · refine R_aload_n C dX7_less_155 rfl 0 rfl ?_
    refine gtM_X7_ends C wd_3_10 dX7_less_156 ?_
    refine R_bipush (v := (8 : Int32)) C dX7_less_159 (by decide) ?_
    refine R_iload C dX7_less_161 3 rfl ?_
    refine R_imul C dX7_less_163 ?_
    refine R_iload_n C dX7_less_164 rfl 2 rfl ?_
    refine R_iadd C dX7_less_165 ?_
    refine R_aload_n C dX7_less_166 rfl 0 rfl ?_
    refine gtM_X7_ends C wd_3_10 dX7_less_167 ?_
    refine R_bipush (v := (8 : Int32)) C dX7_less_170 (by decide) ?_
    refine R_iload C dX7_less_172 3 rfl ?_
    refine R_imul C dX7_less_174 ?_
    refine R_iload_n C dX7_less_175 rfl 2 rfl ?_
    refine R_iadd C dX7_less_176 ?_
    refine R_iconst (v := (1 : Int32)) C dX7_less_177 (by decide) ?_
    refine R_iadd C dX7_less_178 ?_
    refine ldM4 C dX7_less_179 ?_
    refine svM4 C dX7_less_180 ?_
    refine R_letS (fun S1 => ?_)
    refine R_iinc (v := v4 + 1) (lv' := [(4, .int (v4 + 1)), (0, .ref (a 0)), (2, .int v2), (3, .int v3)]) C dX7_less_181 3 rfl rfl (by decide) rfl ?_
    refine R_goto (tgt := 148) C dX7_less_184 (by decide) ?_
    refine R_sub [1, 2, 3, 0] rfl ?_
    exact h148 v2 v3 (v4 + 1) S1
set_option maxHeartbeats 4000000 in
set_option maxRecDepth 100000 in
theorem uX7_less_148 (C : CX D [(cA, .int), (cZ, .boolean)] p s m args meth c A cX7_less 5 RX7 (some .int)) (k123 : Int32 → Int32 → St → Rs) (h123 : ∀ (v2 v3 : Int32) (S : St), RU D (wM a cA cZ) p l e 6 s m args below meth c A 5 (QI D (wM a cA cZ) [(cA, .int), (cZ, .boolean)] A) (k123 v2 v3 S) 123 [] [(0, .ref (a 0)), (2, .int v2), (3, .int v3)] S) : ∀ (n : Nat) (v2 v3 v4 : Int32) (S : St), RU D (wM a cA cZ) p l e 6 s m args below meth c A 5 (QI D (wM a cA cZ) [(cA, .int), (cZ, .boolean)] A) (fX7_less_148 k123 n v2 v3 v4 S) 148 [] [(0, .ref (a 0)), (2, .int v2), (3, .int v3), (4, .int v4)] S := by
  intro n
  induction n with
  | zero => intro v2 v3 v4 S; exact R_none
  | succ n ih => intro v2 v3 v4 S; exact uX7_less_148_b C k123 h123 _ ih v2 v3 v4 S
set_option maxHeartbeats 4000000 in
set_option maxRecDepth 100000 in
theorem uX7_less_123_b (C : CX D [(cA, .int), (cZ, .boolean)] p s m args meth c A cX7_less 5 RX7 (some .int)) (k123 : Int32 → Int32 → St → Rs) (h123 : ∀ (v2 v3 : Int32) (S : St), RU D (wM a cA cZ) p l e 6 s m args below meth c A 5 (QI D (wM a cA cZ) [(cA, .int), (cZ, .boolean)] A) (k123 v2 v3 S) 123 [] [(0, .ref (a 0)), (2, .int v2), (3, .int v3)] S) (v2 v3 : Int32) (S : St) : RU D (wM a cA cZ) p l e 6 s m args below meth c A 5 (QI D (wM a cA cZ) [(cA, .int), (cZ, .boolean)] A) (fX7_less_123_b k123 v2 v3 S) 123 [] [(0, .ref (a 0)), (2, .int v2), (3, .int v3)] S := by
  unfold fX7_less_123_b
  refine R_iload_n C dX7_less_123 rfl 2 rfl ?_
  refine R_iconst (v := (1 : Int32)) C dX7_less_124 (by decide) ?_
  refine R_iadd C dX7_less_125 ?_
  refine R_bipush (v := (8 : Int32)) C dX7_less_126 (by decide) ?_
  refine R_icmp_ge (tgt := 193) C dX7_less_128 (by decide) ?_ ?_
  · refine R_aload_n C dX7_less_193 rfl 0 rfl ?_
    refine gtM_X7_loads C wd_3_9 dX7_less_194 ?_
    refine R_bipush (v := (7 : Int32)) C dX7_less_197 (by decide) ?_
    refine R_iconst (v := (0 : Int32)) C dX7_less_199 (by decide) ?_
    refine svM3 C dX7_less_200 ?_
    refine R_letS (fun S1 => ?_)
    refine R_iconst (v := (0 : Int32)) C dX7_less_201 (by decide) ?_
    refine R_istore_n (lv' := [(3, .int (0 : Int32)), (0, .ref (a 0)), (2, .int v2)]) C dX7_less_202 rfl (by decide) rfl ?_
    refine R_sub [1, 2, 0] rfl ?_
    exact uX7_less_203 C FU v2 (0 : Int32) S1
  · refine R_aload_n C dX7_less_131 rfl 0 rfl ?_
    refine gtM_X7_loads C wd_3_9 dX7_less_132 ?_
    refine R_iload_n C dX7_less_135 rfl 2 rfl ?_
    refine R_aload_n C dX7_less_136 rfl 0 rfl ?_
    refine gtM_X7_loads C wd_3_9 dX7_less_137 ?_
    refine R_iload_n C dX7_less_140 rfl 2 rfl ?_
    refine R_iconst (v := (1 : Int32)) C dX7_less_141 (by decide) ?_
    refine R_iadd C dX7_less_142 ?_
    refine ldM3 C dX7_less_143 ?_
    refine svM3 C dX7_less_144 ?_
    refine R_letS (fun S2 => ?_)
    refine R_iconst (v := (0 : Int32)) C dX7_less_145 (by decide) ?_
    refine R_istore (lv' := [(4, .int (0 : Int32)), (0, .ref (a 0)), (2, .int v2), (3, .int v3)]) C dX7_less_146 (by decide) rfl ?_
    refine R_sub [1, 2, 3, 0] rfl ?_
    exact uX7_less_148 C k123 h123 FU v2 v3 (0 : Int32) S2
set_option maxHeartbeats 4000000 in
set_option maxRecDepth 100000 in
theorem uX7_less_123 (C : CX D [(cA, .int), (cZ, .boolean)] p s m args meth c A cX7_less 5 RX7 (some .int)) : ∀ (n : Nat) (v2 v3 : Int32) (S : St), RU D (wM a cA cZ) p l e 6 s m args below meth c A 5 (QI D (wM a cA cZ) [(cA, .int), (cZ, .boolean)] A) (fX7_less_123 n v2 v3 S) 123 [] [(0, .ref (a 0)), (2, .int v2), (3, .int v3)] S := by
  intro n
  induction n with
  | zero => intro v2 v3 S; exact R_none
  | succ n ih => intro v2 v3 S; exact uX7_less_123_b C _ ih v2 v3 S
set_option maxHeartbeats 4000000 in
set_option maxRecDepth 100000 in
theorem uX7_less_115 (C : CX D [(cA, .int), (cZ, .boolean)] p s m args meth c A cX7_less 5 RX7 (some .int)) (k87 : Int32 → Int32 → Int32 → St → Rs) (h87 : ∀ (v1 v2 v3 : Int32) (S : St), RU D (wM a cA cZ) p l e 6 s m args below meth c A 5 (QI D (wM a cA cZ) [(cA, .int), (cZ, .boolean)] A) (k87 v1 v2 v3 S) 87 [] [(0, .ref (a 0)), (1, .int v1), (2, .int v2), (3, .int v3)] S) (v1 v2 v3 : Int32) (S : St) : RU D (wM a cA cZ) p l e 6 s m args below meth c A 5 (QI D (wM a cA cZ) [(cA, .int), (cZ, .boolean)] A) (fX7_less_115 k87 v1 v2 v3 S) 115 [] [(0, .ref (a 0)), (1, .int v1), (2, .int v2), (3, .int v3)] S := by
  unfold fX7_less_115
  refine R_iinc (v := v3 + 1) (lv' := [(3, .int (v3 + 1)), (0, .ref (a 0)), (1, .int v1), (2, .int v2)]) C dX7_less_115 3 rfl rfl (by decide) rfl ?_
  refine R_goto (tgt := 87) C dX7_less_118 (by decide) ?_
  refine R_sub [1, 2, 3, 0] rfl ?_
  exact h87 v1 v2 (v3 + 1) S
set_option maxHeartbeats 4000000 in
set_option maxRecDepth 100000 in
theorem uX7_less_87_b (C : CX D [(cA, .int), (cZ, .boolean)] p s m args meth c A cX7_less 5 RX7 (some .int)) (k87 : Int32 → Int32 → Int32 → St → Rs) (h87 : ∀ (v1 v2 v3 : Int32) (S : St), RU D (wM a cA cZ) p l e 6 s m args below meth c A 5 (QI D (wM a cA cZ) [(cA, .int), (cZ, .boolean)] A) (k87 v1 v2 v3 S) 87 [] [(0, .ref (a 0)), (1, .int v1), (2, .int v2), (3, .int v3)] S) (v1 v2 v3 : Int32) (S : St) : RU D (wM a cA cZ) p l e 6 s m args below meth c A 5 (QI D (wM a cA cZ) [(cA, .int), (cZ, .boolean)] A) (fX7_less_87_b k87 v1 v2 v3 S) 87 [] [(0, .ref (a 0)), (1, .int v1), (2, .int v2), (3, .int v3)] S := by
  unfold fX7_less_87_b
  refine R_iload_n C dX7_less_87 rfl 3 rfl ?_
  refine R_aload_n C dX7_less_88 rfl 0 rfl ?_
  refine gtM_X7_lines C wd_3_5 dX7_less_89 ?_
  refine R_icmp_ge (tgt := 121) C dX7_less_92 (by decide) ?_ ?_
  · refine R_iload_n C dX7_less_121 rfl 1 rfl ?_
    refine R_istore_n (lv' := [(3, .int v1), (0, .ref (a 0)), (1, .int v1), (2, .int v2)]) C dX7_less_122 rfl (by decide) rfl ?_
    refine R_sub [1, 3, 0] rfl ?_
    exact uX7_less_123 C FU v2 v1 S
  · refine R_aload_n C dX7_less_95 rfl 0 rfl ?_
    refine gtM_X7_hostOf C wd_3_8 dX7_less_96 ?_
    refine R_iload_n C dX7_less_99 rfl 3 rfl ?_
    refine ldM2 C dX7_less_100 ?_
    refine R_iload_n C dX7_less_101 rfl 1 rfl ?_
    refine R_icmp_le (tgt := 115) C dX7_less_102 (by decide) ?_ ?_
    · exact uX7_less_115 C k87 h87 v1 v2 v3 S
    · refine R_aload_n C dX7_less_105 rfl 0 rfl ?_
      refine gtM_X7_hostOf C wd_3_8 dX7_less_106 ?_
      refine R_iload_n C dX7_less_109 rfl 3 rfl ?_
      refine R_dup2 C dX7_less_110 rfl rfl ?_
      refine ldM2 C dX7_less_111 ?_
      refine R_iconst (v := (1 : Int32)) C dX7_less_112 (by decide) ?_
      refine R_isub C dX7_less_113 ?_
      refine svM2 C dX7_less_114 ?_
      refine R_letS (fun S1 => ?_)
      exact uX7_less_115 C k87 h87 v1 v2 v3 S1
set_option maxHeartbeats 4000000 in
set_option maxRecDepth 100000 in
theorem uX7_less_87 (C : CX D [(cA, .int), (cZ, .boolean)] p s m args meth c A cX7_less 5 RX7 (some .int)) : ∀ (n : Nat) (v1 v2 v3 : Int32) (S : St), RU D (wM a cA cZ) p l e 6 s m args below meth c A 5 (QI D (wM a cA cZ) [(cA, .int), (cZ, .boolean)] A) (fX7_less_87 n v1 v2 v3 S) 87 [] [(0, .ref (a 0)), (1, .int v1), (2, .int v2), (3, .int v3)] S := by
  intro n
  induction n with
  | zero => intro v1 v2 v3 S; exact R_none
  | succ n ih => intro v1 v2 v3 S; exact uX7_less_87_b C _ ih v1 v2 v3 S
set_option maxHeartbeats 4000000 in
set_option maxRecDepth 100000 in
theorem uX7_less_79 (C : CX D [(cA, .int), (cZ, .boolean)] p s m args meth c A cX7_less 5 RX7 (some .int)) (k28 : Int32 → Int32 → Int32 → St → Rs) (h28 : ∀ (v1 v2 v3 : Int32) (S : St), RU D (wM a cA cZ) p l e 6 s m args below meth c A 5 (QI D (wM a cA cZ) [(cA, .int), (cZ, .boolean)] A) (k28 v1 v2 v3 S) 28 [] [(0, .ref (a 0)), (1, .int v1), (2, .int v2), (3, .int v3)] S) (v1 v2 v3 : Int32) (S : St) : RU D (wM a cA cZ) p l e 6 s m args below meth c A 5 (QI D (wM a cA cZ) [(cA, .int), (cZ, .boolean)] A) (fX7_less_79 k28 v1 v2 v3 S) 79 [] [(0, .ref (a 0)), (1, .int v1), (2, .int v2), (3, .int v3)] S := by
  unfold fX7_less_79
  refine R_iinc (v := v3 + 1) (lv' := [(3, .int (v3 + 1)), (0, .ref (a 0)), (1, .int v1), (2, .int v2)]) C dX7_less_79 3 rfl rfl (by decide) rfl ?_
  refine R_goto (tgt := 28) C dX7_less_82 (by decide) ?_
  refine R_sub [1, 2, 3, 0] rfl ?_
  exact h28 v1 v2 (v3 + 1) S
set_option maxHeartbeats 4000000 in
set_option maxRecDepth 100000 in
theorem uX7_less_56 (C : CX D [(cA, .int), (cZ, .boolean)] p s m args meth c A cX7_less 5 RX7 (some .int)) (k28 : Int32 → Int32 → Int32 → St → Rs) (h28 : ∀ (v1 v2 v3 : Int32) (S : St), RU D (wM a cA cZ) p l e 6 s m args below meth c A 5 (QI D (wM a cA cZ) [(cA, .int), (cZ, .boolean)] A) (k28 v1 v2 v3 S) 28 [] [(0, .ref (a 0)), (1, .int v1), (2, .int v2), (3, .int v3)] S) (v1 v2 v3 t0 t1 : Int32) (S : St) : RU D (wM a cA cZ) p l e 6 s m args below meth c A 5 (QI D (wM a cA cZ) [(cA, .int), (cZ, .boolean)] A) (fX7_less_56 k28 v1 v2 v3 t0 t1 S) 56 [.int t0, .int t1, .ref (a 6)] [(0, .ref (a 0)), (1, .int v1), (2, .int v2), (3, .int v3)] S := by
  unfold fX7_less_56
  refine svM5 C dX7_less_56 ?_
  refine R_letS (fun S1 => ?_)
  refine R_aload_n C dX7_less_57 rfl 0 rfl ?_
  refine gtM_X7_isAnew C wd_3_17 dX7_less_58 ?_
  refine R_iload_n C dX7_less_61 rfl 3 rfl ?_
  refine ldM5 C dX7_less_62 ?_
  refine R_if_ne (tgt := 69) C dX7_less_63 (by decide) ?_ ?_
  · refine R_goto (tgt := 79) C dX7_less_66 (by decide) ?_
    exact uX7_less_79 C k28 h28 v1 v2 v3 S1
  · refine R_aload_n C dX7_less_69 rfl 0 rfl ?_
    refine R_iload_n C dX7_less_70 rfl 3 rfl ?_
    refine R_iload_n C dX7_less_71 rfl 1 rfl ?_
    refine R_iconst (v := (-1 : Int32)) C dX7_less_72 (by decide) ?_
    refine R_callv (As := [.int v3, .int v1, .int (-1 : Int32)]) (st := []) C (kX7_puts l D a cA cZ S1 v3 v1 (-1 : Int32)) (by decide) (by decide) wd_3_93 kwX7_puts 0 rfl rfl rfl rfl (Nat.le_of_ble_eq_true rfl) dX7_less_73 (fun r2 S3 => ?_)
    refine R_iinc (v := v2 + 1) (lv' := [(2, .int (v2 + 1)), (0, .ref (a 0)), (1, .int v1), (3, .int v3)]) C dX7_less_76 2 rfl rfl (by decide) rfl ?_
    refine R_sub [1, 2, 0, 3] rfl ?_
    exact uX7_less_79 C k28 h28 v1 (v2 + 1) v3 S3
set_option maxHeartbeats 4000000 in
set_option maxRecDepth 100000 in
theorem uX7_less_28_b (C : CX D [(cA, .int), (cZ, .boolean)] p s m args meth c A cX7_less 5 RX7 (some .int)) (k28 : Int32 → Int32 → Int32 → St → Rs) (h28 : ∀ (v1 v2 v3 : Int32) (S : St), RU D (wM a cA cZ) p l e 6 s m args below meth c A 5 (QI D (wM a cA cZ) [(cA, .int), (cZ, .boolean)] A) (k28 v1 v2 v3 S) 28 [] [(0, .ref (a 0)), (1, .int v1), (2, .int v2), (3, .int v3)] S) (v1 v2 v3 : Int32) (S : St) : RU D (wM a cA cZ) p l e 6 s m args below meth c A 5 (QI D (wM a cA cZ) [(cA, .int), (cZ, .boolean)] A) (fX7_less_28_b k28 v1 v2 v3 S) 28 [] [(0, .ref (a 0)), (1, .int v1), (2, .int v2), (3, .int v3)] S := by
  unfold fX7_less_28_b
  refine R_iload_n C dX7_less_28 rfl 3 rfl ?_
  refine R_aload_n C dX7_less_29 rfl 0 rfl ?_
  refine gtM_X7_lines C wd_3_5 dX7_less_30 ?_
  refine R_icmp_ge (tgt := 85) C dX7_less_33 (by decide) ?_ ?_
  · refine R_iconst (v := (0 : Int32)) C dX7_less_85 (by decide) ?_
    refine R_istore_n (lv' := [(3, .int (0 : Int32)), (0, .ref (a 0)), (1, .int v1), (2, .int v2)]) C dX7_less_86 rfl (by decide) rfl ?_
    refine R_sub [1, 2, 3, 0] rfl ?_
    exact uX7_less_87 C FU v1 v2 (0 : Int32) S
  · refine R_aload_n C dX7_less_36 rfl 0 rfl ?_
    refine gtM_X7_isAnew C wd_3_17 dX7_less_37 ?_
    refine R_iload_n C dX7_less_40 rfl 3 rfl ?_
    refine R_aload_n C dX7_less_41 rfl 0 rfl ?_
    refine gtM_X7_hostOf C wd_3_8 dX7_less_42 ?_
    refine R_iload_n C dX7_less_45 rfl 3 rfl ?_
    refine ldM2 C dX7_less_46 ?_
    refine R_iload_n C dX7_less_47 rfl 1 rfl ?_
    refine R_icmp_ne (tgt := 55) C dX7_less_48 (by decide) ?_ ?_
    · refine R_iconst (v := (1 : Int32)) C dX7_less_51 (by decide) ?_
      refine R_goto (tgt := 56) C dX7_less_52 (by decide) ?_
      exact uX7_less_56 C k28 h28 v1 v2 v3 (1 : Int32) v3 S
    · refine R_iconst (v := (0 : Int32)) C dX7_less_55 (by decide) ?_
      exact uX7_less_56 C k28 h28 v1 v2 v3 (0 : Int32) v3 S
set_option maxHeartbeats 4000000 in
set_option maxRecDepth 100000 in
theorem uX7_less_28 (C : CX D [(cA, .int), (cZ, .boolean)] p s m args meth c A cX7_less 5 RX7 (some .int)) : ∀ (n : Nat) (v1 v2 v3 : Int32) (S : St), RU D (wM a cA cZ) p l e 6 s m args below meth c A 5 (QI D (wM a cA cZ) [(cA, .int), (cZ, .boolean)] A) (fX7_less_28 n v1 v2 v3 S) 28 [] [(0, .ref (a 0)), (1, .int v1), (2, .int v2), (3, .int v3)] S := by
  intro n
  induction n with
  | zero => intro v1 v2 v3 S; exact R_none
  | succ n ih => intro v1 v2 v3 S; exact uX7_less_28_b C _ ih v1 v2 v3 S
set_option maxHeartbeats 4000000 in
set_option maxRecDepth 100000 in
theorem uX7_less (C : CX D [(cA, .int), (cZ, .boolean)] p s m args meth c A cX7_less 5 RX7 (some .int)) (v1 : Int32) (S : St) : RU D (wM a cA cZ) p l e 6 s m args below meth c A 5 (QI D (wM a cA cZ) [(cA, .int), (cZ, .boolean)] A) (fX7_less v1 S) 0 [] [(0, .ref (a 0)), (1, .int v1)] S := by
  unfold fX7_less
  refine R_iload_n C dX7_less_0 rfl 1 rfl ?_
  refine R_iconst (v := (0 : Int32)) C dX7_less_1 (by decide) ?_
  refine R_aload_n C dX7_less_2 rfl 0 rfl ?_
  refine gtM_X7_hosts C wd_3_4 dX7_less_3 ?_
  refine R_iconst (v := (1 : Int32)) C dX7_less_6 (by decide) ?_
  refine R_isub C dX7_less_7 ?_
  refine R_calls (As := [.int v1, .int (0 : Int32), .int ((S.1 0) - (1 : Int32))]) (st := []) C (kX7_in l D a cA cZ S v1 (0 : Int32) ((S.1 0) - (1 : Int32))) (by decide) (by decide) wd_3_70 kwX7_in rfl rfl (Nat.le_of_ble_eq_true rfl) dX7_less_8 (fun r1 S2 => ?_)
  refine R_if_eq (tgt := 22) C dX7_less_11 (by decide) ?_ ?_
  · refine R_sub [] rfl ?_
    exact uX7_less_22 C S2
  · refine R_aload_n C dX7_less_14 rfl 0 rfl ?_
    refine gtM_X7_hosts C wd_3_4 dX7_less_15 ?_
    refine R_iconst (v := (2 : Int32)) C dX7_less_18 (by decide) ?_
    refine R_icmp_ne (tgt := 24) C dX7_less_19 (by decide) ?_ ?_
    · refine R_sub [] rfl ?_
      exact uX7_less_22 C S2
    · refine R_iconst (v := (0 : Int32)) C dX7_less_24 (by decide) ?_
      refine R_istore_n (lv' := [(2, .int (0 : Int32)), (0, .ref (a 0)), (1, .int v1)]) C dX7_less_25 rfl (by decide) rfl ?_
      refine R_iconst (v := (0 : Int32)) C dX7_less_26 (by decide) ?_
      refine R_istore_n (lv' := [(3, .int (0 : Int32)), (2, .int (0 : Int32)), (0, .ref (a 0)), (1, .int v1)]) C dX7_less_27 rfl (by decide) rfl ?_
      refine R_sub [2, 3, 1, 0] rfl ?_
      exact uX7_less_28 C FU v1 (0 : Int32) (0 : Int32) S2
set_option maxHeartbeats 4000000 in
set_option maxRecDepth 100000 in
theorem kX7_less (l : Launch) (D : va_G) (a : Nat → Nat) (cA cZ : ClassId) (S : St) (v1 : Int32) : CI l D (wM a cA cZ) [(cA, .int), (cZ, .boolean)] yX7_less (.code yX7_less cX7_less 5 (some .int)) 6 [.ref (a 0), .int v1] (fX7_less v1 S) S := CI_of rfl (Nat.le_of_ble_eq_true rfl) (fun p e s m args below meth c A C => uX7_less C v1 S)
theorem dX7_host_0 : decode cX7_host 0 = .ok (.iload_n 1, 1) := by decide +kernel
theorem dX7_host_1 : decode cX7_host 1 = .ok (.iconst 0, 1) := by decide +kernel
theorem dX7_host_2 : decode cX7_host 2 = .ok (.aload_n 0, 1) := by decide +kernel
theorem dX7_host_3 : decode cX7_host 3 = .ok (.getfield 61, 3) := by decide +kernel
theorem dX7_host_6 : decode cX7_host 6 = .ok (.iconst 1, 1) := by decide +kernel
theorem dX7_host_7 : decode cX7_host 7 = .ok (.isub, 1) := by decide +kernel
theorem dX7_host_8 : decode cX7_host 8 = .ok (.invokestatic 57, 3) := by decide +kernel
theorem dX7_host_11 : decode cX7_host 11 = .ok (.ifCond .eq 12, 3) := by decide +kernel
theorem dX7_host_14 : decode cX7_host 14 = .ok (.aload_n 0, 1) := by decide +kernel
theorem dX7_host_15 : decode cX7_host 15 = .ok (.getfield 16, 3) := by decide +kernel
theorem dX7_host_18 : decode cX7_host 18 = .ok (.iload_n 1, 1) := by decide +kernel
theorem dX7_host_19 : decode cX7_host 19 = .ok (.iaload, 1) := by decide +kernel
theorem dX7_host_20 : decode cX7_host 20 = .ok (.goto 4, 3) := by decide +kernel
theorem dX7_host_23 : decode cX7_host 23 = .ok (.iconst (-1), 1) := by decide +kernel
theorem dX7_host_24 : decode cX7_host 24 = .ok (.ireturn, 1) := by decide +kernel
set_option maxHeartbeats 4000000 in
set_option maxRecDepth 100000 in
theorem uX7_host_24 (C : CX D [(cA, .int), (cZ, .boolean)] p s m args meth c A cX7_host 2 RX7 (some .int)) (t0 : Int32) (S : St) : RU D (wM a cA cZ) p l e 2 s m args below meth c A 2 (QI D (wM a cA cZ) [(cA, .int), (cZ, .boolean)] A) (fX7_host_24 t0 S) 24 [.int t0] [] S := by
  unfold fX7_host_24
  exact R_reti C dX7_host_24
set_option maxHeartbeats 4000000 in
set_option maxRecDepth 100000 in
theorem uX7_host (C : CX D [(cA, .int), (cZ, .boolean)] p s m args meth c A cX7_host 2 RX7 (some .int)) (v1 : Int32) (S : St) : RU D (wM a cA cZ) p l e 2 s m args below meth c A 2 (QI D (wM a cA cZ) [(cA, .int), (cZ, .boolean)] A) (fX7_host v1 S) 0 [] [(0, .ref (a 0)), (1, .int v1)] S := by
  unfold fX7_host
  refine R_iload_n C dX7_host_0 rfl 1 rfl ?_
  refine R_iconst (v := (0 : Int32)) C dX7_host_1 (by decide) ?_
  refine R_aload_n C dX7_host_2 rfl 0 rfl ?_
  refine gtM_X7_lines C wd_3_5 dX7_host_3 ?_
  refine R_iconst (v := (1 : Int32)) C dX7_host_6 (by decide) ?_
  refine R_isub C dX7_host_7 ?_
  refine R_calls (As := [.int v1, .int (0 : Int32), .int ((S.1 1) - (1 : Int32))]) (st := []) C (kX7_in l D a cA cZ S v1 (0 : Int32) ((S.1 1) - (1 : Int32))) (by decide) (by decide) wd_3_70 kwX7_in rfl rfl (Nat.le_of_ble_eq_true rfl) dX7_host_8 (fun r1 S2 => ?_)
  refine R_if_eq (tgt := 23) C dX7_host_11 (by decide) ?_ ?_
  · refine R_iconst (v := (-1 : Int32)) C dX7_host_23 (by decide) ?_
    refine R_sub [] rfl ?_
    exact uX7_host_24 C (-1 : Int32) S2
  · refine R_aload_n C dX7_host_14 rfl 0 rfl ?_
    refine gtM_X7_hostOf C wd_3_8 dX7_host_15 ?_
    refine R_iload_n C dX7_host_18 rfl 1 rfl ?_
    refine ldM2 C dX7_host_19 ?_
    refine R_goto (tgt := 24) C dX7_host_20 (by decide) ?_
    refine R_sub [] rfl ?_
    exact uX7_host_24 C (S2.2 2 (ix v1)) S2
set_option maxHeartbeats 4000000 in
set_option maxRecDepth 100000 in
theorem kX7_host (l : Launch) (D : va_G) (a : Nat → Nat) (cA cZ : ClassId) (S : St) (v1 : Int32) : CI l D (wM a cA cZ) [(cA, .int), (cZ, .boolean)] yX7_host (.code yX7_host cX7_host 2 (some .int)) 2 [.ref (a 0), .int v1] (fX7_host v1 S) S := CI_of rfl (Nat.le_of_ble_eq_true rfl) (fun p e s m args below meth c A C => uX7_host C v1 S)
theorem dX7_load_0 : decode cX7_load 0 = .ok (.iload_n 1, 1) := by decide +kernel
theorem dX7_load_1 : decode cX7_load 1 = .ok (.iconst 0, 1) := by decide +kernel
theorem dX7_load_2 : decode cX7_load 2 = .ok (.aload_n 0, 1) := by decide +kernel
theorem dX7_load_3 : decode cX7_load 3 = .ok (.getfield 54, 3) := by decide +kernel
theorem dX7_load_6 : decode cX7_load 6 = .ok (.iconst 1, 1) := by decide +kernel
theorem dX7_load_7 : decode cX7_load 7 = .ok (.isub, 1) := by decide +kernel
theorem dX7_load_8 : decode cX7_load 8 = .ok (.invokestatic 57, 3) := by decide +kernel
theorem dX7_load_11 : decode cX7_load 11 = .ok (.ifCond .eq 12, 3) := by decide +kernel
theorem dX7_load_14 : decode cX7_load 14 = .ok (.aload_n 0, 1) := by decide +kernel
theorem dX7_load_15 : decode cX7_load 15 = .ok (.getfield 19, 3) := by decide +kernel
theorem dX7_load_18 : decode cX7_load 18 = .ok (.iload_n 1, 1) := by decide +kernel
theorem dX7_load_19 : decode cX7_load 19 = .ok (.iaload, 1) := by decide +kernel
theorem dX7_load_20 : decode cX7_load 20 = .ok (.goto 4, 3) := by decide +kernel
theorem dX7_load_23 : decode cX7_load 23 = .ok (.iconst (-1), 1) := by decide +kernel
theorem dX7_load_24 : decode cX7_load 24 = .ok (.ireturn, 1) := by decide +kernel
set_option maxHeartbeats 4000000 in
set_option maxRecDepth 100000 in
theorem uX7_load_24 (C : CX D [(cA, .int), (cZ, .boolean)] p s m args meth c A cX7_load 2 RX7 (some .int)) (t0 : Int32) (S : St) : RU D (wM a cA cZ) p l e 2 s m args below meth c A 2 (QI D (wM a cA cZ) [(cA, .int), (cZ, .boolean)] A) (fX7_load_24 t0 S) 24 [.int t0] [] S := by
  unfold fX7_load_24
  exact R_reti C dX7_load_24
set_option maxHeartbeats 4000000 in
set_option maxRecDepth 100000 in
theorem uX7_load (C : CX D [(cA, .int), (cZ, .boolean)] p s m args meth c A cX7_load 2 RX7 (some .int)) (v1 : Int32) (S : St) : RU D (wM a cA cZ) p l e 2 s m args below meth c A 2 (QI D (wM a cA cZ) [(cA, .int), (cZ, .boolean)] A) (fX7_load v1 S) 0 [] [(0, .ref (a 0)), (1, .int v1)] S := by
  unfold fX7_load
  refine R_iload_n C dX7_load_0 rfl 1 rfl ?_
  refine R_iconst (v := (0 : Int32)) C dX7_load_1 (by decide) ?_
  refine R_aload_n C dX7_load_2 rfl 0 rfl ?_
  refine gtM_X7_hosts C wd_3_4 dX7_load_3 ?_
  refine R_iconst (v := (1 : Int32)) C dX7_load_6 (by decide) ?_
  refine R_isub C dX7_load_7 ?_
  refine R_calls (As := [.int v1, .int (0 : Int32), .int ((S.1 0) - (1 : Int32))]) (st := []) C (kX7_in l D a cA cZ S v1 (0 : Int32) ((S.1 0) - (1 : Int32))) (by decide) (by decide) wd_3_70 kwX7_in rfl rfl (Nat.le_of_ble_eq_true rfl) dX7_load_8 (fun r1 S2 => ?_)
  refine R_if_eq (tgt := 23) C dX7_load_11 (by decide) ?_ ?_
  · refine R_iconst (v := (-1 : Int32)) C dX7_load_23 (by decide) ?_
    refine R_sub [] rfl ?_
    exact uX7_load_24 C (-1 : Int32) S2
  · refine R_aload_n C dX7_load_14 rfl 0 rfl ?_
    refine gtM_X7_loads C wd_3_9 dX7_load_15 ?_
    refine R_iload_n C dX7_load_18 rfl 1 rfl ?_
    refine ldM3 C dX7_load_19 ?_
    refine R_goto (tgt := 24) C dX7_load_20 (by decide) ?_
    refine R_sub [] rfl ?_
    exact uX7_load_24 C (S2.2 3 (ix v1)) S2
set_option maxHeartbeats 4000000 in
set_option maxRecDepth 100000 in
theorem kX7_load (l : Launch) (D : va_G) (a : Nat → Nat) (cA cZ : ClassId) (S : St) (v1 : Int32) : CI l D (wM a cA cZ) [(cA, .int), (cZ, .boolean)] yX7_load (.code yX7_load cX7_load 2 (some .int)) 2 [.ref (a 0), .int v1] (fX7_load v1 S) S := CI_of rfl (Nat.le_of_ble_eq_true rfl) (fun p e s m args below meth c A C => uX7_load C v1 S)
theorem dX7_copies_0 : decode cX7_copies 0 = .ok (.iload_n 1, 1) := by decide +kernel
theorem dX7_copies_1 : decode cX7_copies 1 = .ok (.invokestatic 86, 3) := by decide +kernel
theorem dX7_copies_4 : decode cX7_copies 4 = .ok (.ifCond .ne 5, 3) := by decide +kernel
theorem dX7_copies_7 : decode cX7_copies 7 = .ok (.iconst (-1), 1) := by decide +kernel
theorem dX7_copies_8 : decode cX7_copies 8 = .ok (.ireturn, 1) := by decide +kernel
theorem dX7_copies_9 : decode cX7_copies 9 = .ok (.iconst 0, 1) := by decide +kernel
theorem dX7_copies_10 : decode cX7_copies 10 = .ok (.istore_n 2, 1) := by decide +kernel
theorem dX7_copies_11 : decode cX7_copies 11 = .ok (.iconst 0, 1) := by decide +kernel
theorem dX7_copies_12 : decode cX7_copies 12 = .ok (.istore_n 3, 1) := by decide +kernel
theorem dX7_copies_13 : decode cX7_copies 13 = .ok (.iload_n 3, 1) := by decide +kernel
theorem dX7_copies_14 : decode cX7_copies 14 = .ok (.aload_n 0, 1) := by decide +kernel
theorem dX7_copies_15 : decode cX7_copies 15 = .ok (.getfield 54, 3) := by decide +kernel
theorem dX7_copies_18 : decode cX7_copies 18 = .ok (.if_icmp .ge 33, 3) := by decide +kernel
theorem dX7_copies_21 : decode cX7_copies 21 = .ok (.iload_n 2, 1) := by decide +kernel
theorem dX7_copies_22 : decode cX7_copies 22 = .ok (.aload_n 0, 1) := by decide +kernel
theorem dX7_copies_23 : decode cX7_copies 23 = .ok (.getfield 22, 3) := by decide +kernel
theorem dX7_copies_26 : decode cX7_copies 26 = .ok (.bipush 8, 2) := by decide +kernel
theorem dX7_copies_28 : decode cX7_copies 28 = .ok (.iload_n 1, 1) := by decide +kernel
theorem dX7_copies_29 : decode cX7_copies 29 = .ok (.imul, 1) := by decide +kernel
theorem dX7_copies_30 : decode cX7_copies 30 = .ok (.iload_n 3, 1) := by decide +kernel
theorem dX7_copies_31 : decode cX7_copies 31 = .ok (.iadd, 1) := by decide +kernel
theorem dX7_copies_32 : decode cX7_copies 32 = .ok (.iaload, 1) := by decide +kernel
theorem dX7_copies_33 : decode cX7_copies 33 = .ok (.ifCond .le 9, 3) := by decide +kernel
theorem dX7_copies_36 : decode cX7_copies 36 = .ok (.iconst 1, 1) := by decide +kernel
theorem dX7_copies_37 : decode cX7_copies 37 = .ok (.iload_n 3, 1) := by decide +kernel
theorem dX7_copies_38 : decode cX7_copies 38 = .ok (.ishl, 1) := by decide +kernel
theorem dX7_copies_39 : decode cX7_copies 39 = .ok (.goto 4, 3) := by decide +kernel
theorem dX7_copies_42 : decode cX7_copies 42 = .ok (.iconst 0, 1) := by decide +kernel
theorem dX7_copies_43 : decode cX7_copies 43 = .ok (.ior, 1) := by decide +kernel
theorem dX7_copies_44 : decode cX7_copies 44 = .ok (.istore_n 2, 1) := by decide +kernel
theorem dX7_copies_45 : decode cX7_copies 45 = .ok (.iinc 3 1, 3) := by decide +kernel
theorem dX7_copies_48 : decode cX7_copies 48 = .ok (.goto (-35), 3) := by decide +kernel
theorem dX7_copies_51 : decode cX7_copies 51 = .ok (.iload_n 2, 1) := by decide +kernel
theorem dX7_copies_52 : decode cX7_copies 52 = .ok (.ireturn, 1) := by decide +kernel
set_option maxHeartbeats 4000000 in
set_option maxRecDepth 100000 in
theorem uX7_copies_43 (C : CX D [(cA, .int), (cZ, .boolean)] p s m args meth c A cX7_copies 4 RX7 (some .int)) (k13 : Int32 → Int32 → Int32 → St → Rs) (h13 : ∀ (v1 v2 v3 : Int32) (S : St), RU D (wM a cA cZ) p l e 3 s m args below meth c A 4 (QI D (wM a cA cZ) [(cA, .int), (cZ, .boolean)] A) (k13 v1 v2 v3 S) 13 [] [(0, .ref (a 0)), (1, .int v1), (2, .int v2), (3, .int v3)] S) (v1 v3 t0 t1 : Int32) (S : St) : RU D (wM a cA cZ) p l e 3 s m args below meth c A 4 (QI D (wM a cA cZ) [(cA, .int), (cZ, .boolean)] A) (fX7_copies_43 k13 v1 v3 t0 t1 S) 43 [.int t0, .int t1] [(0, .ref (a 0)), (1, .int v1), (3, .int v3)] S := by
  unfold fX7_copies_43
  refine R_ior C dX7_copies_43 ?_
  refine R_let (fun x1 => ?_)
  refine R_istore_n (lv' := [(2, .int x1), (0, .ref (a 0)), (1, .int v1), (3, .int v3)]) C dX7_copies_44 rfl (by decide) rfl ?_
  refine R_iinc (v := v3 + 1) (lv' := [(3, .int (v3 + 1)), (2, .int x1), (0, .ref (a 0)), (1, .int v1)]) C dX7_copies_45 3 rfl rfl (by decide) rfl ?_
  refine R_goto (tgt := 13) C dX7_copies_48 (by decide) ?_
  refine R_sub [2, 3, 1, 0] rfl ?_
  exact h13 v1 x1 (v3 + 1) S
set_option maxHeartbeats 4000000 in
set_option maxRecDepth 100000 in
theorem uX7_copies_13_b (C : CX D [(cA, .int), (cZ, .boolean)] p s m args meth c A cX7_copies 4 RX7 (some .int)) (k13 : Int32 → Int32 → Int32 → St → Rs) (h13 : ∀ (v1 v2 v3 : Int32) (S : St), RU D (wM a cA cZ) p l e 3 s m args below meth c A 4 (QI D (wM a cA cZ) [(cA, .int), (cZ, .boolean)] A) (k13 v1 v2 v3 S) 13 [] [(0, .ref (a 0)), (1, .int v1), (2, .int v2), (3, .int v3)] S) (v1 v2 v3 : Int32) (S : St) : RU D (wM a cA cZ) p l e 3 s m args below meth c A 4 (QI D (wM a cA cZ) [(cA, .int), (cZ, .boolean)] A) (fX7_copies_13_b k13 v1 v2 v3 S) 13 [] [(0, .ref (a 0)), (1, .int v1), (2, .int v2), (3, .int v3)] S := by
  unfold fX7_copies_13_b
  refine R_iload_n C dX7_copies_13 rfl 3 rfl ?_
  refine R_aload_n C dX7_copies_14 rfl 0 rfl ?_
  refine gtM_X7_hosts C wd_3_4 dX7_copies_15 ?_
  refine R_icmp_ge (tgt := 51) C dX7_copies_18 (by decide) ?_ ?_
  · refine R_iload_n C dX7_copies_51 rfl 2 rfl ?_
    exact R_reti C dX7_copies_52
  · refine R_iload_n C dX7_copies_21 rfl 2 rfl ?_
    refine R_aload_n C dX7_copies_22 rfl 0 rfl ?_
    refine gtM_X7_ends C wd_3_10 dX7_copies_23 ?_
    refine R_bipush (v := (8 : Int32)) C dX7_copies_26 (by decide) ?_
    refine R_iload_n C dX7_copies_28 rfl 1 rfl ?_
    refine R_imul C dX7_copies_29 ?_
    refine R_iload_n C dX7_copies_30 rfl 3 rfl ?_
    refine R_iadd C dX7_copies_31 ?_
    refine ldM4 C dX7_copies_32 ?_
    refine R_if_le (tgt := 42) C dX7_copies_33 (by decide) ?_ ?_
    · refine R_iconst (v := (0 : Int32)) C dX7_copies_42 (by decide) ?_
      refine R_sub [0, 1, 3] rfl ?_
      exact uX7_copies_43 C k13 h13 v1 v3 (0 : Int32) v2 S
    · refine R_iconst (v := (1 : Int32)) C dX7_copies_36 (by decide) ?_
      refine R_iload_n C dX7_copies_37 rfl 3 rfl ?_
      refine R_ishl C dX7_copies_38 ?_
      refine R_goto (tgt := 43) C dX7_copies_39 (by decide) ?_
      refine R_sub [0, 1, 3] rfl ?_
      exact uX7_copies_43 C k13 h13 v1 v3 ((1 : Int32) <<< (v3 &&& 31)) v2 S
set_option maxHeartbeats 4000000 in
set_option maxRecDepth 100000 in
theorem uX7_copies_13 (C : CX D [(cA, .int), (cZ, .boolean)] p s m args meth c A cX7_copies 4 RX7 (some .int)) : ∀ (n : Nat) (v1 v2 v3 : Int32) (S : St), RU D (wM a cA cZ) p l e 3 s m args below meth c A 4 (QI D (wM a cA cZ) [(cA, .int), (cZ, .boolean)] A) (fX7_copies_13 n v1 v2 v3 S) 13 [] [(0, .ref (a 0)), (1, .int v1), (2, .int v2), (3, .int v3)] S := by
  intro n
  induction n with
  | zero => intro v1 v2 v3 S; exact R_none
  | succ n ih => intro v1 v2 v3 S; exact uX7_copies_13_b C _ ih v1 v2 v3 S
set_option maxHeartbeats 4000000 in
set_option maxRecDepth 100000 in
theorem uX7_copies (C : CX D [(cA, .int), (cZ, .boolean)] p s m args meth c A cX7_copies 4 RX7 (some .int)) (v1 : Int32) (S : St) : RU D (wM a cA cZ) p l e 3 s m args below meth c A 4 (QI D (wM a cA cZ) [(cA, .int), (cZ, .boolean)] A) (fX7_copies v1 S) 0 [] [(0, .ref (a 0)), (1, .int v1)] S := by
  unfold fX7_copies
  refine R_iload_n C dX7_copies_0 rfl 1 rfl ?_
  refine R_calls (As := [.int v1]) (st := []) C (kX7_isPoint l D a cA cZ S v1) (by decide) (by decide) wd_3_67 kwX7_isPoint rfl rfl (Nat.le_of_ble_eq_true rfl) dX7_copies_1 (fun r1 S2 => ?_)
  refine R_if_ne (tgt := 9) C dX7_copies_4 (by decide) ?_ ?_
  · refine R_iconst (v := (-1 : Int32)) C dX7_copies_7 (by decide) ?_
    exact R_reti C dX7_copies_8
  · refine R_iconst (v := (0 : Int32)) C dX7_copies_9 (by decide) ?_
    refine R_istore_n (lv' := [(2, .int (0 : Int32)), (0, .ref (a 0)), (1, .int v1)]) C dX7_copies_10 rfl (by decide) rfl ?_
    refine R_iconst (v := (0 : Int32)) C dX7_copies_11 (by decide) ?_
    refine R_istore_n (lv' := [(3, .int (0 : Int32)), (2, .int (0 : Int32)), (0, .ref (a 0)), (1, .int v1)]) C dX7_copies_12 rfl (by decide) rfl ?_
    refine R_sub [2, 3, 1, 0] rfl ?_
    exact uX7_copies_13 C FU v1 (0 : Int32) (0 : Int32) S2
set_option maxHeartbeats 4000000 in
set_option maxRecDepth 100000 in
theorem kX7_copies (l : Launch) (D : va_G) (a : Nat → Nat) (cA cZ : ClassId) (S : St) (v1 : Int32) : CI l D (wM a cA cZ) [(cA, .int), (cZ, .boolean)] yX7_copies (.code yX7_copies cX7_copies 4 (some .int)) 3 [.ref (a 0), .int v1] (fX7_copies v1 S) S := CI_of rfl (Nat.le_of_ble_eq_true rfl) (fun p e s m args below meth c A C => uX7_copies C v1 S)
end
