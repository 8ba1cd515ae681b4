/-! constructors, printed by wip/whole/gen/gen2.py -/
def S0X (x : Int32) : St := (fun k => if k = 2 then x else if k = 6 then 2 else if k = 7 then 20 else if k = 8 then 5 else 0, fun _ _ => 0)
def S0M (x : Int32) : St := (fun k => if k = 0 then x else if k = 6 then 2 else if k = 4 then 20 else if k = 5 then 5 else 0, fun _ _ => 0)
def clM (x : Int32) : Int32 := if 2 ≤ x then (if x ≤ 8 then x else 8) else 2
theorem uniC {D : va_G} {cl : List vw_C} {tys : List (ClassId × FieldType)} {U : State} {c1 c2 : ClassId} (h : va_K D cl tys U) (i j : Nat) (hi : tys[i]? = some (c1, .int)) (hj : tys[j]? = some (c2, .int)) : c1 = c2 := by
  have h1 : U.vm.findClass ("[" ++ FieldType.int.toString) = some c1 := (h.2 i _ hi).2
  have h2 : U.vm.findClass ("[" ++ FieldType.int.toString) = some c2 := (h.2 j _ hj).2
  exact Option.some.inj (h1.symm.trans h2)
section GX
variable {D : va_G} {p : Program} {l : Launch} {e : Env} {R : Room} {s : State} {m : MethodId} {args : Array Value} {below : List Frame} {meth : Method} {c : Code} {A : Nat → Prop} {nL : Nat} {Q : State → Prop}
variable {cells slots pc : Nat} {st : List Value} {lv : List (Nat × Value)} {ws ws' : va_W} {tys tys' : List (ClassId × FieldType)}
theorem G_perm (is : List Nat) (h1 : is.filterMap (fun i => ws[i]?) = ws') (h2 : is.map (fun i => ws[i]?) = ws'.map some) (h3 : va_nd is = true) (k : RG D p l e R s m args below meth c A nL Q cells slots pc st lv ws' tys) : RG D p l e R s m args below meth c A nL Q cells slots pc st lv ws tys := fun H locs ls hP hD hK hS hl => k H locs ls (hP.sub is h1) (hD.sub is h3 h2) hK hS hl
theorem G_K (k : va_K D vwCl tys s → RG D p l e R s m args below meth c A nL Q cells slots pc st lv ws tys) : RG D p l e R s m args below meth c A nL Q cells slots pc st lv ws tys := fun H locs ls hP hD hK hS hl => k hK H locs ls hP hD hK hS hl
theorem G_tys (is : List Nat) (h1 : is.filterMap (fun i => tys[i]?) = tys') (k : RG D p l e R s m args below meth c A nL Q cells slots pc st lv ws tys') : RG D p l e R s m args below meth c A nL Q cells slots pc st lv ws tys := fun H locs ls hP hD hK hS hl => k H locs ls hP hD (hK.sub is h1) hS hl
end GX
theorem wd_1_31 : Cond.methodLink RX4 3 objectInit ∈ tbG := wm1 (k := 31) rfl rfl
theorem wd_1_18 : Cond.instanceMethod objectInit ∈ tbG := wm1 (k := 18) rfl rfl
theorem wd_1_19 : Cond.code objectInit ⟨#[0xb1]⟩ 1 none ∈ tbG := wm1 (k := 19) rfl rfl
theorem wd_1_96 : Cond.arrayClass .int ∈ tbG := wm1 (k := 96) rfl rfl
theorem wd_1_102 : Cond.methodLink RX1 3 objectInit ∈ tbG := wm1 (k := 102) rfl rfl
theorem wd_1_124 : Cond.methodLink RX3 3 objectInit ∈ tbG := wm1 (k := 124) rfl rfl
theorem wd_1_148 : Cond.methodLink RX0 3 objectInit ∈ tbG := wm1 (k := 148) rfl rfl
theorem wd_1_176 : Cond.methodLink RX5 3 objectInit ∈ tbG := wm1 (k := 176) rfl rfl
theorem wd_1_197 : Cond.methodLink RX2 3 objectInit ∈ tbG := wm1 (k := 197) rfl rfl
theorem wd_1_17 : Cond.methodLink RX6 1 objectInit ∈ tbG := wm1 (k := 17) rfl rfl
theorem wd_1_20 : Cond.classLink RX6 7 RX4 ∈ tbG := wm1 (k := 20) rfl rfl
theorem wd_1_21 : Cond.instantiable RX4 11 ∈ tbG := wm1 (k := 21) rfl rfl
theorem wd_1_22 : Cond.methodLink RX6 11 Lib.Math.min.name ∈ tbG := wm1 (k := 22) rfl rfl
theorem wd_1_25 : Cond.methodLink RX6 17 Lib.Math.max.name ∈ tbG := wm1 (k := 25) rfl rfl
theorem wd_1_28 : Cond.methodLink RX6 20 yX4_init ∈ tbG := wm1 (k := 28) rfl rfl
theorem wd_1_29 : Cond.instanceMethod yX4_init ∈ tbG := wm1 (k := 29) rfl rfl
theorem wd_1_30 : Cond.code yX4_init cX4_init 2 none ∈ tbG := wm1 (k := 30) rfl rfl
theorem wd_1_97 : Cond.classLink RX6 27 RX1 ∈ tbG := wm1 (k := 97) rfl rfl
theorem wd_1_98 : Cond.instantiable RX1 4 ∈ tbG := wm1 (k := 98) rfl rfl
theorem wd_1_99 : Cond.methodLink RX6 29 yX1_init ∈ tbG := wm1 (k := 99) rfl rfl
theorem wd_1_100 : Cond.instanceMethod yX1_init ∈ tbG := wm1 (k := 100) rfl rfl
theorem wd_1_101 : Cond.code yX1_init cX1_init 2 none ∈ tbG := wm1 (k := 101) rfl rfl
theorem wd_1_119 : Cond.classLink RX6 36 RX3 ∈ tbG := wm1 (k := 119) rfl rfl
theorem wd_1_120 : Cond.instantiable RX3 5 ∈ tbG := wm1 (k := 120) rfl rfl
theorem wd_1_121 : Cond.methodLink RX6 38 yX3_init ∈ tbG := wm1 (k := 121) rfl rfl
theorem wd_1_122 : Cond.instanceMethod yX3_init ∈ tbG := wm1 (k := 122) rfl rfl
theorem wd_1_123 : Cond.code yX3_init cX3_init 2 none ∈ tbG := wm1 (k := 123) rfl rfl
theorem wd_1_143 : Cond.classLink RX6 43 RX0 ∈ tbG := wm1 (k := 143) rfl rfl
theorem wd_1_144 : Cond.instantiable RX0 7 ∈ tbG := wm1 (k := 144) rfl rfl
theorem wd_1_145 : Cond.methodLink RX6 45 yX0_init ∈ tbG := wm1 (k := 145) rfl rfl
theorem wd_1_146 : Cond.instanceMethod yX0_init ∈ tbG := wm1 (k := 146) rfl rfl
theorem wd_1_147 : Cond.code yX0_init cX0_init 2 none ∈ tbG := wm1 (k := 147) rfl rfl
theorem wd_1_171 : Cond.classLink RX6 50 RX5 ∈ tbG := wm1 (k := 171) rfl rfl
theorem wd_1_172 : Cond.instantiable RX5 4 ∈ tbG := wm1 (k := 172) rfl rfl
theorem wd_1_173 : Cond.methodLink RX6 52 yX5_init ∈ tbG := wm1 (k := 173) rfl rfl
theorem wd_1_174 : Cond.instanceMethod yX5_init ∈ tbG := wm1 (k := 174) rfl rfl
theorem wd_1_175 : Cond.code yX5_init cX5_init 2 none ∈ tbG := wm1 (k := 175) rfl rfl
theorem wd_1_192 : Cond.classLink RX6 57 RX2 ∈ tbG := wm1 (k := 192) rfl rfl
theorem wd_1_193 : Cond.instantiable RX2 2 ∈ tbG := wm1 (k := 193) rfl rfl
theorem wd_1_194 : Cond.methodLink RX6 59 yX2_init ∈ tbG := wm1 (k := 194) rfl rfl
theorem wd_1_195 : Cond.instanceMethod yX2_init ∈ tbG := wm1 (k := 195) rfl rfl
theorem wd_1_196 : Cond.code yX2_init cX2_init 2 none ∈ tbG := wm1 (k := 196) rfl rfl
theorem wd_3_3 : Cond.methodLink RX7 1 objectInit ∈ tbG := wm3 (k := 3) rfl rfl
theorem wd_3_62 : Cond.arrayClass .boolean ∈ tbG := wm3 (k := 62) rfl rfl
theorem dX4_init_0 : decode cX4_init 0 = .ok (.aload_n 0, 1) := by decide +kernel
theorem dX4_init_1 : decode cX4_init 1 = .ok (.invokespecial 3, 3) := by decide +kernel
theorem dX4_init_4 : decode cX4_init 4 = .ok (.aload_n 0, 1) := by decide +kernel
theorem dX4_init_5 : decode cX4_init 5 = .ok (.sipush 300, 3) := by decide +kernel
theorem dX4_init_8 : decode cX4_init 8 = .ok (.newarray .int, 2) := by decide +kernel
theorem dX4_init_10 : decode cX4_init 10 = .ok (.putfield 9, 3) := by decide +kernel
theorem dX4_init_13 : decode cX4_init 13 = .ok (.aload_n 0, 1) := by decide +kernel
theorem dX4_init_14 : decode cX4_init 14 = .ok (.sipush 300, 3) := by decide +kernel
theorem dX4_init_17 : decode cX4_init 17 = .ok (.newarray .int, 2) := by decide +kernel
theorem dX4_init_19 : decode cX4_init 19 = .ok (.putfield 15, 3) := by decide +kernel
theorem dX4_init_22 : decode cX4_init 22 = .ok (.aload_n 0, 1) := by decide +kernel
theorem dX4_init_23 : decode cX4_init 23 = .ok (.sipush 300, 3) := by decide +kernel
theorem dX4_init_26 : decode cX4_init 26 = .ok (.newarray .int, 2) := by decide +kernel
theorem dX4_init_28 : decode cX4_init 28 = .ok (.putfield 18, 3) := by decide +kernel
theorem dX4_init_31 : decode cX4_init 31 = .ok (.aload_n 0, 1) := by decide +kernel
theorem dX4_init_32 : decode cX4_init 32 = .ok (.bipush 8, 2) := by decide +kernel
theorem dX4_init_34 : decode cX4_init 34 = .ok (.newarray .int, 2) := by decide +kernel
theorem dX4_init_36 : decode cX4_init 36 = .ok (.putfield 21, 3) := by decide +kernel
theorem dX4_init_39 : decode cX4_init 39 = .ok (.aload_n 0, 1) := by decide +kernel
theorem dX4_init_40 : decode cX4_init 40 = .ok (.bipush 40, 2) := by decide +kernel
theorem dX4_init_42 : decode cX4_init 42 = .ok (.newarray .int, 2) := by decide +kernel
theorem dX4_init_44 : decode cX4_init 44 = .ok (.putfield 24, 3) := by decide +kernel
theorem dX4_init_47 : decode cX4_init 47 = .ok (.aload_n 0, 1) := by decide +kernel
theorem dX4_init_48 : decode cX4_init 48 = .ok (.bipush 40, 2) := by decide +kernel
theorem dX4_init_50 : decode cX4_init 50 = .ok (.newarray .int, 2) := by decide +kernel
theorem dX4_init_52 : decode cX4_init 52 = .ok (.putfield 27, 3) := by decide +kernel
theorem dX4_init_55 : decode cX4_init 55 = .ok (.aload_n 0, 1) := by decide +kernel
theorem dX4_init_56 : decode cX4_init 56 = .ok (.sipush 320, 3) := by decide +kernel
theorem dX4_init_59 : decode cX4_init 59 = .ok (.newarray .int, 2) := by decide +kernel
theorem dX4_init_61 : decode cX4_init 61 = .ok (.putfield 30, 3) := by decide +kernel
theorem dX4_init_64 : decode cX4_init 64 = .ok (.aload_n 0, 1) := by decide +kernel
theorem dX4_init_65 : decode cX4_init 65 = .ok (.iload_n 1, 1) := by decide +kernel
theorem dX4_init_66 : decode cX4_init 66 = .ok (.putfield 33, 3) := by decide +kernel
theorem dX4_init_69 : decode cX4_init 69 = .ok (.return_, 1) := by decide +kernel
set_option maxHeartbeats 4000000 in
set_option maxRecDepth 100000 in
theorem ccX4_init (l : Launch) (D : va_G) (h0 : Nat) (v1 : Int32) : CC l D yX4_init (.code yX4_init cX4_init 2 none) 1 7 1308 [.ref h0, .int v1] [(h0, .inr (4, [.null, .null, .null, .null, .null, .null, .null, .int 0, .int 0, .int 0, .int 0]))] (fun w1 t1 => ∃ (q1 q2 q3 q4 q5 q6 q7 : Nat) (c1 c2 c3 c4 c5 c6 c7 : ClassId), w1 = [(h0, .inr (4, [.ref q1, .ref q2, .ref q3, .ref q4, .ref q5, .ref q6, .ref q7, .int v1, .int 0, .int 0, .int 0])), (q1, .inl (c1, 300, .inl (fun _ => 0))), (q2, .inl (c2, 300, .inl (fun _ => 0))), (q3, .inl (c3, 300, .inl (fun _ => 0))), (q4, .inl (c4, 8, .inl (fun _ => 0))), (q5, .inl (c5, 40, .inl (fun _ => 0))), (q6, .inl (c6, 40, .inl (fun _ => 0))), (q7, .inl (c7, 320, .inl (fun _ => 0)))] ∧ t1 = [(c1, .int), (c2, .int), (c3, .int), (c4, .int), (c5, .int), (c6, .int), (c7, .int)]) := by
  refine CC_of rfl rfl (Nat.le_of_ble_eq_true rfl) ?_
  intro p e s m args below meth c A C
  show RG D p l e _ s m args below meth c A _ _ 0 0 0 [] [(0, .ref h0), (1, .int v1)] _ _
  refine G_aload_n C dX4_init_0 rfl 0 rfl ?_
  refine G_objInit C wd_1_31 wd_1_18 wd_1_19 dX4_init_1 (Nat.le_of_ble_eq_true rfl) (Nat.le_of_ble_eq_true rfl) ?_
  refine G_aload_n C dX4_init_4 rfl 0 rfl ?_
  refine G_sipush (v := (300 : Int32)) C dX4_init_5 (by decide) ?_
  refine G_newa (atype := .int) (ty := .int) (N := 300) C rfl wd_1_96 (fun _ => rfl) (by decide) (by decide) (by decide) (Nat.le_of_ble_eq_true rfl) (Nat.le_of_ble_eq_true rfl) dX4_init_8 (fun q1 c1 => ?_)
  refine G_eq (ws' := [(h0, .inr (4, [.null, .null, .null, .null, .null, .null, .null, .int 0, .int 0, .int 0, .int 0])), (q1, .inl (c1, 300, .inl (fun _ => 0)))]) (tys' := [(c1, .int)]) (cells' := 1) (slots' := 300) rfl rfl rfl rfl ?_
  refine G_putF (ws' := [(h0, .inr (4, [.ref q1, .null, .null, .null, .null, .null, .null, .int 0, .int 0, .int 0, .int 0])), (q1, .inl (c1, 300, .inl (fun _ => 0)))]) C inX4 tyX4 tyX4_ok nmX4 0 rfl rfl 0 (by decide) wd_1_32 rfl rfl rfl (ty := (.array .int)) (by decide +kernel) rfl rfl (Nat.le_of_ble_eq_true rfl) rfl dX4_init_10 ?_
  refine G_aload_n C dX4_init_13 rfl 0 rfl ?_
  refine G_sipush (v := (300 : Int32)) C dX4_init_14 (by decide) ?_
  refine G_newa (atype := .int) (ty := .int) (N := 300) C rfl wd_1_96 (fun _ => rfl) (by decide) (by decide) (by decide) (Nat.le_of_ble_eq_true rfl) (Nat.le_of_ble_eq_true rfl) dX4_init_17 (fun q2 c2 => ?_)
  refine G_eq (ws' := [(h0, .inr (4, [.ref q1, .null, .null, .null, .null, .null, .null, .int 0, .int 0, .int 0, .int 0])), (q1, .inl (c1, 300, .inl (fun _ => 0))), (q2, .inl (c2, 300, .inl (fun _ => 0)))]) (tys' := [(c1, .int), (c2, .int)]) (cells' := 2) (slots' := 600) rfl rfl rfl rfl ?_
  refine G_putF (ws' := [(h0, .inr (4, [.ref q1, .ref q2, .null, .null, .null, .null, .null, .int 0, .int 0, .int 0, .int 0])), (q1, .inl (c1, 300, .inl (fun _ => 0))), (q2, .inl (c2, 300, .inl (fun _ => 0)))]) C inX4 tyX4 tyX4_ok nmX4 0 rfl rfl 1 (by decide) wd_1_37 rfl rfl rfl (ty := (.array .int)) (by decide +kernel) rfl rfl (Nat.le_of_ble_eq_true rfl) rfl dX4_init_19 ?_
  refine G_aload_n C dX4_init_22 rfl 0 rfl ?_
  refine G_sipush (v := (300 : Int32)) C dX4_init_23 (by decide) ?_
  refine G_newa (atype := .int) (ty := .int) (N := 300) C rfl wd_1_96 (fun _ => rfl) (by decide) (by decide) (by decide) (Nat.le_of_ble_eq_true rfl) (Nat.le_of_ble_eq_true rfl) dX4_init_26 (fun q3 c3 => ?_)
  refine G_eq (ws' := [(h0, .inr (4, [.ref q1, .ref q2, .null, .null, .null, .null, .null, .int 0, .int 0, .int 0, .int 0])), (q1, .inl (c1, 300, .inl (fun _ => 0))), (q2, .inl (c2, 300, .inl (fun _ => 0))), (q3, .inl (c3, 300, .inl (fun _ => 0)))]) (tys' := [(c1, .int), (c2, .int), (c3, .int)]) (cells' := 3) (slots' := 900) rfl rfl rfl rfl ?_
  refine G_putF (ws' := [(h0, .inr (4, [.ref q1, .ref q2, .ref q3, .null, .null, .null, .null, .int 0, .int 0, .int 0, .int 0])), (q1, .inl (c1, 300, .inl (fun _ => 0))), (q2, .inl (c2, 300, .inl (fun _ => 0))), (q3, .inl (c3, 300, .inl (fun _ => 0)))]) C inX4 tyX4 tyX4_ok nmX4 0 rfl rfl 2 (by decide) wd_1_42 rfl rfl rfl (ty := (.array .int)) (by decide +kernel) rfl rfl (Nat.le_of_ble_eq_true rfl) rfl dX4_init_28 ?_
  refine G_aload_n C dX4_init_31 rfl 0 rfl ?_
  refine G_bipush (v := (8 : Int32)) C dX4_init_32 (by decide) ?_
  refine G_newa (atype := .int) (ty := .int) (N := 8) C rfl wd_1_96 (fun _ => rfl) (by decide) (by decide) (by decide) (Nat.le_of_ble_eq_true rfl) (Nat.le_of_ble_eq_true rfl) dX4_init_34 (fun q4 c4 => ?_)
  refine G_eq (ws' := [(h0, .inr (4, [.ref q1, .ref q2, .ref q3, .null, .null, .null, .null, .int 0, .int 0, .int 0, .int 0])), (q1, .inl (c1, 300, .inl (fun _ => 0))), (q2, .inl (c2, 300, .inl (fun _ => 0))), (q3, .inl (c3, 300, .inl (fun _ => 0))), (q4, .inl (c4, 8, .inl (fun _ => 0)))]) (tys' := [(c1, .int), (c2, .int), (c3, .int), (c4, .int)]) (cells' := 4) (slots' := 908) rfl rfl rfl rfl ?_
  refine G_putF (ws' := [(h0, .inr (4, [.ref q1, .ref q2, .ref q3, .ref q4, .null, .null, .null, .int 0, .int 0, .int 0, .int 0])), (q1, .inl (c1, 300, .inl (fun _ => 0))), (q2, .inl (c2, 300, .inl (fun _ => 0))), (q3, .inl (c3, 300, .inl (fun _ => 0))), (q4, .inl (c4, 8, .inl (fun _ => 0)))]) C inX4 tyX4 tyX4_ok nmX4 0 rfl rfl 3 (by decide) wd_1_45 rfl rfl rfl (ty := (.array .int)) (by decide +kernel) rfl rfl (Nat.le_of_ble_eq_true rfl) rfl dX4_init_36 ?_
  refine G_aload_n C dX4_init_39 rfl 0 rfl ?_
  refine G_bipush (v := (40 : Int32)) C dX4_init_40 (by decide) ?_
  refine G_newa (atype := .int) (ty := .int) (N := 40) C rfl wd_1_96 (fun _ => rfl) (by decide) (by decide) (by decide) (Nat.le_of_ble_eq_true rfl) (Nat.le_of_ble_eq_true rfl) dX4_init_42 (fun q5 c5 => ?_)
  refine G_eq (ws' := [(h0, .inr (4, [.ref q1, .ref q2, .ref q3, .ref q4, .null, .null, .null, .int 0, .int 0, .int 0, .int 0])), (q1, .inl (c1, 300, .inl (fun _ => 0))), (q2, .inl (c2, 300, .inl (fun _ => 0))), (q3, .inl (c3, 300, .inl (fun _ => 0))), (q4, .inl (c4, 8, .inl (fun _ => 0))), (q5, .inl (c5, 40, .inl (fun _ => 0)))]) (tys' := [(c1, .int), (c2, .int), (c3, .int), (c4, .int), (c5, .int)]) (cells' := 5) (slots' := 948) rfl rfl rfl rfl ?_
  refine G_putF (ws' := [(h0, .inr (4, [.ref q1, .ref q2, .ref q3, .ref q4, .ref q5, .null, .null, .int 0, .int 0, .int 0, .int 0])), (q1, .inl (c1, 300, .inl (fun _ => 0))), (q2, .inl (c2, 300, .inl (fun _ => 0))), (q3, .inl (c3, 300, .inl (fun _ => 0))), (q4, .inl (c4, 8, .inl (fun _ => 0))), (q5, .inl (c5, 40, .inl (fun _ => 0)))]) C inX4 tyX4 tyX4_ok nmX4 0 rfl rfl 4 (by decide) wd_1_49 rfl rfl rfl (ty := (.array .int)) (by decide +kernel) rfl rfl (Nat.le_of_ble_eq_true rfl) rfl dX4_init_44 ?_
  refine G_aload_n C dX4_init_47 rfl 0 rfl ?_
  refine G_bipush (v := (40 : Int32)) C dX4_init_48 (by decide) ?_
  refine G_newa (atype := .int) (ty := .int) (N := 40) C rfl wd_1_96 (fun _ => rfl) (by decide) (by decide) (by decide) (Nat.le_of_ble_eq_true rfl) (Nat.le_of_ble_eq_true rfl) dX4_init_50 (fun q6 c6 => ?_)
  refine G_eq (ws' := [(h0, .inr (4, [.ref q1, .ref q2, .ref q3, .ref q4, .ref q5, .null, .null, .int 0, .int 0, .int 0, .int 0])), (q1, .inl (c1, 300, .inl (fun _ => 0))), (q2, .inl (c2, 300, .inl (fun _ => 0))), (q3, .inl (c3, 300, .inl (fun _ => 0))), (q4, .inl (c4, 8, .inl (fun _ => 0))), (q5, .inl (c5, 40, .inl (fun _ => 0))), (q6, .inl (c6, 40, .inl (fun _ => 0)))]) (tys' := [(c1, .int), (c2, .int), (c3, .int), (c4, .int), (c5, .int), (c6, .int)]) (cells' := 6) (slots' := 988) rfl rfl rfl rfl ?_
  refine G_putF (ws' := [(h0, .inr (4, [.ref q1, .ref q2, .ref q3, .ref q4, .ref q5, .ref q6, .null, .int 0, .int 0, .int 0, .int 0])), (q1, .inl (c1, 300, .inl (fun _ => 0))), (q2, .inl (c2, 300, .inl (fun _ => 0))), (q3, .inl (c3, 300, .inl (fun _ => 0))), (q4, .inl (c4, 8, .inl (fun _ => 0))), (q5, .inl (c5, 40, .inl (fun _ => 0))), (q6, .inl (c6, 40, .inl (fun _ => 0)))]) C inX4 tyX4 tyX4_ok nmX4 0 rfl rfl 5 (by decide) wd_1_53 rfl rfl rfl (ty := (.array .int)) (by decide +kernel) rfl rfl (Nat.le_of_ble_eq_true rfl) rfl dX4_init_52 ?_
  refine G_aload_n C dX4_init_55 rfl 0 rfl ?_
  refine G_sipush (v := (320 : Int32)) C dX4_init_56 (by decide) ?_
  refine G_newa (atype := .int) (ty := .int) (N := 320) C rfl wd_1_96 (fun _ => rfl) (by decide) (by decide) (by decide) (Nat.le_of_ble_eq_true rfl) (Nat.le_of_ble_eq_true rfl) dX4_init_59 (fun q7 c7 => ?_)
  refine G_eq (ws' := [(h0, .inr (4, [.ref q1, .ref q2, .ref q3, .ref q4, .ref q5, .ref q6, .null, .int 0, .int 0, .int 0, .int 0])), (q1, .inl (c1, 300, .inl (fun _ => 0))), (q2, .inl (c2, 300, .inl (fun _ => 0))), (q3, .inl (c3, 300, .inl (fun _ => 0))), (q4, .inl (c4, 8, .inl (fun _ => 0))), (q5, .inl (c5, 40, .inl (fun _ => 0))), (q6, .inl (c6, 40, .inl (fun _ => 0))), (q7, .inl (c7, 320, .inl (fun _ => 0)))]) (tys' := [(c1, .int), (c2, .int), (c3, .int), (c4, .int), (c5, .int), (c6, .int), (c7, .int)]) (cells' := 7) (slots' := 1308) rfl rfl rfl rfl ?_
  refine G_putF (ws' := [(h0, .inr (4, [.ref q1, .ref q2, .ref q3, .ref q4, .ref q5, .ref q6, .ref q7, .int 0, .int 0, .int 0, .int 0])), (q1, .inl (c1, 300, .inl (fun _ => 0))), (q2, .inl (c2, 300, .inl (fun _ => 0))), (q3, .inl (c3, 300, .inl (fun _ => 0))), (q4, .inl (c4, 8, .inl (fun _ => 0))), (q5, .inl (c5, 40, .inl (fun _ => 0))), (q6, .inl (c6, 40, .inl (fun _ => 0))), (q7, .inl (c7, 320, .inl (fun _ => 0)))]) C inX4 tyX4 tyX4_ok nmX4 0 rfl rfl 6 (by decide) wd_1_55 rfl rfl rfl (ty := (.array .int)) (by decide +kernel) rfl rfl (Nat.le_of_ble_eq_true rfl) rfl dX4_init_61 ?_
  refine G_aload_n C dX4_init_64 rfl 0 rfl ?_
  refine G_iload_n C dX4_init_65 rfl 1 rfl ?_
  refine G_put (ws' := [(h0, .inr (4, [.ref q1, .ref q2, .ref q3, .ref q4, .ref q5, .ref q6, .ref q7, .int v1, .int 0, .int 0, .int 0])), (q1, .inl (c1, 300, .inl (fun _ => 0))), (q2, .inl (c2, 300, .inl (fun _ => 0))), (q3, .inl (c3, 300, .inl (fun _ => 0))), (q4, .inl (c4, 8, .inl (fun _ => 0))), (q5, .inl (c5, 40, .inl (fun _ => 0))), (q6, .inl (c6, 40, .inl (fun _ => 0))), (q7, .inl (c7, 320, .inl (fun _ => 0)))]) C inX4 tyX4 tyX4_ok nmX4 0 rfl rfl 7 (by decide) wd_1_56 rfl rfl (ty := .int) (by decide +kernel) rfl rfl (Nat.le_of_ble_eq_true rfl) rfl dX4_init_66 ?_
  exact G_retv C ⟨q1, q2, q3, q4, q5, q6, q7, c1, c2, c3, c4, c5, c6, c7, rfl, rfl⟩ dX4_init_69
theorem dX1_init_0 : decode cX1_init 0 = .ok (.aload_n 0, 1) := by decide +kernel
theorem dX1_init_1 : decode cX1_init 1 = .ok (.invokespecial 3, 3) := by decide +kernel
theorem dX1_init_4 : decode cX1_init 4 = .ok (.aload_n 0, 1) := by decide +kernel
theorem dX1_init_5 : decode cX1_init 5 = .ok (.iconst 2, 1) := by decide +kernel
theorem dX1_init_6 : decode cX1_init 6 = .ok (.putfield 9, 3) := by decide +kernel
theorem dX1_init_9 : decode cX1_init 9 = .ok (.aload_n 0, 1) := by decide +kernel
theorem dX1_init_10 : decode cX1_init 10 = .ok (.bipush 20, 2) := by decide +kernel
theorem dX1_init_12 : decode cX1_init 12 = .ok (.putfield 15, 3) := by decide +kernel
theorem dX1_init_15 : decode cX1_init 15 = .ok (.aload_n 0, 1) := by decide +kernel
theorem dX1_init_16 : decode cX1_init 16 = .ok (.iconst 5, 1) := by decide +kernel
theorem dX1_init_17 : decode cX1_init 17 = .ok (.putfield 18, 3) := by decide +kernel
theorem dX1_init_20 : decode cX1_init 20 = .ok (.aload_n 0, 1) := by decide +kernel
theorem dX1_init_21 : decode cX1_init 21 = .ok (.aload_n 1, 1) := by decide +kernel
theorem dX1_init_22 : decode cX1_init 22 = .ok (.putfield 21, 3) := by decide +kernel
theorem dX1_init_25 : decode cX1_init 25 = .ok (.return_, 1) := by decide +kernel
set_option maxHeartbeats 4000000 in
set_option maxRecDepth 100000 in
theorem ccX1_init (l : Launch) (D : va_G) (h0 : Nat) (n0 : Nat) : CC l D yX1_init (.code yX1_init cX1_init 2 none) 1 0 0 [.ref h0, .ref n0] [(h0, .inr (1, [.null, .int 0, .int 0, .int 0]))] (fun w1 t1 => w1 = [(h0, .inr (1, [.ref n0, .int (2 : Int32), .int (20 : Int32), .int (5 : Int32)]))] ∧ t1 = []) := by
  refine CC_of rfl rfl (Nat.le_of_ble_eq_true rfl) ?_
  intro p e s m args below meth c A C
  show RG D p l e _ s m args below meth c A _ _ 0 0 0 [] [(0, .ref h0), (1, .ref n0)] _ _
  refine G_aload_n C dX1_init_0 rfl 0 rfl ?_
  refine G_objInit C wd_1_102 wd_1_18 wd_1_19 dX1_init_1 (Nat.le_of_ble_eq_true rfl) (Nat.le_of_ble_eq_true rfl) ?_
  refine G_aload_n C dX1_init_4 rfl 0 rfl ?_
  refine G_iconst (v := (2 : Int32)) C dX1_init_5 (by decide) ?_
  refine G_put (ws' := [(h0, .inr (1, [.null, .int (2 : Int32), .int 0, .int 0]))]) C inX1 tyX1 tyX1_ok nmX1 0 rfl rfl 1 (by decide) wd_1_104 rfl rfl (ty := .int) (by decide +kernel) rfl rfl (Nat.le_of_ble_eq_true rfl) rfl dX1_init_6 ?_
  refine G_aload_n C dX1_init_9 rfl 0 rfl ?_
  refine G_bipush (v := (20 : Int32)) C dX1_init_10 (by decide) ?_
  refine G_put (ws' := [(h0, .inr (1, [.null, .int (2 : Int32), .int (20 : Int32), .int 0]))]) C inX1 tyX1 tyX1_ok nmX1 0 rfl rfl 2 (by decide) wd_1_106 rfl rfl (ty := .int) (by decide +kernel) rfl rfl (Nat.le_of_ble_eq_true rfl) rfl dX1_init_12 ?_
  refine G_aload_n C dX1_init_15 rfl 0 rfl ?_
  refine G_iconst (v := (5 : Int32)) C dX1_init_16 (by decide) ?_
  refine G_put (ws' := [(h0, .inr (1, [.null, .int (2 : Int32), .int (20 : Int32), .int (5 : Int32)]))]) C inX1 tyX1 tyX1_ok nmX1 0 rfl rfl 3 (by decide) wd_1_108 rfl rfl (ty := .int) (by decide +kernel) rfl rfl (Nat.le_of_ble_eq_true rfl) rfl dX1_init_17 ?_
  refine G_aload_n C dX1_init_20 rfl 0 rfl ?_
  refine G_aload_n C dX1_init_21 rfl 1 rfl ?_
  refine G_putF (ws' := [(h0, .inr (1, [.ref n0, .int (2 : Int32), .int (20 : Int32), .int (5 : Int32)]))]) C inX1 tyX1 tyX1_ok nmX1 0 rfl rfl 0 (by decide) wd_1_103 rfl rfl rfl (ty := (.object "LineDealer$Net")) (by decide +kernel) rfl rfl (Nat.le_of_ble_eq_true rfl) rfl dX1_init_22 ?_
  exact G_retv C ⟨rfl, rfl⟩ dX1_init_25
theorem dX3_init_0 : decode cX3_init 0 = .ok (.aload_n 0, 1) := by decide +kernel
theorem dX3_init_1 : decode cX3_init 1 = .ok (.invokespecial 3, 3) := by decide +kernel
theorem dX3_init_4 : decode cX3_init 4 = .ok (.aload_n 0, 1) := by decide +kernel
theorem dX3_init_5 : decode cX3_init 5 = .ok (.aload_n 1, 1) := by decide +kernel
theorem dX3_init_6 : decode cX3_init 6 = .ok (.putfield 9, 3) := by decide +kernel
theorem dX3_init_9 : decode cX3_init 9 = .ok (.return_, 1) := by decide +kernel
set_option maxHeartbeats 4000000 in
set_option maxRecDepth 100000 in
theorem ccX3_init (l : Launch) (D : va_G) (h0 : Nat) (n0 : Nat) : CC l D yX3_init (.code yX3_init cX3_init 2 none) 1 0 0 [.ref h0, .ref n0] [(h0, .inr (3, [.null, .int 0, .int 0, .int 0, .int 0]))] (fun w1 t1 => w1 = [(h0, .inr (3, [.ref n0, .int 0, .int 0, .int 0, .int 0]))] ∧ t1 = []) := by
  refine CC_of rfl rfl (Nat.le_of_ble_eq_true rfl) ?_
  intro p e s m args below meth c A C
  show RG D p l e _ s m args below meth c A _ _ 0 0 0 [] [(0, .ref h0), (1, .ref n0)] _ _
  refine G_aload_n C dX3_init_0 rfl 0 rfl ?_
  refine G_objInit C wd_1_124 wd_1_18 wd_1_19 dX3_init_1 (Nat.le_of_ble_eq_true rfl) (Nat.le_of_ble_eq_true rfl) ?_
  refine G_aload_n C dX3_init_4 rfl 0 rfl ?_
  refine G_aload_n C dX3_init_5 rfl 1 rfl ?_
  refine G_putF (ws' := [(h0, .inr (3, [.ref n0, .int 0, .int 0, .int 0, .int 0]))]) C inX3 tyX3 tyX3_ok nmX3 0 rfl rfl 0 (by decide) wd_1_125 rfl rfl rfl (ty := (.object "LineDealer$Net")) (by decide +kernel) rfl rfl (Nat.le_of_ble_eq_true rfl) rfl dX3_init_6 ?_
  exact G_retv C ⟨rfl, rfl⟩ dX3_init_9
theorem dX0_init_0 : decode cX0_init 0 = .ok (.aload_n 0, 1) := by decide +kernel
theorem dX0_init_1 : decode cX0_init 1 = .ok (.invokespecial 3, 3) := by decide +kernel
theorem dX0_init_4 : decode cX0_init 4 = .ok (.aload_n 0, 1) := by decide +kernel
theorem dX0_init_5 : decode cX0_init 5 = .ok (.bipush 8, 2) := by decide +kernel
theorem dX0_init_7 : decode cX0_init 7 = .ok (.newarray .int, 2) := by decide +kernel
theorem dX0_init_9 : decode cX0_init 9 = .ok (.putfield 9, 3) := by decide +kernel
theorem dX0_init_12 : decode cX0_init 12 = .ok (.aload_n 0, 1) := by decide +kernel
theorem dX0_init_13 : decode cX0_init 13 = .ok (.iconst 3, 1) := by decide +kernel
theorem dX0_init_14 : decode cX0_init 14 = .ok (.newarray .int, 2) := by decide +kernel
theorem dX0_init_16 : decode cX0_init 16 = .ok (.putfield 15, 3) := by decide +kernel
theorem dX0_init_19 : decode cX0_init 19 = .ok (.aload_n 0, 1) := by decide +kernel
theorem dX0_init_20 : decode cX0_init 20 = .ok (.bipush 40, 2) := by decide +kernel
theorem dX0_init_22 : decode cX0_init 22 = .ok (.newarray .int, 2) := by decide +kernel
theorem dX0_init_24 : decode cX0_init 24 = .ok (.putfield 18, 3) := by decide +kernel
theorem dX0_init_27 : decode cX0_init 27 = .ok (.aload_n 0, 1) := by decide +kernel
theorem dX0_init_28 : decode cX0_init 28 = .ok (.aload_n 1, 1) := by decide +kernel
theorem dX0_init_29 : decode cX0_init 29 = .ok (.putfield 21, 3) := by decide +kernel
theorem dX0_init_32 : decode cX0_init 32 = .ok (.return_, 1) := by decide +kernel
set_option maxHeartbeats 4000000 in
set_option maxRecDepth 100000 in
theorem ccX0_init (l : Launch) (D : va_G) (h0 : Nat) (n0 : Nat) : CC l D yX0_init (.code yX0_init cX0_init 2 none) 1 3 51 [.ref h0, .ref n0] [(h0, .inr (0, [.null, .null, .null, .null, .int 0, .int 0, .int 0]))] (fun w1 t1 => ∃ (q1 q2 q3 : Nat) (c1 c2 c3 : ClassId), w1 = [(h0, .inr (0, [.ref n0, .ref q1, .ref q2, .ref q3, .int 0, .int 0, .int 0])), (q1, .inl (c1, 8, .inl (fun _ => 0))), (q2, .inl (c2, 3, .inl (fun _ => 0))), (q3, .inl (c3, 40, .inl (fun _ => 0)))] ∧ t1 = [(c1, .int), (c2, .int), (c3, .int)]) := by
  refine CC_of rfl rfl (Nat.le_of_ble_eq_true rfl) ?_
  intro p e s m args below meth c A C
  show RG D p l e _ s m args below meth c A _ _ 0 0 0 [] [(0, .ref h0), (1, .ref n0)] _ _
  refine G_aload_n C dX0_init_0 rfl 0 rfl ?_
  refine G_objInit C wd_1_148 wd_1_18 wd_1_19 dX0_init_1 (Nat.le_of_ble_eq_true rfl) (Nat.le_of_ble_eq_true rfl) ?_
  refine G_aload_n C dX0_init_4 rfl 0 rfl ?_
  refine G_bipush (v := (8 : Int32)) C dX0_init_5 (by decide) ?_
  refine G_newa (atype := .int) (ty := .int) (N := 8) C rfl wd_1_96 (fun _ => rfl) (by decide) (by decide) (by decide) (Nat.le_of_ble_eq_true rfl) (Nat.le_of_ble_eq_true rfl) dX0_init_7 (fun q1 c1 => ?_)
  refine G_eq (ws' := [(h0, .inr (0, [.null, .null, .null, .null, .int 0, .int 0, .int 0])), (q1, .inl (c1, 8, .inl (fun _ => 0)))]) (tys' := [(c1, .int)]) (cells' := 1) (slots' := 8) rfl rfl rfl rfl ?_
  refine G_putF (ws' := [(h0, .inr (0, [.null, .ref q1, .null, .null, .int 0, .int 0, .int 0])), (q1, .inl (c1, 8, .inl (fun _ => 0)))]) C inX0 tyX0 tyX0_ok nmX0 0 rfl rfl 1 (by decide) wd_1_150 rfl rfl rfl (ty := (.array .int)) (by decide +kernel) rfl rfl (Nat.le_of_ble_eq_true rfl) rfl dX0_init_9 ?_
  refine G_aload_n C dX0_init_12 rfl 0 rfl ?_
  refine G_iconst (v := (3 : Int32)) C dX0_init_13 (by decide) ?_
  refine G_newa (atype := .int) (ty := .int) (N := 3) C rfl wd_1_96 (fun _ => rfl) (by decide) (by decide) (by decide) (Nat.le_of_ble_eq_true rfl) (Nat.le_of_ble_eq_true rfl) dX0_init_14 (fun q2 c2 => ?_)
  refine G_eq (ws' := [(h0, .inr (0, [.null, .ref q1, .null, .null, .int 0, .int 0, .int 0])), (q1, .inl (c1, 8, .inl (fun _ => 0))), (q2, .inl (c2, 3, .inl (fun _ => 0)))]) (tys' := [(c1, .int), (c2, .int)]) (cells' := 2) (slots' := 11) rfl rfl rfl rfl ?_
  refine G_putF (ws' := [(h0, .inr (0, [.null, .ref q1, .ref q2, .null, .int 0, .int 0, .int 0])), (q1, .inl (c1, 8, .inl (fun _ => 0))), (q2, .inl (c2, 3, .inl (fun _ => 0)))]) C inX0 tyX0 tyX0_ok nmX0 0 rfl rfl 2 (by decide) wd_1_151 rfl rfl rfl (ty := (.array .int)) (by decide +kernel) rfl rfl (Nat.le_of_ble_eq_true rfl) rfl dX0_init_16 ?_
  refine G_aload_n C dX0_init_19 rfl 0 rfl ?_
  refine G_bipush (v := (40 : Int32)) C dX0_init_20 (by decide) ?_
  refine G_newa (atype := .int) (ty := .int) (N := 40) C rfl wd_1_96 (fun _ => rfl) (by decide) (by decide) (by decide) (Nat.le_of_ble_eq_true rfl) (Nat.le_of_ble_eq_true rfl) dX0_init_22 (fun q3 c3 => ?_)
  refine G_eq (ws' := [(h0, .inr (0, [.null, .ref q1, .ref q2, .null, .int 0, .int 0, .int 0])), (q1, .inl (c1, 8, .inl (fun _ => 0))), (q2, .inl (c2, 3, .inl (fun _ => 0))), (q3, .inl (c3, 40, .inl (fun _ => 0)))]) (tys' := [(c1, .int), (c2, .int), (c3, .int)]) (cells' := 3) (slots' := 51) rfl rfl rfl rfl ?_
  refine G_putF (ws' := [(h0, .inr (0, [.null, .ref q1, .ref q2, .ref q3, .int 0, .int 0, .int 0])), (q1, .inl (c1, 8, .inl (fun _ => 0))), (q2, .inl (c2, 3, .inl (fun _ => 0))), (q3, .inl (c3, 40, .inl (fun _ => 0)))]) C inX0 tyX0 tyX0_ok nmX0 0 rfl rfl 3 (by decide) wd_1_152 rfl rfl rfl (ty := (.array .int)) (by decide +kernel) rfl rfl (Nat.le_of_ble_eq_true rfl) rfl dX0_init_24 ?_
  refine G_aload_n C dX0_init_27 rfl 0 rfl ?_
  refine G_aload_n C dX0_init_28 rfl 1 rfl ?_
  refine G_putF (ws' := [(h0, .inr (0, [.ref n0, .ref q1, .ref q2, .ref q3, .int 0, .int 0, .int 0])), (q1, .inl (c1, 8, .inl (fun _ => 0))), (q2, .inl (c2, 3, .inl (fun _ => 0))), (q3, .inl (c3, 40, .inl (fun _ => 0)))]) C inX0 tyX0 tyX0_ok nmX0 0 rfl rfl 0 (by decide) wd_1_149 rfl rfl rfl (ty := (.object "LineDealer$Net")) (by decide +kernel) rfl rfl (Nat.le_of_ble_eq_true rfl) rfl dX0_init_29 ?_
  exact G_retv C ⟨q1, q2, q3, c1, c2, c3, rfl, rfl⟩ dX0_init_32
theorem dX5_init_0 : decode cX5_init 0 = .ok (.aload_n 0, 1) := by decide +kernel
theorem dX5_init_1 : decode cX5_init 1 = .ok (.invokespecial 3, 3) := by decide +kernel
theorem dX5_init_4 : decode cX5_init 4 = .ok (.aload_n 0, 1) := by decide +kernel
theorem dX5_init_5 : decode cX5_init 5 = .ok (.bipush 40, 2) := by decide +kernel
theorem dX5_init_7 : decode cX5_init 7 = .ok (.newarray .int, 2) := by decide +kernel
theorem dX5_init_9 : decode cX5_init 9 = .ok (.putfield 9, 3) := by decide +kernel
theorem dX5_init_12 : decode cX5_init 12 = .ok (.aload_n 0, 1) := by decide +kernel
theorem dX5_init_13 : decode cX5_init 13 = .ok (.bipush 40, 2) := by decide +kernel
theorem dX5_init_15 : decode cX5_init 15 = .ok (.newarray .int, 2) := by decide +kernel
theorem dX5_init_17 : decode cX5_init 17 = .ok (.putfield 15, 3) := by decide +kernel
theorem dX5_init_20 : decode cX5_init 20 = .ok (.aload_n 0, 1) := by decide +kernel
theorem dX5_init_21 : decode cX5_init 21 = .ok (.aload_n 1, 1) := by decide +kernel
theorem dX5_init_22 : decode cX5_init 22 = .ok (.putfield 18, 3) := by decide +kernel
theorem dX5_init_25 : decode cX5_init 25 = .ok (.return_, 1) := by decide +kernel
set_option maxHeartbeats 4000000 in
set_option maxRecDepth 100000 in
theorem ccX5_init (l : Launch) (D : va_G) (h0 : Nat) (n0 : Nat) : CC l D yX5_init (.code yX5_init cX5_init 2 none) 1 2 80 [.ref h0, .ref n0] [(h0, .inr (5, [.null, .null, .null, .int 0]))] (fun w1 t1 => ∃ (q1 q2 : Nat) (c1 c2 : ClassId), w1 = [(h0, .inr (5, [.ref n0, .ref q1, .ref q2, .int 0])), (q1, .inl (c1, 40, .inl (fun _ => 0))), (q2, .inl (c2, 40, .inl (fun _ => 0)))] ∧ t1 = [(c1, .int), (c2, .int)]) := by
  refine CC_of rfl rfl (Nat.le_of_ble_eq_true rfl) ?_
  intro p e s m args below meth c A C
  show RG D p l e _ s m args below meth c A _ _ 0 0 0 [] [(0, .ref h0), (1, .ref n0)] _ _
  refine G_aload_n C dX5_init_0 rfl 0 rfl ?_
  refine G_objInit C wd_1_176 wd_1_18 wd_1_19 dX5_init_1 (Nat.le_of_ble_eq_true rfl) (Nat.le_of_ble_eq_true rfl) ?_
  refine G_aload_n C dX5_init_4 rfl 0 rfl ?_
  refine G_bipush (v := (40 : Int32)) C dX5_init_5 (by decide) ?_
  refine G_newa (atype := .int) (ty := .int) (N := 40) C rfl wd_1_96 (fun _ => rfl) (by decide) (by decide) (by decide) (Nat.le_of_ble_eq_true rfl) (Nat.le_of_ble_eq_true rfl) dX5_init_7 (fun q1 c1 => ?_)
  refine G_eq (ws' := [(h0, .inr (5, [.null, .null, .null, .int 0])), (q1, .inl (c1, 40, .inl (fun _ => 0)))]) (tys' := [(c1, .int)]) (cells' := 1) (slots' := 40) rfl rfl rfl rfl ?_
  refine G_putF (ws' := [(h0, .inr (5, [.null, .ref q1, .null, .int 0])), (q1, .inl (c1, 40, .inl (fun _ => 0)))]) C inX5 tyX5 tyX5_ok nmX5 0 rfl rfl 1 (by decide) wd_1_178 rfl rfl rfl (ty := (.array .int)) (by decide +kernel) rfl rfl (Nat.le_of_ble_eq_true rfl) rfl dX5_init_9 ?_
  refine G_aload_n C dX5_init_12 rfl 0 rfl ?_
  refine G_bipush (v := (40 : Int32)) C dX5_init_13 (by decide) ?_
  refine G_newa (atype := .int) (ty := .int) (N := 40) C rfl wd_1_96 (fun _ => rfl) (by decide) (by decide) (by decide) (Nat.le_of_ble_eq_true rfl) (Nat.le_of_ble_eq_true rfl) dX5_init_15 (fun q2 c2 => ?_)
  refine G_eq (ws' := [(h0, .inr (5, [.null, .ref q1, .null, .int 0])), (q1, .inl (c1, 40, .inl (fun _ => 0))), (q2, .inl (c2, 40, .inl (fun _ => 0)))]) (tys' := [(c1, .int), (c2, .int)]) (cells' := 2) (slots' := 80) rfl rfl rfl rfl ?_
  refine G_putF (ws' := [(h0, .inr (5, [.null, .ref q1, .ref q2, .int 0])), (q1, .inl (c1, 40, .inl (fun _ => 0))), (q2, .inl (c2, 40, .inl (fun _ => 0)))]) C inX5 tyX5 tyX5_ok nmX5 0 rfl rfl 2 (by decide) wd_1_180 rfl rfl rfl (ty := (.array .int)) (by decide +kernel) rfl rfl (Nat.le_of_ble_eq_true rfl) rfl dX5_init_17 ?_
  refine G_aload_n C dX5_init_20 rfl 0 rfl ?_
  refine G_aload_n C dX5_init_21 rfl 1 rfl ?_
  refine G_putF (ws' := [(h0, .inr (5, [.ref n0, .ref q1, .ref q2, .int 0])), (q1, .inl (c1, 40, .inl (fun _ => 0))), (q2, .inl (c2, 40, .inl (fun _ => 0)))]) C inX5 tyX5 tyX5_ok nmX5 0 rfl rfl 0 (by decide) wd_1_177 rfl rfl rfl (ty := (.object "LineDealer$Net")) (by decide +kernel) rfl rfl (Nat.le_of_ble_eq_true rfl) rfl dX5_init_22 ?_
  exact G_retv C ⟨q1, q2, c1, c2, rfl, rfl⟩ dX5_init_25
theorem dX2_init_0 : decode cX2_init 0 = .ok (.aload_n 0, 1) := by decide +kernel
theorem dX2_init_1 : decode cX2_init 1 = .ok (.invokespecial 3, 3) := by decide +kernel
theorem dX2_init_4 : decode cX2_init 4 = .ok (.aload_n 0, 1) := by decide +kernel
theorem dX2_init_5 : decode cX2_init 5 = .ok (.bipush 8, 2) := by decide +kernel
theorem dX2_init_7 : decode cX2_init 7 = .ok (.newarray .int, 2) := by decide +kernel
theorem dX2_init_9 : decode cX2_init 9 = .ok (.putfield 9, 3) := by decide +kernel
theorem dX2_init_12 : decode cX2_init 12 = .ok (.aload_n 0, 1) := by decide +kernel
theorem dX2_init_13 : decode cX2_init 13 = .ok (.aload_n 1, 1) := by decide +kernel
theorem dX2_init_14 : decode cX2_init 14 = .ok (.putfield 15, 3) := by decide +kernel
theorem dX2_init_17 : decode cX2_init 17 = .ok (.return_, 1) := by decide +kernel
set_option maxHeartbeats 4000000 in
set_option maxRecDepth 100000 in
theorem ccX2_init (l : Launch) (D : va_G) (h0 : Nat) (n0 : Nat) : CC l D yX2_init (.code yX2_init cX2_init 2 none) 1 1 8 [.ref h0, .ref n0] [(h0, .inr (2, [.null, .null]))] (fun w1 t1 => ∃ (q1 : Nat) (c1 : ClassId), w1 = [(h0, .inr (2, [.ref n0, .ref q1])), (q1, .inl (c1, 8, .inl (fun _ => 0)))] ∧ t1 = [(c1, .int)]) := by
  refine CC_of rfl rfl (Nat.le_of_ble_eq_true rfl) ?_
  intro p e s m args below meth c A C
  show RG D p l e _ s m args below meth c A _ _ 0 0 0 [] [(0, .ref h0), (1, .ref n0)] _ _
  refine G_aload_n C dX2_init_0 rfl 0 rfl ?_
  refine G_objInit C wd_1_197 wd_1_18 wd_1_19 dX2_init_1 (Nat.le_of_ble_eq_true rfl) (Nat.le_of_ble_eq_true rfl) ?_
  refine G_aload_n C dX2_init_4 rfl 0 rfl ?_
  refine G_bipush (v := (8 : Int32)) C dX2_init_5 (by decide) ?_
  refine G_newa (atype := .int) (ty := .int) (N := 8) C rfl wd_1_96 (fun _ => rfl) (by decide) (by decide) (by decide) (Nat.le_of_ble_eq_true rfl) (Nat.le_of_ble_eq_true rfl) dX2_init_7 (fun q1 c1 => ?_)
  refine G_eq (ws' := [(h0, .inr (2, [.null, .null])), (q1, .inl (c1, 8, .inl (fun _ => 0)))]) (tys' := [(c1, .int)]) (cells' := 1) (slots' := 8) rfl rfl rfl rfl ?_
  refine G_putF (ws' := [(h0, .inr (2, [.null, .ref q1])), (q1, .inl (c1, 8, .inl (fun _ => 0)))]) C inX2 tyX2 tyX2_ok nmX2 0 rfl rfl 1 (by decide) wd_1_199 rfl rfl rfl (ty := (.array .int)) (by decide +kernel) rfl rfl (Nat.le_of_ble_eq_true rfl) rfl dX2_init_9 ?_
  refine G_aload_n C dX2_init_12 rfl 0 rfl ?_
  refine G_aload_n C dX2_init_13 rfl 1 rfl ?_
  refine G_putF (ws' := [(h0, .inr (2, [.ref n0, .ref q1])), (q1, .inl (c1, 8, .inl (fun _ => 0)))]) C inX2 tyX2 tyX2_ok nmX2 0 rfl rfl 0 (by decide) wd_1_198 rfl rfl rfl (ty := (.object "LineDealer$Net")) (by decide +kernel) rfl rfl (Nat.le_of_ble_eq_true rfl) rfl dX2_init_14 ?_
  exact G_retv C ⟨q1, c1, rfl, rfl⟩ dX2_init_17
theorem dX6_init_0 : decode cX6_init 0 = .ok (.aload_n 0, 1) := by decide +kernel
theorem dX6_init_1 : decode cX6_init 1 = .ok (.invokespecial 1, 3) := by decide +kernel
theorem dX6_init_4 : decode cX6_init 4 = .ok (.aload_n 0, 1) := by decide +kernel
theorem dX6_init_5 : decode cX6_init 5 = .ok (.new 7, 3) := by decide +kernel
theorem dX6_init_8 : decode cX6_init 8 = .ok (.dup, 1) := by decide +kernel
theorem dX6_init_9 : decode cX6_init 9 = .ok (.iconst 2, 1) := by decide +kernel
theorem dX6_init_10 : decode cX6_init 10 = .ok (.bipush 8, 2) := by decide +kernel
theorem dX6_init_12 : decode cX6_init 12 = .ok (.iload_n 1, 1) := by decide +kernel
theorem dX6_init_13 : decode cX6_init 13 = .ok (.invokestatic 11, 3) := by decide +kernel
theorem dX6_init_16 : decode cX6_init 16 = .ok (.invokestatic 17, 3) := by decide +kernel
theorem dX6_init_19 : decode cX6_init 19 = .ok (.invokespecial 20, 3) := by decide +kernel
theorem dX6_init_22 : decode cX6_init 22 = .ok (.putfield 23, 3) := by decide +kernel
theorem dX6_init_25 : decode cX6_init 25 = .ok (.aload_n 0, 1) := by decide +kernel
theorem dX6_init_26 : decode cX6_init 26 = .ok (.new 27, 3) := by decide +kernel
theorem dX6_init_29 : decode cX6_init 29 = .ok (.dup, 1) := by decide +kernel
theorem dX6_init_30 : decode cX6_init 30 = .ok (.aload_n 0, 1) := by decide +kernel
theorem dX6_init_31 : decode cX6_init 31 = .ok (.getfield 23, 3) := by decide +kernel
theorem dX6_init_34 : decode cX6_init 34 = .ok (.invokespecial 29, 3) := by decide +kernel
theorem dX6_init_37 : decode cX6_init 37 = .ok (.putfield 32, 3) := by decide +kernel
theorem dX6_init_40 : decode cX6_init 40 = .ok (.aload_n 0, 1) := by decide +kernel
theorem dX6_init_41 : decode cX6_init 41 = .ok (.new 36, 3) := by decide +kernel
theorem dX6_init_44 : decode cX6_init 44 = .ok (.dup, 1) := by decide +kernel
theorem dX6_init_45 : decode cX6_init 45 = .ok (.aload_n 0, 1) := by decide +kernel
theorem dX6_init_46 : decode cX6_init 46 = .ok (.getfield 23, 3) := by decide +kernel
theorem dX6_init_49 : decode cX6_init 49 = .ok (.invokespecial 38, 3) := by decide +kernel
theorem dX6_init_52 : decode cX6_init 52 = .ok (.putfield 39, 3) := by decide +kernel
theorem dX6_init_55 : decode cX6_init 55 = .ok (.aload_n 0, 1) := by decide +kernel
theorem dX6_init_56 : decode cX6_init 56 = .ok (.new 43, 3) := by decide +kernel
theorem dX6_init_59 : decode cX6_init 59 = .ok (.dup, 1) := by decide +kernel
theorem dX6_init_60 : decode cX6_init 60 = .ok (.aload_n 0, 1) := by decide +kernel
theorem dX6_init_61 : decode cX6_init 61 = .ok (.getfield 23, 3) := by decide +kernel
theorem dX6_init_64 : decode cX6_init 64 = .ok (.invokespecial 45, 3) := by decide +kernel
theorem dX6_init_67 : decode cX6_init 67 = .ok (.putfield 46, 3) := by decide +kernel
theorem dX6_init_70 : decode cX6_init 70 = .ok (.aload_n 0, 1) := by decide +kernel
theorem dX6_init_71 : decode cX6_init 71 = .ok (.new 50, 3) := by decide +kernel
theorem dX6_init_74 : decode cX6_init 74 = .ok (.dup, 1) := by decide +kernel
theorem dX6_init_75 : decode cX6_init 75 = .ok (.aload_n 0, 1) := by decide +kernel
theorem dX6_init_76 : decode cX6_init 76 = .ok (.getfield 23, 3) := by decide +kernel
theorem dX6_init_79 : decode cX6_init 79 = .ok (.invokespecial 52, 3) := by decide +kernel
theorem dX6_init_82 : decode cX6_init 82 = .ok (.putfield 53, 3) := by decide +kernel
theorem dX6_init_85 : decode cX6_init 85 = .ok (.aload_n 0, 1) := by decide +kernel
theorem dX6_init_86 : decode cX6_init 86 = .ok (.new 57, 3) := by decide +kernel
theorem dX6_init_89 : decode cX6_init 89 = .ok (.dup, 1) := by decide +kernel
theorem dX6_init_90 : decode cX6_init 90 = .ok (.aload_n 0, 1) := by decide +kernel
theorem dX6_init_91 : decode cX6_init 91 = .ok (.getfield 23, 3) := by decide +kernel
theorem dX6_init_94 : decode cX6_init 94 = .ok (.invokespecial 59, 3) := by decide +kernel
theorem dX6_init_97 : decode cX6_init 97 = .ok (.putfield 60, 3) := by decide +kernel
theorem dX6_init_100 : decode cX6_init 100 = .ok (.aload_n 0, 1) := by decide +kernel
theorem dX6_init_101 : decode cX6_init 101 = .ok (.sipush 300, 3) := by decide +kernel
theorem dX6_init_104 : decode cX6_init 104 = .ok (.newarray .int, 2) := by decide +kernel
theorem dX6_init_106 : decode cX6_init 106 = .ok (.putfield 64, 3) := by decide +kernel
theorem dX6_init_109 : decode cX6_init 109 = .ok (.return_, 1) := by decide +kernel
set_option maxHeartbeats 4000000 in
set_option maxRecDepth 100000 in
theorem ccX6_init (l : Launch) (D : va_G) (h0 : Nat) (v1 : Int32) : CC l D yX6_init (.code yX6_init cX6_init 2 none) 2 20 1780 [.ref h0, .int v1] [(h0, .inr (6, [.null, .null, .null, .null, .null, .null, .null, .int 0, .int 0]))] (fun w1 t1 => ∃ (a : Nat → Nat) (cA : ClassId), w1 = wX a cA (S0X ((if (2 : Int32) < (if v1 < (8 : Int32) then v1 else (8 : Int32)) then (if v1 < (8 : Int32) then v1 else (8 : Int32)) else (2 : Int32)))) ∧ t1 = [(cA, .int)] ∧ a 0 = h0) := by
  refine CC_of rfl rfl (Nat.le_of_ble_eq_true rfl) ?_
  intro p e s m args below meth c A C
  show RG D p l e _ s m args below meth c A _ _ 0 0 0 [] [(0, .ref h0), (1, .int v1)] _ _
  refine G_aload_n C dX6_init_0 rfl 0 rfl ?_
  refine G_objInit C wd_1_17 wd_1_18 wd_1_19 dX6_init_1 (Nat.le_of_ble_eq_true rfl) (Nat.le_of_ble_eq_true rfl) ?_
  refine G_aload_n C dX6_init_4 rfl 0 rfl ?_
  refine G_new (ci := 4) (fs := [.null, .null, .null, .null, .null, .null, .null, .int 0, .int 0, .int 0, .int 0]) (N := 11) C inX4 tyX4 tyX4_ok wd_1_20 wd_1_21 wd_1_2 rfl (fun j hj => by rcases (show j = 0 ∨ j = 1 ∨ j = 2 ∨ j = 3 ∨ j = 4 ∨ j = 5 ∨ j = 6 ∨ j = 7 ∨ j = 8 ∨ j = 9 ∨ j = 10 by omega) with rfl | rfl | rfl | rfl | rfl | rfl | rfl | rfl | rfl | rfl | rfl <;> rfl) (Nat.le_of_ble_eq_true rfl) (Nat.le_of_ble_eq_true rfl) dX6_init_5 (fun q1 => ?_)
  refine G_eq (ws' := [(h0, .inr (6, [.null, .null, .null, .null, .null, .null, .null, .int 0, .int 0])), (q1, .inr (4, [.null, .null, .null, .null, .null, .null, .null, .int 0, .int 0, .int 0, .int 0]))]) (tys' := []) (cells' := 1) (slots' := 11) rfl rfl rfl rfl ?_
  refine G_dup C dX6_init_8 rfl ?_
  refine G_iconst (v := (2 : Int32)) C dX6_init_9 (by decide) ?_
  refine G_bipush (v := (8 : Int32)) C dX6_init_10 (by decide) ?_
  refine G_iload_n C dX6_init_12 rfl 1 rfl ?_
  refine G_mmin C wd_1_22 wd_1_23 wd_1_3 wd_1_24 (Nat.le_of_ble_eq_true rfl) (Nat.le_of_ble_eq_true rfl) (Nat.le_of_ble_eq_true rfl) (Nat.le_of_ble_eq_true rfl) dX6_init_13 ?_
  refine G_mmax C wd_1_25 wd_1_26 wd_1_3 wd_1_27 (Nat.le_of_ble_eq_true rfl) (Nat.le_of_ble_eq_true rfl) (Nat.le_of_ble_eq_true rfl) (Nat.le_of_ble_eq_true rfl) dX6_init_16 ?_
  refine G_call (n := 1) (wr := [(h0, .inr (6, [.null, .null, .null, .null, .null, .null, .null, .int 0, .int 0]))]) (As := [.int (if (2 : Int32) < (if v1 < (8 : Int32) then v1 else (8 : Int32)) then (if v1 < (8 : Int32) then v1 else (8 : Int32)) else (2 : Int32))]) (rest := [.ref q1, .ref h0]) (d := 1) (mc := 7) (ms := 1308) C (ccX4_init l D q1 ((if (2 : Int32) < (if v1 < (8 : Int32) then v1 else (8 : Int32)) then (if v1 < (8 : Int32) then v1 else (8 : Int32)) else (2 : Int32)))) [1] [0] rfl rfl rfl rfl rfl (by decide) wd_1_28 wd_1_29 wd_1_2 wd_1_30 rfl (by decide +kernel) ⟨Nat.le_of_ble_eq_true rfl, Nat.le_of_ble_eq_true rfl⟩ rfl rfl (Nat.le_of_ble_eq_true rfl) dX6_init_19 ⟨Nat.le_of_ble_eq_true rfl, Nat.le_of_ble_eq_true rfl⟩ (fun w1 t1 hB => ?_)
  obtain ⟨q2, q3, q4, q5, q6, q7, q8, c2, c3, c4, c5, c6, c7, c8, rfl, rfl⟩ := hB
  refine G_eq (ws' := [(h0, .inr (6, [.null, .null, .null, .null, .null, .null, .null, .int 0, .int 0])), (q1, .inr (4, [.ref q2, .ref q3, .ref q4, .ref q5, .ref q6, .ref q7, .ref q8, .int ((if (2 : Int32) < (if v1 < (8 : Int32) then v1 else (8 : Int32)) then (if v1 < (8 : Int32) then v1 else (8 : Int32)) else (2 : Int32))), .int 0, .int 0, .int 0])), (q2, .inl (c2, 300, .inl (fun _ => 0))), (q3, .inl (c3, 300, .inl (fun _ => 0))), (q4, .inl (c4, 300, .inl (fun _ => 0))), (q5, .inl (c5, 8, .inl (fun _ => 0))), (q6, .inl (c6, 40, .inl (fun _ => 0))), (q7, .inl (c7, 40, .inl (fun _ => 0))), (q8, .inl (c8, 320, .inl (fun _ => 0)))]) (tys' := [(c2, .int), (c3, .int), (c4, .int), (c5, .int), (c6, .int), (c7, .int), (c8, .int)]) (cells' := 8) (slots' := 1319) rfl rfl rfl rfl ?_
  refine G_putF (ws' := [(h0, .inr (6, [.ref q1, .null, .null, .null, .null, .null, .null, .int 0, .int 0])), (q1, .inr (4, [.ref q2, .ref q3, .ref q4, .ref q5, .ref q6, .ref q7, .ref q8, .int ((if (2 : Int32) < (if v1 < (8 : Int32) then v1 else (8 : Int32)) then (if v1 < (8 : Int32) then v1 else (8 : Int32)) else (2 : Int32))), .int 0, .int 0, .int 0])), (q2, .inl (c2, 300, .inl (fun _ => 0))), (q3, .inl (c3, 300, .inl (fun _ => 0))), (q4, .inl (c4, 300, .inl (fun _ => 0))), (q5, .inl (c5, 8, .inl (fun _ => 0))), (q6, .inl (c6, 40, .inl (fun _ => 0))), (q7, .inl (c7, 40, .inl (fun _ => 0))), (q8, .inl (c8, 320, .inl (fun _ => 0)))]) C inX6 tyX6 tyX6_ok nmX6 0 rfl rfl 0 (by decide) wd_1_205 rfl rfl rfl (ty := (.object "LineDealer$Net")) (by decide +kernel) rfl rfl (Nat.le_of_ble_eq_true rfl) rfl dX6_init_22 ?_
  refine G_aload_n C dX6_init_25 rfl 0 rfl ?_
  refine G_new (ci := 1) (fs := [.null, .int 0, .int 0, .int 0]) (N := 4) C inX1 tyX1 tyX1_ok wd_1_97 wd_1_98 wd_1_4 rfl (fun j hj => by rcases (show j = 0 ∨ j = 1 ∨ j = 2 ∨ j = 3 by omega) with rfl | rfl | rfl | rfl <;> rfl) (Nat.le_of_ble_eq_true rfl) (Nat.le_of_ble_eq_true rfl) dX6_init_26 (fun q9 => ?_)
  refine G_eq (ws' := [(h0, .inr (6, [.ref q1, .null, .null, .null, .null, .null, .null, .int 0, .int 0])), (q1, .inr (4, [.ref q2, .ref q3, .ref q4, .ref q5, .ref q6, .ref q7, .ref q8, .int ((if (2 : Int32) < (if v1 < (8 : Int32) then v1 else (8 : Int32)) then (if v1 < (8 : Int32) then v1 else (8 : Int32)) else (2 : Int32))), .int 0, .int 0, .int 0])), (q2, .inl (c2, 300, .inl (fun _ => 0))), (q3, .inl (c3, 300, .inl (fun _ => 0))), (q4, .inl (c4, 300, .inl (fun _ => 0))), (q5, .inl (c5, 8, .inl (fun _ => 0))), (q6, .inl (c6, 40, .inl (fun _ => 0))), (q7, .inl (c7, 40, .inl (fun _ => 0))), (q8, .inl (c8, 320, .inl (fun _ => 0))), (q9, .inr (1, [.null, .int 0, .int 0, .int 0]))]) (tys' := [(c2, .int), (c3, .int), (c4, .int), (c5, .int), (c6, .int), (c7, .int), (c8, .int)]) (cells' := 9) (slots' := 1323) rfl rfl rfl rfl ?_
  refine G_dup C dX6_init_29 rfl ?_
  refine G_aload_n C dX6_init_30 rfl 0 rfl ?_
  refine G_get (v := .ref q1) C inX6 0 rfl rfl 0 (by decide) wd_1_205 rfl rfl dX6_init_31 ?_
  refine G_call (n := 1) (wr := [(h0, .inr (6, [.ref q1, .null, .null, .null, .null, .null, .null, .int 0, .int 0])), (q1, .inr (4, [.ref q2, .ref q3, .ref q4, .ref q5, .ref q6, .ref q7, .ref q8, .int ((if (2 : Int32) < (if v1 < (8 : Int32) then v1 else (8 : Int32)) then (if v1 < (8 : Int32) then v1 else (8 : Int32)) else (2 : Int32))), .int 0, .int 0, .int 0])), (q2, .inl (c2, 300, .inl (fun _ => 0))), (q3, .inl (c3, 300, .inl (fun _ => 0))), (q4, .inl (c4, 300, .inl (fun _ => 0))), (q5, .inl (c5, 8, .inl (fun _ => 0))), (q6, .inl (c6, 40, .inl (fun _ => 0))), (q7, .inl (c7, 40, .inl (fun _ => 0))), (q8, .inl (c8, 320, .inl (fun _ => 0)))]) (As := [.ref q1]) (rest := [.ref q9, .ref h0]) (d := 1) (mc := 0) (ms := 0) C (ccX1_init l D q9 q1) [9] [0, 1, 2, 3, 4, 5, 6, 7, 8] rfl rfl rfl rfl rfl (by decide) wd_1_99 wd_1_100 wd_1_4 wd_1_101 rfl (by decide +kernel) ⟨Nat.le_of_ble_eq_true rfl, Nat.le_of_ble_eq_true rfl⟩ rfl rfl (Nat.le_of_ble_eq_true rfl) dX6_init_34 ⟨Nat.le_of_ble_eq_true rfl, Nat.le_of_ble_eq_true rfl⟩ (fun w1 t1 hB => ?_)
  obtain ⟨rfl, rfl⟩ := hB
  refine G_eq (ws' := [(h0, .inr (6, [.ref q1, .null, .null, .null, .null, .null, .null, .int 0, .int 0])), (q1, .inr (4, [.ref q2, .ref q3, .ref q4, .ref q5, .ref q6, .ref q7, .ref q8, .int ((if (2 : Int32) < (if v1 < (8 : Int32) then v1 else (8 : Int32)) then (if v1 < (8 : Int32) then v1 else (8 : Int32)) else (2 : Int32))), .int 0, .int 0, .int 0])), (q2, .inl (c2, 300, .inl (fun _ => 0))), (q3, .inl (c3, 300, .inl (fun _ => 0))), (q4, .inl (c4, 300, .inl (fun _ => 0))), (q5, .inl (c5, 8, .inl (fun _ => 0))), (q6, .inl (c6, 40, .inl (fun _ => 0))), (q7, .inl (c7, 40, .inl (fun _ => 0))), (q8, .inl (c8, 320, .inl (fun _ => 0))), (q9, .inr (1, [.ref q1, .int (2 : Int32), .int (20 : Int32), .int (5 : Int32)]))]) (tys' := [(c2, .int), (c3, .int), (c4, .int), (c5, .int), (c6, .int), (c7, .int), (c8, .int)]) (cells' := 9) (slots' := 1323) rfl rfl rfl rfl ?_
  refine G_putF (ws' := [(h0, .inr (6, [.ref q1, .ref q9, .null, .null, .null, .null, .null, .int 0, .int 0])), (q1, .inr (4, [.ref q2, .ref q3, .ref q4, .ref q5, .ref q6, .ref q7, .ref q8, .int ((if (2 : Int32) < (if v1 < (8 : Int32) then v1 else (8 : Int32)) then (if v1 < (8 : Int32) then v1 else (8 : Int32)) else (2 : Int32))), .int 0, .int 0, .int 0])), (q2, .inl (c2, 300, .inl (fun _ => 0))), (q3, .inl (c3, 300, .inl (fun _ => 0))), (q4, .inl (c4, 300, .inl (fun _ => 0))), (q5, .inl (c5, 8, .inl (fun _ => 0))), (q6, .inl (c6, 40, .inl (fun _ => 0))), (q7, .inl (c7, 40, .inl (fun _ => 0))), (q8, .inl (c8, 320, .inl (fun _ => 0))), (q9, .inr (1, [.ref q1, .int (2 : Int32), .int (20 : Int32), .int (5 : Int32)]))]) C inX6 tyX6 tyX6_ok nmX6 0 rfl rfl 1 (by decide) wd_1_206 rfl rfl rfl (ty := (.object "LineDealer$Dealing")) (by decide +kernel) rfl rfl (Nat.le_of_ble_eq_true rfl) rfl dX6_init_37 ?_
  refine G_aload_n C dX6_init_40 rfl 0 rfl ?_
  refine G_new (ci := 3) (fs := [.null, .int 0, .int 0, .int 0, .int 0]) (N := 5) C inX3 tyX3 tyX3_ok wd_1_119 wd_1_120 wd_1_5 rfl (fun j hj => by rcases (show j = 0 ∨ j = 1 ∨ j = 2 ∨ j = 3 ∨ j = 4 by omega) with rfl | rfl | rfl | rfl | rfl <;> rfl) (Nat.le_of_ble_eq_true rfl) (Nat.le_of_ble_eq_true rfl) dX6_init_41 (fun q10 => ?_)
  refine G_eq (ws' := [(h0, .inr (6, [.ref q1, .ref q9, .null, .null, .null, .null, .null, .int 0, .int 0])), (q1, .inr (4, [.ref q2, .ref q3, .ref q4, .ref q5, .ref q6, .ref q7, .ref q8, .int ((if (2 : Int32) < (if v1 < (8 : Int32) then v1 else (8 : Int32)) then (if v1 < (8 : Int32) then v1 else (8 : Int32)) else (2 : Int32))), .int 0, .int 0, .int 0])), (q2, .inl (c2, 300, .inl (fun _ => 0))), (q3, .inl (c3, 300, .inl (fun _ => 0))), (q4, .inl (c4, 300, .inl (fun _ => 0))), (q5, .inl (c5, 8, .inl (fun _ => 0))), (q6, .inl (c6, 40, .inl (fun _ => 0))), (q7, .inl (c7, 40, .inl (fun _ => 0))), (q8, .inl (c8, 320, .inl (fun _ => 0))), (q9, .inr (1, [.ref q1, .int (2 : Int32), .int (20 : Int32), .int (5 : Int32)])), (q10, .inr (3, [.null, .int 0, .int 0, .int 0, .int 0]))]) (tys' := [(c2, .int), (c3, .int), (c4, .int), (c5, .int), (c6, .int), (c7, .int), (c8, .int)]) (cells' := 10) (slots' := 1328) rfl rfl rfl rfl ?_
  refine G_dup C dX6_init_44 rfl ?_
  refine G_aload_n C dX6_init_45 rfl 0 rfl ?_
  refine G_get (v := .ref q1) C inX6 0 rfl rfl 0 (by decide) wd_1_205 rfl rfl dX6_init_46 ?_
  refine G_call (n := 1) (wr := [(h0, .inr (6, [.ref q1, .ref q9, .null, .null, .null, .null, .null, .int 0, .int 0])), (q1, .inr (4, [.ref q2, .ref q3, .ref q4, .ref q5, .ref q6, .ref q7, .ref q8, .int ((if (2 : Int32) < (if v1 < (8 : Int32) then v1 else (8 : Int32)) then (if v1 < (8 : Int32) then v1 else (8 : Int32)) else (2 : Int32))), .int 0, .int 0, .int 0])), (q2, .inl (c2, 300, .inl (fun _ => 0))), (q3, .inl (c3, 300, .inl (fun _ => 0))), (q4, .inl (c4, 300, .inl (fun _ => 0))), (q5, .inl (c5, 8, .inl (fun _ => 0))), (q6, .inl (c6, 40, .inl (fun _ => 0))), (q7, .inl (c7, 40, .inl (fun _ => 0))), (q8, .inl (c8, 320, .inl (fun _ => 0))), (q9, .inr (1, [.ref q1, .int (2 : Int32), .int (20 : Int32), .int (5 : Int32)]))]) (As := [.ref q1]) (rest := [.ref q10, .ref h0]) (d := 1) (mc := 0) (ms := 0) C (ccX3_init l D q10 q1) [10] [0, 1, 2, 3, 4, 5, 6, 7, 8, 9] rfl rfl rfl rfl rfl (by decide) wd_1_121 wd_1_122 wd_1_5 wd_1_123 rfl (by decide +kernel) ⟨Nat.le_of_ble_eq_true rfl, Nat.le_of_ble_eq_true rfl⟩ rfl rfl (Nat.le_of_ble_eq_true rfl) dX6_init_49 ⟨Nat.le_of_ble_eq_true rfl, Nat.le_of_ble_eq_true rfl⟩ (fun w1 t1 hB => ?_)
  obtain ⟨rfl, rfl⟩ := hB
  refine G_eq (ws' := [(h0, .inr (6, [.ref q1, .ref q9, .null, .null, .null, .null, .null, .int 0, .int 0])), (q1, .inr (4, [.ref q2, .ref q3, .ref q4, .ref q5, .ref q6, .ref q7, .ref q8, .int ((if (2 : Int32) < (if v1 < (8 : Int32) then v1 else (8 : Int32)) then (if v1 < (8 : Int32) then v1 else (8 : Int32)) else (2 : Int32))), .int 0, .int 0, .int 0])), (q2, .inl (c2, 300, .inl (fun _ => 0))), (q3, .inl (c3, 300, .inl (fun _ => 0))), (q4, .inl (c4, 300, .inl (fun _ => 0))), (q5, .inl (c5, 8, .inl (fun _ => 0))), (q6, .inl (c6, 40, .inl (fun _ => 0))), (q7, .inl (c7, 40, .inl (fun _ => 0))), (q8, .inl (c8, 320, .inl (fun _ => 0))), (q9, .inr (1, [.ref q1, .int (2 : Int32), .int (20 : Int32), .int (5 : Int32)])), (q10, .inr (3, [.ref q1, .int 0, .int 0, .int 0, .int 0]))]) (tys' := [(c2, .int), (c3, .int), (c4, .int), (c5, .int), (c6, .int), (c7, .int), (c8, .int)]) (cells' := 10) (slots' := 1328) rfl rfl rfl rfl ?_
  refine G_putF (ws' := [(h0, .inr (6, [.ref q1, .ref q9, .ref q10, .null, .null, .null, .null, .int 0, .int 0])), (q1, .inr (4, [.ref q2, .ref q3, .ref q4, .ref q5, .ref q6, .ref q7, .ref q8, .int ((if (2 : Int32) < (if v1 < (8 : Int32) then v1 else (8 : Int32)) then (if v1 < (8 : Int32) then v1 else (8 : Int32)) else (2 : Int32))), .int 0, .int 0, .int 0])), (q2, .inl (c2, 300, .inl (fun _ => 0))), (q3, .inl (c3, 300, .inl (fun _ => 0))), (q4, .inl (c4, 300, .inl (fun _ => 0))), (q5, .inl (c5, 8, .inl (fun _ => 0))), (q6, .inl (c6, 40, .inl (fun _ => 0))), (q7, .inl (c7, 40, .inl (fun _ => 0))), (q8, .inl (c8, 320, .inl (fun _ => 0))), (q9, .inr (1, [.ref q1, .int (2 : Int32), .int (20 : Int32), .int (5 : Int32)])), (q10, .inr (3, [.ref q1, .int 0, .int 0, .int 0, .int 0]))]) C inX6 tyX6 tyX6_ok nmX6 0 rfl rfl 2 (by decide) wd_1_207 rfl rfl rfl (ty := (.object "LineDealer$MoveSearch")) (by decide +kernel) rfl rfl (Nat.le_of_ble_eq_true rfl) rfl dX6_init_52 ?_
  refine G_aload_n C dX6_init_55 rfl 0 rfl ?_
  refine G_new (ci := 0) (fs := [.null, .null, .null, .null, .int 0, .int 0, .int 0]) (N := 7) C inX0 tyX0 tyX0_ok wd_1_143 wd_1_144 wd_1_6 rfl (fun j hj => by rcases (show j = 0 ∨ j = 1 ∨ j = 2 ∨ j = 3 ∨ j = 4 ∨ j = 5 ∨ j = 6 by omega) with rfl | rfl | rfl | rfl | rfl | rfl | rfl <;> rfl) (Nat.le_of_ble_eq_true rfl) (Nat.le_of_ble_eq_true rfl) dX6_init_56 (fun q11 => ?_)
  refine G_eq (ws' := [(h0, .inr (6, [.ref q1, .ref q9, .ref q10, .null, .null, .null, .null, .int 0, .int 0])), (q1, .inr (4, [.ref q2, .ref q3, .ref q4, .ref q5, .ref q6, .ref q7, .ref q8, .int ((if (2 : Int32) < (if v1 < (8 : Int32) then v1 else (8 : Int32)) then (if v1 < (8 : Int32) then v1 else (8 : Int32)) else (2 : Int32))), .int 0, .int 0, .int 0])), (q2, .inl (c2, 300, .inl (fun _ => 0))), (q3, .inl (c3, 300, .inl (fun _ => 0))), (q4, .inl (c4, 300, .inl (fun _ => 0))), (q5, .inl (c5, 8, .inl (fun _ => 0))), (q6, .inl (c6, 40, .inl (fun _ => 0))), (q7, .inl (c7, 40, .inl (fun _ => 0))), (q8, .inl (c8, 320, .inl (fun _ => 0))), (q9, .inr (1, [.ref q1, .int (2 : Int32), .int (20 : Int32), .int (5 : Int32)])), (q10, .inr (3, [.ref q1, .int 0, .int 0, .int 0, .int 0])), (q11, .inr (0, [.null, .null, .null, .null, .int 0, .int 0, .int 0]))]) (tys' := [(c2, .int), (c3, .int), (c4, .int), (c5, .int), (c6, .int), (c7, .int), (c8, .int)]) (cells' := 11) (slots' := 1335) rfl rfl rfl rfl ?_
  refine G_dup C dX6_init_59 rfl ?_
  refine G_aload_n C dX6_init_60 rfl 0 rfl ?_
  refine G_get (v := .ref q1) C inX6 0 rfl rfl 0 (by decide) wd_1_205 rfl rfl dX6_init_61 ?_
  refine G_call (n := 1) (wr := [(h0, .inr (6, [.ref q1, .ref q9, .ref q10, .null, .null, .null, .null, .int 0, .int 0])), (q1, .inr (4, [.ref q2, .ref q3, .ref q4, .ref q5, .ref q6, .ref q7, .ref q8, .int ((if (2 : Int32) < (if v1 < (8 : Int32) then v1 else (8 : Int32)) then (if v1 < (8 : Int32) then v1 else (8 : Int32)) else (2 : Int32))), .int 0, .int 0, .int 0])), (q2, .inl (c2, 300, .inl (fun _ => 0))), (q3, .inl (c3, 300, .inl (fun _ => 0))), (q4, .inl (c4, 300, .inl (fun _ => 0))), (q5, .inl (c5, 8, .inl (fun _ => 0))), (q6, .inl (c6, 40, .inl (fun _ => 0))), (q7, .inl (c7, 40, .inl (fun _ => 0))), (q8, .inl (c8, 320, .inl (fun _ => 0))), (q9, .inr (1, [.ref q1, .int (2 : Int32), .int (20 : Int32), .int (5 : Int32)])), (q10, .inr (3, [.ref q1, .int 0, .int 0, .int 0, .int 0]))]) (As := [.ref q1]) (rest := [.ref q11, .ref h0]) (d := 1) (mc := 3) (ms := 51) C (ccX0_init l D q11 q1) [11] [0, 1, 2, 3, 4, 5, 6, 7, 8, 9, 10] rfl rfl rfl rfl rfl (by decide) wd_1_145 wd_1_146 wd_1_6 wd_1_147 rfl (by decide +kernel) ⟨Nat.le_of_ble_eq_true rfl, Nat.le_of_ble_eq_true rfl⟩ rfl rfl (Nat.le_of_ble_eq_true rfl) dX6_init_64 ⟨Nat.le_of_ble_eq_true rfl, Nat.le_of_ble_eq_true rfl⟩ (fun w1 t1 hB => ?_)
  obtain ⟨q12, q13, q14, c12, c13, c14, rfl, rfl⟩ := hB
  refine G_eq (ws' := [(h0, .inr (6, [.ref q1, .ref q9, .ref q10, .null, .null, .null, .null, .int 0, .int 0])), (q1, .inr (4, [.ref q2, .ref q3, .ref q4, .ref q5, .ref q6, .ref q7, .ref q8, .int ((if (2 : Int32) < (if v1 < (8 : Int32) then v1 else (8 : Int32)) then (if v1 < (8 : Int32) then v1 else (8 : Int32)) else (2 : Int32))), .int 0, .int 0, .int 0])), (q2, .inl (c2, 300, .inl (fun _ => 0))), (q3, .inl (c3, 300, .inl (fun _ => 0))), (q4, .inl (c4, 300, .inl (fun _ => 0))), (q5, .inl (c5, 8, .inl (fun _ => 0))), (q6, .inl (c6, 40, .inl (fun _ => 0))), (q7, .inl (c7, 40, .inl (fun _ => 0))), (q8, .inl (c8, 320, .inl (fun _ => 0))), (q9, .inr (1, [.ref q1, .int (2 : Int32), .int (20 : Int32), .int (5 : Int32)])), (q10, .inr (3, [.ref q1, .int 0, .int 0, .int 0, .int 0])), (q11, .inr (0, [.ref q1, .ref q12, .ref q13, .ref q14, .int 0, .int 0, .int 0])), (q12, .inl (c12, 8, .inl (fun _ => 0))), (q13, .inl (c13, 3, .inl (fun _ => 0))), (q14, .inl (c14, 40, .inl (fun _ => 0)))]) (tys' := [(c2, .int), (c3, .int), (c4, .int), (c5, .int), (c6, .int), (c7, .int), (c8, .int), (c12, .int), (c13, .int), (c14, .int)]) (cells' := 14) (slots' := 1386) rfl rfl rfl rfl ?_
  refine G_putF (ws' := [(h0, .inr (6, [.ref q1, .ref q9, .ref q10, .ref q11, .null, .null, .null, .int 0, .int 0])), (q1, .inr (4, [.ref q2, .ref q3, .ref q4, .ref q5, .ref q6, .ref q7, .ref q8, .int ((if (2 : Int32) < (if v1 < (8 : Int32) then v1 else (8 : Int32)) then (if v1 < (8 : Int32) then v1 else (8 : Int32)) else (2 : Int32))), .int 0, .int 0, .int 0])), (q2, .inl (c2, 300, .inl (fun _ => 0))), (q3, .inl (c3, 300, .inl (fun _ => 0))), (q4, .inl (c4, 300, .inl (fun _ => 0))), (q5, .inl (c5, 8, .inl (fun _ => 0))), (q6, .inl (c6, 40, .inl (fun _ => 0))), (q7, .inl (c7, 40, .inl (fun _ => 0))), (q8, .inl (c8, 320, .inl (fun _ => 0))), (q9, .inr (1, [.ref q1, .int (2 : Int32), .int (20 : Int32), .int (5 : Int32)])), (q10, .inr (3, [.ref q1, .int 0, .int 0, .int 0, .int 0])), (q11, .inr (0, [.ref q1, .ref q12, .ref q13, .ref q14, .int 0, .int 0, .int 0])), (q12, .inl (c12, 8, .inl (fun _ => 0))), (q13, .inl (c13, 3, .inl (fun _ => 0))), (q14, .inl (c14, 40, .inl (fun _ => 0)))]) C inX6 tyX6 tyX6_ok nmX6 0 rfl rfl 3 (by decide) wd_1_208 rfl rfl rfl (ty := (.object "LineDealer$BestSearch")) (by decide +kernel) rfl rfl (Nat.le_of_ble_eq_true rfl) rfl dX6_init_67 ?_
  refine G_aload_n C dX6_init_70 rfl 0 rfl ?_
  refine G_new (ci := 5) (fs := [.null, .null, .null, .int 0]) (N := 4) C inX5 tyX5 tyX5_ok wd_1_171 wd_1_172 wd_1_7 rfl (fun j hj => by rcases (show j = 0 ∨ j = 1 ∨ j = 2 ∨ j = 3 by omega) with rfl | rfl | rfl | rfl <;> rfl) (Nat.le_of_ble_eq_true rfl) (Nat.le_of_ble_eq_true rfl) dX6_init_71 (fun q15 => ?_)
  refine G_eq (ws' := [(h0, .inr (6, [.ref q1, .ref q9, .ref q10, .ref q11, .null, .null, .null, .int 0, .int 0])), (q1, .inr (4, [.ref q2, .ref q3, .ref q4, .ref q5, .ref q6, .ref q7, .ref q8, .int ((if (2 : Int32) < (if v1 < (8 : Int32) then v1 else (8 : Int32)) then (if v1 < (8 : Int32) then v1 else (8 : Int32)) else (2 : Int32))), .int 0, .int 0, .int 0])), (q2, .inl (c2, 300, .inl (fun _ => 0))), (q3, .inl (c3, 300, .inl (fun _ => 0))), (q4, .inl (c4, 300, .inl (fun _ => 0))), (q5, .inl (c5, 8, .inl (fun _ => 0))), (q6, .inl (c6, 40, .inl (fun _ => 0))), (q7, .inl (c7, 40, .inl (fun _ => 0))), (q8, .inl (c8, 320, .inl (fun _ => 0))), (q9, .inr (1, [.ref q1, .int (2 : Int32), .int (20 : Int32), .int (5 : Int32)])), (q10, .inr (3, [.ref q1, .int 0, .int 0, .int 0, .int 0])), (q11, .inr (0, [.ref q1, .ref q12, .ref q13, .ref q14, .int 0, .int 0, .int 0])), (q12, .inl (c12, 8, .inl (fun _ => 0))), (q13, .inl (c13, 3, .inl (fun _ => 0))), (q14, .inl (c14, 40, .inl (fun _ => 0))), (q15, .inr (5, [.null, .null, .null, .int 0]))]) (tys' := [(c2, .int), (c3, .int), (c4, .int), (c5, .int), (c6, .int), (c7, .int), (c8, .int), (c12, .int), (c13, .int), (c14, .int)]) (cells' := 15) (slots' := 1390) rfl rfl rfl rfl ?_
  refine G_dup C dX6_init_74 rfl ?_
  refine G_aload_n C dX6_init_75 rfl 0 rfl ?_
  refine G_get (v := .ref q1) C inX6 0 rfl rfl 0 (by decide) wd_1_205 rfl rfl dX6_init_76 ?_
  refine G_call (n := 1) (wr := [(h0, .inr (6, [.ref q1, .ref q9, .ref q10, .ref q11, .null, .null, .null, .int 0, .int 0])), (q1, .inr (4, [.ref q2, .ref q3, .ref q4, .ref q5, .ref q6, .ref q7, .ref q8, .int ((if (2 : Int32) < (if v1 < (8 : Int32) then v1 else (8 : Int32)) then (if v1 < (8 : Int32) then v1 else (8 : Int32)) else (2 : Int32))), .int 0, .int 0, .int 0])), (q2, .inl (c2, 300, .inl (fun _ => 0))), (q3, .inl (c3, 300, .inl (fun _ => 0))), (q4, .inl (c4, 300, .inl (fun _ => 0))), (q5, .inl (c5, 8, .inl (fun _ => 0))), (q6, .inl (c6, 40, .inl (fun _ => 0))), (q7, .inl (c7, 40, .inl (fun _ => 0))), (q8, .inl (c8, 320, .inl (fun _ => 0))), (q9, .inr (1, [.ref q1, .int (2 : Int32), .int (20 : Int32), .int (5 : Int32)])), (q10, .inr (3, [.ref q1, .int 0, .int 0, .int 0, .int 0])), (q11, .inr (0, [.ref q1, .ref q12, .ref q13, .ref q14, .int 0, .int 0, .int 0])), (q12, .inl (c12, 8, .inl (fun _ => 0))), (q13, .inl (c13, 3, .inl (fun _ => 0))), (q14, .inl (c14, 40, .inl (fun _ => 0)))]) (As := [.ref q1]) (rest := [.ref q15, .ref h0]) (d := 1) (mc := 2) (ms := 80) C (ccX5_init l D q15 q1) [15] [0, 1, 2, 3, 4, 5, 6, 7, 8, 9, 10, 11, 12, 13, 14] rfl rfl rfl rfl rfl (by decide) wd_1_173 wd_1_174 wd_1_7 wd_1_175 rfl (by decide +kernel) ⟨Nat.le_of_ble_eq_true rfl, Nat.le_of_ble_eq_true rfl⟩ rfl rfl (Nat.le_of_ble_eq_true rfl) dX6_init_79 ⟨Nat.le_of_ble_eq_true rfl, Nat.le_of_ble_eq_true rfl⟩ (fun w1 t1 hB => ?_)
  obtain ⟨q16, q17, c16, c17, rfl, rfl⟩ := hB
  refine G_eq (ws' := [(h0, .inr (6, [.ref q1, .ref q9, .ref q10, .ref q11, .null, .null, .null, .int 0, .int 0])), (q1, .inr (4, [.ref q2, .ref q3, .ref q4, .ref q5, .ref q6, .ref q7, .ref q8, .int ((if (2 : Int32) < (if v1 < (8 : Int32) then v1 else (8 : Int32)) then (if v1 < (8 : Int32) then v1 else (8 : Int32)) else (2 : Int32))), .int 0, .int 0, .int 0])), (q2, .inl (c2, 300, .inl (fun _ => 0))), (q3, .inl (c3, 300, .inl (fun _ => 0))), (q4, .inl (c4, 300, .inl (fun _ => 0))), (q5, .inl (c5, 8, .inl (fun _ => 0))), (q6, .inl (c6, 40, .inl (fun _ => 0))), (q7, .inl (c7, 40, .inl (fun _ => 0))), (q8, .inl (c8, 320, .inl (fun _ => 0))), (q9, .inr (1, [.ref q1, .int (2 : Int32), .int (20 : Int32), .int (5 : Int32)])), (q10, .inr (3, [.ref q1, .int 0, .int 0, .int 0, .int 0])), (q11, .inr (0, [.ref q1, .ref q12, .ref q13, .ref q14, .int 0, .int 0, .int 0])), (q12, .inl (c12, 8, .inl (fun _ => 0))), (q13, .inl (c13, 3, .inl (fun _ => 0))), (q14, .inl (c14, 40, .inl (fun _ => 0))), (q15, .inr (5, [.ref q1, .ref q16, .ref q17, .int 0])), (q16, .inl (c16, 40, .inl (fun _ => 0))), (q17, .inl (c17, 40, .inl (fun _ => 0)))]) (tys' := [(c2, .int), (c3, .int), (c4, .int), (c5, .int), (c6, .int), (c7, .int), (c8, .int), (c12, .int), (c13, .int), (c14, .int), (c16, .int), (c17, .int)]) (cells' := 17) (slots' := 1470) rfl rfl rfl rfl ?_
  refine G_putF (ws' := [(h0, .inr (6, [.ref q1, .ref q9, .ref q10, .ref q11, .ref q15, .null, .null, .int 0, .int 0])), (q1, .inr (4, [.ref q2, .ref q3, .ref q4, .ref q5, .ref q6, .ref q7, .ref q8, .int ((if (2 : Int32) < (if v1 < (8 : Int32) then v1 else (8 : Int32)) then (if v1 < (8 : Int32) then v1 else (8 : Int32)) else (2 : Int32))), .int 0, .int 0, .int 0])), (q2, .inl (c2, 300, .inl (fun _ => 0))), (q3, .inl (c3, 300, .inl (fun _ => 0))), (q4, .inl (c4, 300, .inl (fun _ => 0))), (q5, .inl (c5, 8, .inl (fun _ => 0))), (q6, .inl (c6, 40, .inl (fun _ => 0))), (q7, .inl (c7, 40, .inl (fun _ => 0))), (q8, .inl (c8, 320, .inl (fun _ => 0))), (q9, .inr (1, [.ref q1, .int (2 : Int32), .int (20 : Int32), .int (5 : Int32)])), (q10, .inr (3, [.ref q1, .int 0, .int 0, .int 0, .int 0])), (q11, .inr (0, [.ref q1, .ref q12, .ref q13, .ref q14, .int 0, .int 0, .int 0])), (q12, .inl (c12, 8, .inl (fun _ => 0))), (q13, .inl (c13, 3, .inl (fun _ => 0))), (q14, .inl (c14, 40, .inl (fun _ => 0))), (q15, .inr (5, [.ref q1, .ref q16, .ref q17, .int 0])), (q16, .inl (c16, 40, .inl (fun _ => 0))), (q17, .inl (c17, 40, .inl (fun _ => 0)))]) C inX6 tyX6 tyX6_ok nmX6 0 rfl rfl 4 (by decide) wd_1_209 rfl rfl rfl (ty := (.object "LineDealer$Spreading")) (by decide +kernel) rfl rfl (Nat.le_of_ble_eq_true rfl) rfl dX6_init_82 ?_
  refine G_aload_n C dX6_init_85 rfl 0 rfl ?_
  refine G_new (ci := 2) (fs := [.null, .null]) (N := 2) C inX2 tyX2 tyX2_ok wd_1_192 wd_1_193 wd_1_8 rfl (fun j hj => by rcases (show j = 0 ∨ j = 1 by omega) with rfl | rfl <;> rfl) (Nat.le_of_ble_eq_true rfl) (Nat.le_of_ble_eq_true rfl) dX6_init_86 (fun q18 => ?_)
  refine G_eq (ws' := [(h0, .inr (6, [.ref q1, .ref q9, .ref q10, .ref q11, .ref q15, .null, .null, .int 0, .int 0])), (q1, .inr (4, [.ref q2, .ref q3, .ref q4, .ref q5, .ref q6, .ref q7, .ref q8, .int ((if (2 : Int32) < (if v1 < (8 : Int32) then v1 else (8 : Int32)) then (if v1 < (8 : Int32) then v1 else (8 : Int32)) else (2 : Int32))), .int 0, .int 0, .int 0])), (q2, .inl (c2, 300, .inl (fun _ => 0))), (q3, .inl (c3, 300, .inl (fun _ => 0))), (q4, .inl (c4, 300, .inl (fun _ => 0))), (q5, .inl (c5, 8, .inl (fun _ => 0))), (q6, .inl (c6, 40, .inl (fun _ => 0))), (q7, .inl (c7, 40, .inl (fun _ => 0))), (q8, .inl (c8, 320, .inl (fun _ => 0))), (q9, .inr (1, [.ref q1, .int (2 : Int32), .int (20 : Int32), .int (5 : Int32)])), (q10, .inr (3, [.ref q1, .int 0, .int 0, .int 0, .int 0])), (q11, .inr (0, [.ref q1, .ref q12, .ref q13, .ref q14, .int 0, .int 0, .int 0])), (q12, .inl (c12, 8, .inl (fun _ => 0))), (q13, .inl (c13, 3, .inl (fun _ => 0))), (q14, .inl (c14, 40, .inl (fun _ => 0))), (q15, .inr (5, [.ref q1, .ref q16, .ref q17, .int 0])), (q16, .inl (c16, 40, .inl (fun _ => 0))), (q17, .inl (c17, 40, .inl (fun _ => 0))), (q18, .inr (2, [.null, .null]))]) (tys' := [(c2, .int), (c3, .int), (c4, .int), (c5, .int), (c6, .int), (c7, .int), (c8, .int), (c12, .int), (c13, .int), (c14, .int), (c16, .int), (c17, .int)]) (cells' := 18) (slots' := 1472) rfl rfl rfl rfl ?_
  refine G_dup C dX6_init_89 rfl ?_
  refine G_aload_n C dX6_init_90 rfl 0 rfl ?_
  refine G_get (v := .ref q1) C inX6 0 rfl rfl 0 (by decide) wd_1_205 rfl rfl dX6_init_91 ?_
  refine G_call (n := 1) (wr := [(h0, .inr (6, [.ref q1, .ref q9, .ref q10, .ref q11, .ref q15, .null, .null, .int 0, .int 0])), (q1, .inr (4, [.ref q2, .ref q3, .ref q4, .ref q5, .ref q6, .ref q7, .ref q8, .int ((if (2 : Int32) < (if v1 < (8 : Int32) then v1 else (8 : Int32)) then (if v1 < (8 : Int32) then v1 else (8 : Int32)) else (2 : Int32))), .int 0, .int 0, .int 0])), (q2, .inl (c2, 300, .inl (fun _ => 0))), (q3, .inl (c3, 300, .inl (fun _ => 0))), (q4, .inl (c4, 300, .inl (fun _ => 0))), (q5, .inl (c5, 8, .inl (fun _ => 0))), (q6, .inl (c6, 40, .inl (fun _ => 0))), (q7, .inl (c7, 40, .inl (fun _ => 0))), (q8, .inl (c8, 320, .inl (fun _ => 0))), (q9, .inr (1, [.ref q1, .int (2 : Int32), .int (20 : Int32), .int (5 : Int32)])), (q10, .inr (3, [.ref q1, .int 0, .int 0, .int 0, .int 0])), (q11, .inr (0, [.ref q1, .ref q12, .ref q13, .ref q14, .int 0, .int 0, .int 0])), (q12, .inl (c12, 8, .inl (fun _ => 0))), (q13, .inl (c13, 3, .inl (fun _ => 0))), (q14, .inl (c14, 40, .inl (fun _ => 0))), (q15, .inr (5, [.ref q1, .ref q16, .ref q17, .int 0])), (q16, .inl (c16, 40, .inl (fun _ => 0))), (q17, .inl (c17, 40, .inl (fun _ => 0)))]) (As := [.ref q1]) (rest := [.ref q18, .ref h0]) (d := 1) (mc := 1) (ms := 8) C (ccX2_init l D q18 q1) [18] [0, 1, 2, 3, 4, 5, 6, 7, 8, 9, 10, 11, 12, 13, 14, 15, 16, 17] rfl rfl rfl rfl rfl (by decide) wd_1_194 wd_1_195 wd_1_8 wd_1_196 rfl (by decide +kernel) ⟨Nat.le_of_ble_eq_true rfl, Nat.le_of_ble_eq_true rfl⟩ rfl rfl (Nat.le_of_ble_eq_true rfl) dX6_init_94 ⟨Nat.le_of_ble_eq_true rfl, Nat.le_of_ble_eq_true rfl⟩ (fun w1 t1 hB => ?_)
  obtain ⟨q19, c19, rfl, rfl⟩ := hB
  refine G_eq (ws' := [(h0, .inr (6, [.ref q1, .ref q9, .ref q10, .ref q11, .ref q15, .null, .null, .int 0, .int 0])), (q1, .inr (4, [.ref q2, .ref q3, .ref q4, .ref q5, .ref q6, .ref q7, .ref q8, .int ((if (2 : Int32) < (if v1 < (8 : Int32) then v1 else (8 : Int32)) then (if v1 < (8 : Int32) then v1 else (8 : Int32)) else (2 : Int32))), .int 0, .int 0, .int 0])), (q2, .inl (c2, 300, .inl (fun _ => 0))), (q3, .inl (c3, 300, .inl (fun _ => 0))), (q4, .inl (c4, 300, .inl (fun _ => 0))), (q5, .inl (c5, 8, .inl (fun _ => 0))), (q6, .inl (c6, 40, .inl (fun _ => 0))), (q7, .inl (c7, 40, .inl (fun _ => 0))), (q8, .inl (c8, 320, .inl (fun _ => 0))), (q9, .inr (1, [.ref q1, .int (2 : Int32), .int (20 : Int32), .int (5 : Int32)])), (q10, .inr (3, [.ref q1, .int 0, .int 0, .int 0, .int 0])), (q11, .inr (0, [.ref q1, .ref q12, .ref q13, .ref q14, .int 0, .int 0, .int 0])), (q12, .inl (c12, 8, .inl (fun _ => 0))), (q13, .inl (c13, 3, .inl (fun _ => 0))), (q14, .inl (c14, 40, .inl (fun _ => 0))), (q15, .inr (5, [.ref q1, .ref q16, .ref q17, .int 0])), (q16, .inl (c16, 40, .inl (fun _ => 0))), (q17, .inl (c17, 40, .inl (fun _ => 0))), (q18, .inr (2, [.ref q1, .ref q19])), (q19, .inl (c19, 8, .inl (fun _ => 0)))]) (tys' := [(c2, .int), (c3, .int), (c4, .int), (c5, .int), (c6, .int), (c7, .int), (c8, .int), (c12, .int), (c13, .int), (c14, .int), (c16, .int), (c17, .int), (c19, .int)]) (cells' := 19) (slots' := 1480) rfl rfl rfl rfl ?_
  refine G_putF (ws' := [(h0, .inr (6, [.ref q1, .ref q9, .ref q10, .ref q11, .ref q15, .ref q18, .null, .int 0, .int 0])), (q1, .inr (4, [.ref q2, .ref q3, .ref q4, .ref q5, .ref q6, .ref q7, .ref q8, .int ((if (2 : Int32) < (if v1 < (8 : Int32) then v1 else (8 : Int32)) then (if v1 < (8 : Int32) then v1 else (8 : Int32)) else (2 : Int32))), .int 0, .int 0, .int 0])), (q2, .inl (c2, 300, .inl (fun _ => 0))), (q3, .inl (c3, 300, .inl (fun _ => 0))), (q4, .inl (c4, 300, .inl (fun _ => 0))), (q5, .inl (c5, 8, .inl (fun _ => 0))), (q6, .inl (c6, 40, .inl (fun _ => 0))), (q7, .inl (c7, 40, .inl (fun _ => 0))), (q8, .inl (c8, 320, .inl (fun _ => 0))), (q9, .inr (1, [.ref q1, .int (2 : Int32), .int (20 : Int32), .int (5 : Int32)])), (q10, .inr (3, [.ref q1, .int 0, .int 0, .int 0, .int 0])), (q11, .inr (0, [.ref q1, .ref q12, .ref q13, .ref q14, .int 0, .int 0, .int 0])), (q12, .inl (c12, 8, .inl (fun _ => 0))), (q13, .inl (c13, 3, .inl (fun _ => 0))), (q14, .inl (c14, 40, .inl (fun _ => 0))), (q15, .inr (5, [.ref q1, .ref q16, .ref q17, .int 0])), (q16, .inl (c16, 40, .inl (fun _ => 0))), (q17, .inl (c17, 40, .inl (fun _ => 0))), (q18, .inr (2, [.ref q1, .ref q19])), (q19, .inl (c19, 8, .inl (fun _ => 0)))]) C inX6 tyX6 tyX6_ok nmX6 0 rfl rfl 5 (by decide) wd_1_210 rfl rfl rfl (ty := (.object "LineDealer$Mastering")) (by decide +kernel) rfl rfl (Nat.le_of_ble_eq_true rfl) rfl dX6_init_97 ?_
  refine G_aload_n C dX6_init_100 rfl 0 rfl ?_
  refine G_sipush (v := (300 : Int32)) C dX6_init_101 (by decide) ?_
  refine G_newa (atype := .int) (ty := .int) (N := 300) C rfl wd_1_96 (fun _ => rfl) (by decide) (by decide) (by decide) (Nat.le_of_ble_eq_true rfl) (Nat.le_of_ble_eq_true rfl) dX6_init_104 (fun q20 c20 => ?_)
  refine G_eq (ws' := [(h0, .inr (6, [.ref q1, .ref q9, .ref q10, .ref q11, .ref q15, .ref q18, .null, .int 0, .int 0])), (q1, .inr (4, [.ref q2, .ref q3, .ref q4, .ref q5, .ref q6, .ref q7, .ref q8, .int ((if (2 : Int32) < (if v1 < (8 : Int32) then v1 else (8 : Int32)) then (if v1 < (8 : Int32) then v1 else (8 : Int32)) else (2 : Int32))), .int 0, .int 0, .int 0])), (q2, .inl (c2, 300, .inl (fun _ => 0))), (q3, .inl (c3, 300, .inl (fun _ => 0))), (q4, .inl (c4, 300, .inl (fun _ => 0))), (q5, .inl (c5, 8, .inl (fun _ => 0))), (q6, .inl (c6, 40, .inl (fun _ => 0))), (q7, .inl (c7, 40, .inl (fun _ => 0))), (q8, .inl (c8, 320, .inl (fun _ => 0))), (q9, .inr (1, [.ref q1, .int (2 : Int32), .int (20 : Int32), .int (5 : Int32)])), (q10, .inr (3, [.ref q1, .int 0, .int 0, .int 0, .int 0])), (q11, .inr (0, [.ref q1, .ref q12, .ref q13, .ref q14, .int 0, .int 0, .int 0])), (q12, .inl (c12, 8, .inl (fun _ => 0))), (q13, .inl (c13, 3, .inl (fun _ => 0))), (q14, .inl (c14, 40, .inl (fun _ => 0))), (q15, .inr (5, [.ref q1, .ref q16, .ref q17, .int 0])), (q16, .inl (c16, 40, .inl (fun _ => 0))), (q17, .inl (c17, 40, .inl (fun _ => 0))), (q18, .inr (2, [.ref q1, .ref q19])), (q19, .inl (c19, 8, .inl (fun _ => 0))), (q20, .inl (c20, 300, .inl (fun _ => 0)))]) (tys' := [(c2, .int), (c3, .int), (c4, .int), (c5, .int), (c6, .int), (c7, .int), (c8, .int), (c12, .int), (c13, .int), (c14, .int), (c16, .int), (c17, .int), (c19, .int), (c20, .int)]) (cells' := 20) (slots' := 1780) rfl rfl rfl rfl ?_
  refine G_putF (ws' := [(h0, .inr (6, [.ref q1, .ref q9, .ref q10, .ref q11, .ref q15, .ref q18, .ref q20, .int 0, .int 0])), (q1, .inr (4, [.ref q2, .ref q3, .ref q4, .ref q5, .ref q6, .ref q7, .ref q8, .int ((if (2 : Int32) < (if v1 < (8 : Int32) then v1 else (8 : Int32)) then (if v1 < (8 : Int32) then v1 else (8 : Int32)) else (2 : Int32))), .int 0, .int 0, .int 0])), (q2, .inl (c2, 300, .inl (fun _ => 0))), (q3, .inl (c3, 300, .inl (fun _ => 0))), (q4, .inl (c4, 300, .inl (fun _ => 0))), (q5, .inl (c5, 8, .inl (fun _ => 0))), (q6, .inl (c6, 40, .inl (fun _ => 0))), (q7, .inl (c7, 40, .inl (fun _ => 0))), (q8, .inl (c8, 320, .inl (fun _ => 0))), (q9, .inr (1, [.ref q1, .int (2 : Int32), .int (20 : Int32), .int (5 : Int32)])), (q10, .inr (3, [.ref q1, .int 0, .int 0, .int 0, .int 0])), (q11, .inr (0, [.ref q1, .ref q12, .ref q13, .ref q14, .int 0, .int 0, .int 0])), (q12, .inl (c12, 8, .inl (fun _ => 0))), (q13, .inl (c13, 3, .inl (fun _ => 0))), (q14, .inl (c14, 40, .inl (fun _ => 0))), (q15, .inr (5, [.ref q1, .ref q16, .ref q17, .int 0])), (q16, .inl (c16, 40, .inl (fun _ => 0))), (q17, .inl (c17, 40, .inl (fun _ => 0))), (q18, .inr (2, [.ref q1, .ref q19])), (q19, .inl (c19, 8, .inl (fun _ => 0))), (q20, .inl (c20, 300, .inl (fun _ => 0)))]) C inX6 tyX6 tyX6_ok nmX6 0 rfl rfl 6 (by decide) wd_1_211 rfl rfl rfl (ty := (.array .int)) (by decide +kernel) rfl rfl (Nat.le_of_ble_eq_true rfl) rfl dX6_init_106 ?_
  refine G_perm [0, 1, 9, 10, 11, 15, 18, 20, 2, 3, 4, 5, 6, 7, 8, 12, 13, 14, 16, 17, 19] (ws' := [(h0, .inr (6, [.ref q1, .ref q9, .ref q10, .ref q11, .ref q15, .ref q18, .ref q20, .int 0, .int 0])), (q1, .inr (4, [.ref q2, .ref q3, .ref q4, .ref q5, .ref q6, .ref q7, .ref q8, .int ((if (2 : Int32) < (if v1 < (8 : Int32) then v1 else (8 : Int32)) then (if v1 < (8 : Int32) then v1 else (8 : Int32)) else (2 : Int32))), .int 0, .int 0, .int 0])), (q9, .inr (1, [.ref q1, .int (2 : Int32), .int (20 : Int32), .int (5 : Int32)])), (q10, .inr (3, [.ref q1, .int 0, .int 0, .int 0, .int 0])), (q11, .inr (0, [.ref q1, .ref q12, .ref q13, .ref q14, .int 0, .int 0, .int 0])), (q15, .inr (5, [.ref q1, .ref q16, .ref q17, .int 0])), (q18, .inr (2, [.ref q1, .ref q19])), (q20, .inl (c20, 300, .inl (fun _ => 0))), (q2, .inl (c2, 300, .inl (fun _ => 0))), (q3, .inl (c3, 300, .inl (fun _ => 0))), (q4, .inl (c4, 300, .inl (fun _ => 0))), (q5, .inl (c5, 8, .inl (fun _ => 0))), (q6, .inl (c6, 40, .inl (fun _ => 0))), (q7, .inl (c7, 40, .inl (fun _ => 0))), (q8, .inl (c8, 320, .inl (fun _ => 0))), (q12, .inl (c12, 8, .inl (fun _ => 0))), (q13, .inl (c13, 3, .inl (fun _ => 0))), (q14, .inl (c14, 40, .inl (fun _ => 0))), (q16, .inl (c16, 40, .inl (fun _ => 0))), (q17, .inl (c17, 40, .inl (fun _ => 0))), (q19, .inl (c19, 8, .inl (fun _ => 0)))]) rfl rfl (by decide) ?_
  refine G_K (fun hK => ?_)
  obtain rfl : c2 = c3 := uniC hK 0 1 rfl rfl
  obtain rfl : c2 = c4 := uniC hK 0 2 rfl rfl
  obtain rfl : c2 = c5 := uniC hK 0 3 rfl rfl
  obtain rfl : c2 = c6 := uniC hK 0 4 rfl rfl
  obtain rfl : c2 = c7 := uniC hK 0 5 rfl rfl
  obtain rfl : c2 = c8 := uniC hK 0 6 rfl rfl
  obtain rfl : c2 = c12 := uniC hK 0 7 rfl rfl
  obtain rfl : c2 = c13 := uniC hK 0 8 rfl rfl
  obtain rfl : c2 = c14 := uniC hK 0 9 rfl rfl
  obtain rfl : c2 = c16 := uniC hK 0 10 rfl rfl
  obtain rfl : c2 = c17 := uniC hK 0 11 rfl rfl
  obtain rfl : c2 = c19 := uniC hK 0 12 rfl rfl
  obtain rfl : c2 = c20 := uniC hK 0 13 rfl rfl
  refine G_tys [0] (tys' := [(c2, .int)]) rfl ?_
  exact G_retv C ⟨fun i => [h0, q1, q9, q10, q11, q15, q18, q20, q2, q3, q4, q5, q6, q7, q8, q12, q13, q14, q16, q17, q19].getD i 0, c2, rfl, rfl, rfl⟩ dX6_init_109
theorem dX7_init_0 : decode cX7_init 0 = .ok (.aload_n 0, 1) := by decide +kernel
theorem dX7_init_1 : decode cX7_init 1 = .ok (.invokespecial 1, 3) := by decide +kernel
theorem dX7_init_4 : decode cX7_init 4 = .ok (.aload_n 0, 1) := by decide +kernel
theorem dX7_init_5 : decode cX7_init 5 = .ok (.sipush 300, 3) := by decide +kernel
theorem dX7_init_8 : decode cX7_init 8 = .ok (.newarray .int, 2) := by decide +kernel
theorem dX7_init_10 : decode cX7_init 10 = .ok (.putfield 9, 3) := by decide +kernel
theorem dX7_init_13 : decode cX7_init 13 = .ok (.aload_n 0, 1) := by decide +kernel
theorem dX7_init_14 : decode cX7_init 14 = .ok (.sipush 300, 3) := by decide +kernel
theorem dX7_init_17 : decode cX7_init 17 = .ok (.newarray .int, 2) := by decide +kernel
theorem dX7_init_19 : decode cX7_init 19 = .ok (.putfield 13, 3) := by decide +kernel
theorem dX7_init_22 : decode cX7_init 22 = .ok (.aload_n 0, 1) := by decide +kernel
theorem dX7_init_23 : decode cX7_init 23 = .ok (.sipush 300, 3) := by decide +kernel
theorem dX7_init_26 : decode cX7_init 26 = .ok (.newarray .int, 2) := by decide +kernel
theorem dX7_init_28 : decode cX7_init 28 = .ok (.putfield 16, 3) := by decide +kernel
theorem dX7_init_31 : decode cX7_init 31 = .ok (.aload_n 0, 1) := by decide +kernel
theorem dX7_init_32 : decode cX7_init 32 = .ok (.bipush 8, 2) := by decide +kernel
theorem dX7_init_34 : decode cX7_init 34 = .ok (.newarray .int, 2) := by decide +kernel
theorem dX7_init_36 : decode cX7_init 36 = .ok (.putfield 19, 3) := by decide +kernel
theorem dX7_init_39 : decode cX7_init 39 = .ok (.aload_n 0, 1) := by decide +kernel
theorem dX7_init_40 : decode cX7_init 40 = .ok (.sipush 320, 3) := by decide +kernel
theorem dX7_init_43 : decode cX7_init 43 = .ok (.newarray .int, 2) := by decide +kernel
theorem dX7_init_45 : decode cX7_init 45 = .ok (.putfield 22, 3) := by decide +kernel
theorem dX7_init_48 : decode cX7_init 48 = .ok (.aload_n 0, 1) := by decide +kernel
theorem dX7_init_49 : decode cX7_init 49 = .ok (.bipush 20, 2) := by decide +kernel
theorem dX7_init_51 : decode cX7_init 51 = .ok (.putfield 25, 3) := by decide +kernel
theorem dX7_init_54 : decode cX7_init 54 = .ok (.aload_n 0, 1) := by decide +kernel
theorem dX7_init_55 : decode cX7_init 55 = .ok (.iconst 5, 1) := by decide +kernel
theorem dX7_init_56 : decode cX7_init 56 = .ok (.putfield 29, 3) := by decide +kernel
theorem dX7_init_59 : decode cX7_init 59 = .ok (.aload_n 0, 1) := by decide +kernel
theorem dX7_init_60 : decode cX7_init 60 = .ok (.iconst 2, 1) := by decide +kernel
theorem dX7_init_61 : decode cX7_init 61 = .ok (.putfield 32, 3) := by decide +kernel
theorem dX7_init_64 : decode cX7_init 64 = .ok (.aload_n 0, 1) := by decide +kernel
theorem dX7_init_65 : decode cX7_init 65 = .ok (.sipush 300, 3) := by decide +kernel
theorem dX7_init_68 : decode cX7_init 68 = .ok (.newarray .boolean, 2) := by decide +kernel
theorem dX7_init_70 : decode cX7_init 70 = .ok (.putfield 35, 3) := by decide +kernel
theorem dX7_init_73 : decode cX7_init 73 = .ok (.aload_n 0, 1) := by decide +kernel
theorem dX7_init_74 : decode cX7_init 74 = .ok (.iconst 3, 1) := by decide +kernel
theorem dX7_init_75 : decode cX7_init 75 = .ok (.newarray .int, 2) := by decide +kernel
theorem dX7_init_77 : decode cX7_init 77 = .ok (.putfield 39, 3) := by decide +kernel
theorem dX7_init_80 : decode cX7_init 80 = .ok (.aload_n 0, 1) := by decide +kernel
theorem dX7_init_81 : decode cX7_init 81 = .ok (.bipush 40, 2) := by decide +kernel
theorem dX7_init_83 : decode cX7_init 83 = .ok (.newarray .int, 2) := by decide +kernel
theorem dX7_init_85 : decode cX7_init 85 = .ok (.putfield 42, 3) := by decide +kernel
theorem dX7_init_88 : decode cX7_init 88 = .ok (.aload_n 0, 1) := by decide +kernel
theorem dX7_init_89 : decode cX7_init 89 = .ok (.bipush 40, 2) := by decide +kernel
theorem dX7_init_91 : decode cX7_init 91 = .ok (.newarray .int, 2) := by decide +kernel
theorem dX7_init_93 : decode cX7_init 93 = .ok (.putfield 45, 3) := by decide +kernel
theorem dX7_init_96 : decode cX7_init 96 = .ok (.aload_n 0, 1) := by decide +kernel
theorem dX7_init_97 : decode cX7_init 97 = .ok (.bipush 40, 2) := by decide +kernel
theorem dX7_init_99 : decode cX7_init 99 = .ok (.newarray .int, 2) := by decide +kernel
theorem dX7_init_101 : decode cX7_init 101 = .ok (.putfield 48, 3) := by decide +kernel
theorem dX7_init_104 : decode cX7_init 104 = .ok (.aload_n 0, 1) := by decide +kernel
theorem dX7_init_105 : decode cX7_init 105 = .ok (.bipush 8, 2) := by decide +kernel
theorem dX7_init_107 : decode cX7_init 107 = .ok (.newarray .int, 2) := by decide +kernel
theorem dX7_init_109 : decode cX7_init 109 = .ok (.putfield 51, 3) := by decide +kernel
theorem dX7_init_112 : decode cX7_init 112 = .ok (.aload_n 0, 1) := by decide +kernel
theorem dX7_init_113 : decode cX7_init 113 = .ok (.iload_n 1, 1) := by decide +kernel
theorem dX7_init_114 : decode cX7_init 114 = .ok (.iconst 2, 1) := by decide +kernel
theorem dX7_init_115 : decode cX7_init 115 = .ok (.if_icmp .ge 7, 3) := by decide +kernel
theorem dX7_init_118 : decode cX7_init 118 = .ok (.iconst 2, 1) := by decide +kernel
theorem dX7_init_119 : decode cX7_init 119 = .ok (.goto 15, 3) := by decide +kernel
theorem dX7_init_122 : decode cX7_init 122 = .ok (.iload_n 1, 1) := by decide +kernel
theorem dX7_init_123 : decode cX7_init 123 = .ok (.bipush 8, 2) := by decide +kernel
theorem dX7_init_125 : decode cX7_init 125 = .ok (.if_icmp .le 8, 3) := by decide +kernel
theorem dX7_init_128 : decode cX7_init 128 = .ok (.bipush 8, 2) := by decide +kernel
theorem dX7_init_130 : decode cX7_init 130 = .ok (.goto 4, 3) := by decide +kernel
theorem dX7_init_133 : decode cX7_init 133 = .ok (.iload_n 1, 1) := by decide +kernel
theorem dX7_init_134 : decode cX7_init 134 = .ok (.putfield 54, 3) := by decide +kernel
theorem dX7_init_137 : decode cX7_init 137 = .ok (.return_, 1) := by decide +kernel
set_option maxHeartbeats 4000000 in
set_option maxRecDepth 100000 in
theorem ccX7_init (l : Launch) (D : va_G) (h0 : Nat) (v1 : Int32) : CC l D yX7_init (.code yX7_init cX7_init 2 none) 1 11 1659 [.ref h0, .int v1] [(h0, .inr (7, [.int 0, .int 0, .null, .null, .null, .null, .null, .int 0, .int 0, .int 0, .int 0, .int 0, .int 0, .null, .null, .null, .null, .null, .null]))] (fun w1 t1 => ∃ (a : Nat → Nat) (cA cZ : ClassId) (x : Int32), w1 = wM a cA cZ (S0M x) ∧ t1 = [(cA, .int), (cZ, .boolean)] ∧ a 0 = h0 ∧ x = clM v1) := by
  refine CC_of rfl rfl (Nat.le_of_ble_eq_true rfl) ?_
  intro p e s m args below meth c A C
  show RG D p l e _ s m args below meth c A _ _ 0 0 0 [] [(0, .ref h0), (1, .int v1)] _ _
  refine G_aload_n C dX7_init_0 rfl 0 rfl ?_
  refine G_objInit C wd_3_3 wd_1_18 wd_1_19 dX7_init_1 (Nat.le_of_ble_eq_true rfl) (Nat.le_of_ble_eq_true rfl) ?_
  refine G_aload_n C dX7_init_4 rfl 0 rfl ?_
  refine G_sipush (v := (300 : Int32)) C dX7_init_5 (by decide) ?_
  refine G_newa (atype := .int) (ty := .int) (N := 300) C rfl wd_1_96 (fun _ => rfl) (by decide) (by decide) (by decide) (Nat.le_of_ble_eq_true rfl) (Nat.le_of_ble_eq_true rfl) dX7_init_8 (fun q1 c1 => ?_)
  refine G_eq (ws' := [(h0, .inr (7, [.int 0, .int 0, .null, .null, .null, .null, .null, .int 0, .int 0, .int 0, .int 0, .int 0, .int 0, .null, .null, .null, .null, .null, .null])), (q1, .inl (c1, 300, .inl (fun _ => 0)))]) (tys' := [(c1, .int)]) (cells' := 1) (slots' := 300) rfl rfl rfl rfl ?_
  refine G_putF (ws' := [(h0, .inr (7, [.int 0, .int 0, .ref q1, .null, .null, .null, .null, .int 0, .int 0, .int 0, .int 0, .int 0, .int 0, .null, .null, .null, .null, .null, .null])), (q1, .inl (c1, 300, .inl (fun _ => 0)))]) C inX7 tyX7 tyX7_ok nmX7 0 rfl rfl 2 (by decide) wd_3_6 rfl rfl rfl (ty := (.array .int)) (by decide +kernel) rfl rfl (Nat.le_of_ble_eq_true rfl) rfl dX7_init_10 ?_
  refine G_aload_n C dX7_init_13 rfl 0 rfl ?_
  refine G_sipush (v := (300 : Int32)) C dX7_init_14 (by decide) ?_
  refine G_newa (atype := .int) (ty := .int) (N := 300) C rfl wd_1_96 (fun _ => rfl) (by decide) (by decide) (by decide) (Nat.le_of_ble_eq_true rfl) (Nat.le_of_ble_eq_true rfl) dX7_init_17 (fun q2 c2 => ?_)
  refine G_eq (ws' := [(h0, .inr (7, [.int 0, .int 0, .ref q1, .null, .null, .null, .null, .int 0, .int 0, .int 0, .int 0, .int 0, .int 0, .null, .null, .null, .null, .null, .null])), (q1, .inl (c1, 300, .inl (fun _ => 0))), (q2, .inl (c2, 300, .inl (fun _ => 0)))]) (tys' := [(c1, .int), (c2, .int)]) (cells' := 2) (slots' := 600) rfl rfl rfl rfl ?_
  refine G_putF (ws' := [(h0, .inr (7, [.int 0, .int 0, .ref q1, .ref q2, .null, .null, .null, .int 0, .int 0, .int 0, .int 0, .int 0, .int 0, .null, .null, .null, .null, .null, .null])), (q1, .inl (c1, 300, .inl (fun _ => 0))), (q2, .inl (c2, 300, .inl (fun _ => 0)))]) C inX7 tyX7 tyX7_ok nmX7 0 rfl rfl 3 (by decide) wd_3_7 rfl rfl rfl (ty := (.array .int)) (by decide +kernel) rfl rfl (Nat.le_of_ble_eq_true rfl) rfl dX7_init_19 ?_
  refine G_aload_n C dX7_init_22 rfl 0 rfl ?_
  refine G_sipush (v := (300 : Int32)) C dX7_init_23 (by decide) ?_
  refine G_newa (atype := .int) (ty := .int) (N := 300) C rfl wd_1_96 (fun _ => rfl) (by decide) (by decide) (by decide) (Nat.le_of_ble_eq_true rfl) (Nat.le_of_ble_eq_true rfl) dX7_init_26 (fun q3 c3 => ?_)
  refine G_eq (ws' := [(h0, .inr (7, [.int 0, .int 0, .ref q1, .ref q2, .null, .null, .null, .int 0, .int 0, .int 0, .int 0, .int 0, .int 0, .null, .null, .null, .null, .null, .null])), (q1, .inl (c1, 300, .inl (fun _ => 0))), (q2, .inl (c2, 300, .inl (fun _ => 0))), (q3, .inl (c3, 300, .inl (fun _ => 0)))]) (tys' := [(c1, .int), (c2, .int), (c3, .int)]) (cells' := 3) (slots' := 900) rfl rfl rfl rfl ?_
  refine G_putF (ws' := [(h0, .inr (7, [.int 0, .int 0, .ref q1, .ref q2, .ref q3, .null, .null, .int 0, .int 0, .int 0, .int 0, .int 0, .int 0, .null, .null, .null, .null, .null, .null])), (q1, .inl (c1, 300, .inl (fun _ => 0))), (q2, .inl (c2, 300, .inl (fun _ => 0))), (q3, .inl (c3, 300, .inl (fun _ => 0)))]) C inX7 tyX7 tyX7_ok nmX7 0 rfl rfl 4 (by decide) wd_3_8 rfl rfl rfl (ty := (.array .int)) (by decide +kernel) rfl rfl (Nat.le_of_ble_eq_true rfl) rfl dX7_init_28 ?_
  refine G_aload_n C dX7_init_31 rfl 0 rfl ?_
  refine G_bipush (v := (8 : Int32)) C dX7_init_32 (by decide) ?_
  refine G_newa (atype := .int) (ty := .int) (N := 8) C rfl wd_1_96 (fun _ => rfl) (by decide) (by decide) (by decide) (Nat.le_of_ble_eq_true rfl) (Nat.le_of_ble_eq_true rfl) dX7_init_34 (fun q4 c4 => ?_)
  refine G_eq (ws' := [(h0, .inr (7, [.int 0, .int 0, .ref q1, .ref q2, .ref q3, .null, .null, .int 0, .int 0, .int 0, .int 0, .int 0, .int 0, .null, .null, .null, .null, .null, .null])), (q1, .inl (c1, 300, .inl (fun _ => 0))), (q2, .inl (c2, 300, .inl (fun _ => 0))), (q3, .inl (c3, 300, .inl (fun _ => 0))), (q4, .inl (c4, 8, .inl (fun _ => 0)))]) (tys' := [(c1, .int), (c2, .int), (c3, .int), (c4, .int)]) (cells' := 4) (slots' := 908) rfl rfl rfl rfl ?_
  refine G_putF (ws' := [(h0, .inr (7, [.int 0, .int 0, .ref q1, .ref q2, .ref q3, .ref q4, .null, .int 0, .int 0, .int 0, .int 0, .int 0, .int 0, .null, .null, .null, .null, .null, .null])), (q1, .inl (c1, 300, .inl (fun _ => 0))), (q2, .inl (c2, 300, .inl (fun _ => 0))), (q3, .inl (c3, 300, .inl (fun _ => 0))), (q4, .inl (c4, 8, .inl (fun _ => 0)))]) C inX7 tyX7 tyX7_ok nmX7 0 rfl rfl 5 (by decide) wd_3_9 rfl rfl rfl (ty := (.array .int)) (by decide +kernel) rfl rfl (Nat.le_of_ble_eq_true rfl) rfl dX7_init_36 ?_
  refine G_aload_n C dX7_init_39 rfl 0 rfl ?_
  refine G_sipush (v := (320 : Int32)) C dX7_init_40 (by decide) ?_
  refine G_newa (atype := .int) (ty := .int) (N := 320) C rfl wd_1_96 (fun _ => rfl) (by decide) (by decide) (by decide) (Nat.le_of_ble_eq_true rfl) (Nat.le_of_ble_eq_true rfl) dX7_init_43 (fun q5 c5 => ?_)
  refine G_eq (ws' := [(h0, .inr (7, [.int 0, .int 0, .ref q1, .ref q2, .ref q3, .ref q4, .null, .int 0, .int 0, .int 0, .int 0, .int 0, .int 0, .null, .null, .null, .null, .null, .null])), (q1, .inl (c1, 300, .inl (fun _ => 0))), (q2, .inl (c2, 300, .inl (fun _ => 0))), (q3, .inl (c3, 300, .inl (fun _ => 0))), (q4, .inl (c4, 8, .inl (fun _ => 0))), (q5, .inl (c5, 320, .inl (fun _ => 0)))]) (tys' := [(c1, .int), (c2, .int), (c3, .int), (c4, .int), (c5, .int)]) (cells' := 5) (slots' := 1228) rfl rfl rfl rfl ?_
  refine G_putF (ws' := [(h0, .inr (7, [.int 0, .int 0, .ref q1, .ref q2, .ref q3, .ref q4, .ref q5, .int 0, .int 0, .int 0, .int 0, .int 0, .int 0, .null, .null, .null, .null, .null, .null])), (q1, .inl (c1, 300, .inl (fun _ => 0))), (q2, .inl (c2, 300, .inl (fun _ => 0))), (q3, .inl (c3, 300, .inl (fun _ => 0))), (q4, .inl (c4, 8, .inl (fun _ => 0))), (q5, .inl (c5, 320, .inl (fun _ => 0)))]) C inX7 tyX7 tyX7_ok nmX7 0 rfl rfl 6 (by decide) wd_3_10 rfl rfl rfl (ty := (.array .int)) (by decide +kernel) rfl rfl (Nat.le_of_ble_eq_true rfl) rfl dX7_init_45 ?_
  refine G_aload_n C dX7_init_48 rfl 0 rfl ?_
  refine G_bipush (v := (20 : Int32)) C dX7_init_49 (by decide) ?_
  refine G_put (ws' := [(h0, .inr (7, [.int 0, .int 0, .ref q1, .ref q2, .ref q3, .ref q4, .ref q5, .int 0, .int 0, .int (20 : Int32), .int 0, .int 0, .int 0, .null, .null, .null, .null, .null, .null])), (q1, .inl (c1, 300, .inl (fun _ => 0))), (q2, .inl (c2, 300, .inl (fun _ => 0))), (q3, .inl (c3, 300, .inl (fun _ => 0))), (q4, .inl (c4, 8, .inl (fun _ => 0))), (q5, .inl (c5, 320, .inl (fun _ => 0)))]) C inX7 tyX7 tyX7_ok nmX7 0 rfl rfl 9 (by decide) wd_3_13 rfl rfl (ty := .int) (by decide +kernel) rfl rfl (Nat.le_of_ble_eq_true rfl) rfl dX7_init_51 ?_
  refine G_aload_n C dX7_init_54 rfl 0 rfl ?_
  refine G_iconst (v := (5 : Int32)) C dX7_init_55 (by decide) ?_
  refine G_put (ws' := [(h0, .inr (7, [.int 0, .int 0, .ref q1, .ref q2, .ref q3, .ref q4, .ref q5, .int 0, .int 0, .int (20 : Int32), .int (5 : Int32), .int 0, .int 0, .null, .null, .null, .null, .null, .null])), (q1, .inl (c1, 300, .inl (fun _ => 0))), (q2, .inl (c2, 300, .inl (fun _ => 0))), (q3, .inl (c3, 300, .inl (fun _ => 0))), (q4, .inl (c4, 8, .inl (fun _ => 0))), (q5, .inl (c5, 320, .inl (fun _ => 0)))]) C inX7 tyX7 tyX7_ok nmX7 0 rfl rfl 10 (by decide) wd_3_14 rfl rfl (ty := .int) (by decide +kernel) rfl rfl (Nat.le_of_ble_eq_true rfl) rfl dX7_init_56 ?_
  refine G_aload_n C dX7_init_59 rfl 0 rfl ?_
  refine G_iconst (v := (2 : Int32)) C dX7_init_60 (by decide) ?_
  refine G_put (ws' := [(h0, .inr (7, [.int 0, .int 0, .ref q1, .ref q2, .ref q3, .ref q4, .ref q5, .int 0, .int 0, .int (20 : Int32), .int (5 : Int32), .int (2 : Int32), .int 0, .null, .null, .null, .null, .null, .null])), (q1, .inl (c1, 300, .inl (fun _ => 0))), (q2, .inl (c2, 300, .inl (fun _ => 0))), (q3, .inl (c3, 300, .inl (fun _ => 0))), (q4, .inl (c4, 8, .inl (fun _ => 0))), (q5, .inl (c5, 320, .inl (fun _ => 0)))]) C inX7 tyX7 tyX7_ok nmX7 0 rfl rfl 11 (by decide) wd_3_15 rfl rfl (ty := .int) (by decide +kernel) rfl rfl (Nat.le_of_ble_eq_true rfl) rfl dX7_init_61 ?_
  refine G_aload_n C dX7_init_64 rfl 0 rfl ?_
  refine G_sipush (v := (300 : Int32)) C dX7_init_65 (by decide) ?_
  refine G_newa (atype := .boolean) (ty := .boolean) (N := 300) C rfl wd_3_62 (fun _ => rfl) (by decide) (by decide) (by decide) (Nat.le_of_ble_eq_true rfl) (Nat.le_of_ble_eq_true rfl) dX7_init_68 (fun q6 c6 => ?_)
  refine G_eq (ws' := [(h0, .inr (7, [.int 0, .int 0, .ref q1, .ref q2, .ref q3, .ref q4, .ref q5, .int 0, .int 0, .int (20 : Int32), .int (5 : Int32), .int (2 : Int32), .int 0, .null, .null, .null, .null, .null, .null])), (q1, .inl (c1, 300, .inl (fun _ => 0))), (q2, .inl (c2, 300, .inl (fun _ => 0))), (q3, .inl (c3, 300, .inl (fun _ => 0))), (q4, .inl (c4, 8, .inl (fun _ => 0))), (q5, .inl (c5, 320, .inl (fun _ => 0))), (q6, .inl (c6, 300, .inl (fun _ => 0)))]) (tys' := [(c1, .int), (c2, .int), (c3, .int), (c4, .int), (c5, .int), (c6, .boolean)]) (cells' := 6) (slots' := 1528) rfl rfl rfl rfl ?_
  refine G_putF (ws' := [(h0, .inr (7, [.int 0, .int 0, .ref q1, .ref q2, .ref q3, .ref q4, .ref q5, .int 0, .int 0, .int (20 : Int32), .int (5 : Int32), .int (2 : Int32), .int 0, .ref q6, .null, .null, .null, .null, .null])), (q1, .inl (c1, 300, .inl (fun _ => 0))), (q2, .inl (c2, 300, .inl (fun _ => 0))), (q3, .inl (c3, 300, .inl (fun _ => 0))), (q4, .inl (c4, 8, .inl (fun _ => 0))), (q5, .inl (c5, 320, .inl (fun _ => 0))), (q6, .inl (c6, 300, .inl (fun _ => 0)))]) C inX7 tyX7 tyX7_ok nmX7 0 rfl rfl 13 (by decide) wd_3_17 rfl rfl rfl (ty := (.array .boolean)) (by decide +kernel) rfl rfl (Nat.le_of_ble_eq_true rfl) rfl dX7_init_70 ?_
  refine G_aload_n C dX7_init_73 rfl 0 rfl ?_
  refine G_iconst (v := (3 : Int32)) C dX7_init_74 (by decide) ?_
  refine G_newa (atype := .int) (ty := .int) (N := 3) C rfl wd_1_96 (fun _ => rfl) (by decide) (by decide) (by decide) (Nat.le_of_ble_eq_true rfl) (Nat.le_of_ble_eq_true rfl) dX7_init_75 (fun q7 c7 => ?_)
  refine G_eq (ws' := [(h0, .inr (7, [.int 0, .int 0, .ref q1, .ref q2, .ref q3, .ref q4, .ref q5, .int 0, .int 0, .int (20 : Int32), .int (5 : Int32), .int (2 : Int32), .int 0, .ref q6, .null, .null, .null, .null, .null])), (q1, .inl (c1, 300, .inl (fun _ => 0))), (q2, .inl (c2, 300, .inl (fun _ => 0))), (q3, .inl (c3, 300, .inl (fun _ => 0))), (q4, .inl (c4, 8, .inl (fun _ => 0))), (q5, .inl (c5, 320, .inl (fun _ => 0))), (q6, .inl (c6, 300, .inl (fun _ => 0))), (q7, .inl (c7, 3, .inl (fun _ => 0)))]) (tys' := [(c1, .int), (c2, .int), (c3, .int), (c4, .int), (c5, .int), (c6, .boolean), (c7, .int)]) (cells' := 7) (slots' := 1531) rfl rfl rfl rfl ?_
  refine G_putF (ws' := [(h0, .inr (7, [.int 0, .int 0, .ref q1, .ref q2, .ref q3, .ref q4, .ref q5, .int 0, .int 0, .int (20 : Int32), .int (5 : Int32), .int (2 : Int32), .int 0, .ref q6, .ref q7, .null, .null, .null, .null])), (q1, .inl (c1, 300, .inl (fun _ => 0))), (q2, .inl (c2, 300, .inl (fun _ => 0))), (q3, .inl (c3, 300, .inl (fun _ => 0))), (q4, .inl (c4, 8, .inl (fun _ => 0))), (q5, .inl (c5, 320, .inl (fun _ => 0))), (q6, .inl (c6, 300, .inl (fun _ => 0))), (q7, .inl (c7, 3, .inl (fun _ => 0)))]) C inX7 tyX7 tyX7_ok nmX7 0 rfl rfl 14 (by decide) wd_3_18 rfl rfl rfl (ty := (.array .int)) (by decide +kernel) rfl rfl (Nat.le_of_ble_eq_true rfl) rfl dX7_init_77 ?_
  refine G_aload_n C dX7_init_80 rfl 0 rfl ?_
  refine G_bipush (v := (40 : Int32)) C dX7_init_81 (by decide) ?_
  refine G_newa (atype := .int) (ty := .int) (N := 40) C rfl wd_1_96 (fun _ => rfl) (by decide) (by decide) (by decide) (Nat.le_of_ble_eq_true rfl) (Nat.le_of_ble_eq_true rfl) dX7_init_83 (fun q8 c8 => ?_)
  refine G_eq (ws' := [(h0, .inr (7, [.int 0, .int 0, .ref q1, .ref q2, .ref q3, .ref q4, .ref q5, .int 0, .int 0, .int (20 : Int32), .int (5 : Int32), .int (2 : Int32), .int 0, .ref q6, .ref q7, .null, .null, .null, .null])), (q1, .inl (c1, 300, .inl (fun _ => 0))), (q2, .inl (c2, 300, .inl (fun _ => 0))), (q3, .inl (c3, 300, .inl (fun _ => 0))), (q4, .inl (c4, 8, .inl (fun _ => 0))), (q5, .inl (c5, 320, .inl (fun _ => 0))), (q6, .inl (c6, 300, .inl (fun _ => 0))), (q7, .inl (c7, 3, .inl (fun _ => 0))), (q8, .inl (c8, 40, .inl (fun _ => 0)))]) (tys' := [(c1, .int), (c2, .int), (c3, .int), (c4, .int), (c5, .int), (c6, .boolean), (c7, .int), (c8, .int)]) (cells' := 8) (slots' := 1571) rfl rfl rfl rfl ?_
  refine G_putF (ws' := [(h0, .inr (7, [.int 0, .int 0, .ref q1, .ref q2, .ref q3, .ref q4, .ref q5, .int 0, .int 0, .int (20 : Int32), .int (5 : Int32), .int (2 : Int32), .int 0, .ref q6, .ref q7, .ref q8, .null, .null, .null])), (q1, .inl (c1, 300, .inl (fun _ => 0))), (q2, .inl (c2, 300, .inl (fun _ => 0))), (q3, .inl (c3, 300, .inl (fun _ => 0))), (q4, .inl (c4, 8, .inl (fun _ => 0))), (q5, .inl (c5, 320, .inl (fun _ => 0))), (q6, .inl (c6, 300, .inl (fun _ => 0))), (q7, .inl (c7, 3, .inl (fun _ => 0))), (q8, .inl (c8, 40, .inl (fun _ => 0)))]) C inX7 tyX7 tyX7_ok nmX7 0 rfl rfl 15 (by decide) wd_3_19 rfl rfl rfl (ty := (.array .int)) (by decide +kernel) rfl rfl (Nat.le_of_ble_eq_true rfl) rfl dX7_init_85 ?_
  refine G_aload_n C dX7_init_88 rfl 0 rfl ?_
  refine G_bipush (v := (40 : Int32)) C dX7_init_89 (by decide) ?_
  refine G_newa (atype := .int) (ty := .int) (N := 40) C rfl wd_1_96 (fun _ => rfl) (by decide) (by decide) (by decide) (Nat.le_of_ble_eq_true rfl) (Nat.le_of_ble_eq_true rfl) dX7_init_91 (fun q9 c9 => ?_)
  refine G_eq (ws' := [(h0, .inr (7, [.int 0, .int 0, .ref q1, .ref q2, .ref q3, .ref q4, .ref q5, .int 0, .int 0, .int (20 : Int32), .int (5 : Int32), .int (2 : Int32), .int 0, .ref q6, .ref q7, .ref q8, .null, .null, .null])), (q1, .inl (c1, 300, .inl (fun _ => 0))), (q2, .inl (c2, 300, .inl (fun _ => 0))), (q3, .inl (c3, 300, .inl (fun _ => 0))), (q4, .inl (c4, 8, .inl (fun _ => 0))), (q5, .inl (c5, 320, .inl (fun _ => 0))), (q6, .inl (c6, 300, .inl (fun _ => 0))), (q7, .inl (c7, 3, .inl (fun _ => 0))), (q8, .inl (c8, 40, .inl (fun _ => 0))), (q9, .inl (c9, 40, .inl (fun _ => 0)))]) (tys' := [(c1, .int), (c2, .int), (c3, .int), (c4, .int), (c5, .int), (c6, .boolean), (c7, .int), (c8, .int), (c9, .int)]) (cells' := 9) (slots' := 1611) rfl rfl rfl rfl ?_
  refine G_putF (ws' := [(h0, .inr (7, [.int 0, .int 0, .ref q1, .ref q2, .ref q3, .ref q4, .ref q5, .int 0, .int 0, .int (20 : Int32), .int (5 : Int32), .int (2 : Int32), .int 0, .ref q6, .ref q7, .ref q8, .ref q9, .null, .null])), (q1, .inl (c1, 300, .inl (fun _ => 0))), (q2, .inl (c2, 300, .inl (fun _ => 0))), (q3, .inl (c3, 300, .inl (fun _ => 0))), (q4, .inl (c4, 8, .inl (fun _ => 0))), (q5, .inl (c5, 320, .inl (fun _ => 0))), (q6, .inl (c6, 300, .inl (fun _ => 0))), (q7, .inl (c7, 3, .inl (fun _ => 0))), (q8, .inl (c8, 40, .inl (fun _ => 0))), (q9, .inl (c9, 40, .inl (fun _ => 0)))]) C inX7 tyX7 tyX7_ok nmX7 0 rfl rfl 16 (by decide) wd_3_20 rfl rfl rfl (ty := (.array .int)) (by decide +kernel) rfl rfl (Nat.le_of_ble_eq_true rfl) rfl dX7_init_93 ?_
  refine G_aload_n C dX7_init_96 rfl 0 rfl ?_
  refine G_bipush (v := (40 : Int32)) C dX7_init_97 (by decide) ?_
  refine G_newa (atype := .int) (ty := .int) (N := 40) C rfl wd_1_96 (fun _ => rfl) (by decide) (by decide) (by decide) (Nat.le_of_ble_eq_true rfl) (Nat.le_of_ble_eq_true rfl) dX7_init_99 (fun q10 c10 => ?_)
  refine G_eq (ws' := [(h0, .inr (7, [.int 0, .int 0, .ref q1, .ref q2, .ref q3, .ref q4, .ref q5, .int 0, .int 0, .int (20 : Int32), .int (5 : Int32), .int (2 : Int32), .int 0, .ref q6, .ref q7, .ref q8, .ref q9, .null, .null])), (q1, .inl (c1, 300, .inl (fun _ => 0))), (q2, .inl (c2, 300, .inl (fun _ => 0))), (q3, .inl (c3, 300, .inl (fun _ => 0))), (q4, .inl (c4, 8, .inl (fun _ => 0))), (q5, .inl (c5, 320, .inl (fun _ => 0))), (q6, .inl (c6, 300, .inl (fun _ => 0))), (q7, .inl (c7, 3, .inl (fun _ => 0))), (q8, .inl (c8, 40, .inl (fun _ => 0))), (q9, .inl (c9, 40, .inl (fun _ => 0))), (q10, .inl (c10, 40, .inl (fun _ => 0)))]) (tys' := [(c1, .int), (c2, .int), (c3, .int), (c4, .int), (c5, .int), (c6, .boolean), (c7, .int), (c8, .int), (c9, .int), (c10, .int)]) (cells' := 10) (slots' := 1651) rfl rfl rfl rfl ?_
  refine G_putF (ws' := [(h0, .inr (7, [.int 0, .int 0, .ref q1, .ref q2, .ref q3, .ref q4, .ref q5, .int 0, .int 0, .int (20 : Int32), .int (5 : Int32), .int (2 : Int32), .int 0, .ref q6, .ref q7, .ref q8, .ref q9, .ref q10, .null])), (q1, .inl (c1, 300, .inl (fun _ => 0))), (q2, .inl (c2, 300, .inl (fun _ => 0))), (q3, .inl (c3, 300, .inl (fun _ => 0))), (q4, .inl (c4, 8, .inl (fun _ => 0))), (q5, .inl (c5, 320, .inl (fun _ => 0))), (q6, .inl (c6, 300, .inl (fun _ => 0))), (q7, .inl (c7, 3, .inl (fun _ => 0))), (q8, .inl (c8, 40, .inl (fun _ => 0))), (q9, .inl (c9, 40, .inl (fun _ => 0))), (q10, .inl (c10, 40, .inl (fun _ => 0)))]) C inX7 tyX7 tyX7_ok nmX7 0 rfl rfl 17 (by decide) wd_3_21 rfl rfl rfl (ty := (.array .int)) (by decide +kernel) rfl rfl (Nat.le_of_ble_eq_true rfl) rfl dX7_init_101 ?_
  refine G_aload_n C dX7_init_104 rfl 0 rfl ?_
  refine G_bipush (v := (8 : Int32)) C dX7_init_105 (by decide) ?_
  refine G_newa (atype := .int) (ty := .int) (N := 8) C rfl wd_1_96 (fun _ => rfl) (by decide) (by decide) (by decide) (Nat.le_of_ble_eq_true rfl) (Nat.le_of_ble_eq_true rfl) dX7_init_107 (fun q11 c11 => ?_)
  refine G_eq (ws' := [(h0, .inr (7, [.int 0, .int 0, .ref q1, .ref q2, .ref q3, .ref q4, .ref q5, .int 0, .int 0, .int (20 : Int32), .int (5 : Int32), .int (2 : Int32), .int 0, .ref q6, .ref q7, .ref q8, .ref q9, .ref q10, .null])), (q1, .inl (c1, 300, .inl (fun _ => 0))), (q2, .inl (c2, 300, .inl (fun _ => 0))), (q3, .inl (c3, 300, .inl (fun _ => 0))), (q4, .inl (c4, 8, .inl (fun _ => 0))), (q5, .inl (c5, 320, .inl (fun _ => 0))), (q6, .inl (c6, 300, .inl (fun _ => 0))), (q7, .inl (c7, 3, .inl (fun _ => 0))), (q8, .inl (c8, 40, .inl (fun _ => 0))), (q9, .inl (c9, 40, .inl (fun _ => 0))), (q10, .inl (c10, 40, .inl (fun _ => 0))), (q11, .inl (c11, 8, .inl (fun _ => 0)))]) (tys' := [(c1, .int), (c2, .int), (c3, .int), (c4, .int), (c5, .int), (c6, .boolean), (c7, .int), (c8, .int), (c9, .int), (c10, .int), (c11, .int)]) (cells' := 11) (slots' := 1659) rfl rfl rfl rfl ?_
  refine G_putF (ws' := [(h0, .inr (7, [.int 0, .int 0, .ref q1, .ref q2, .ref q3, .ref q4, .ref q5, .int 0, .int 0, .int (20 : Int32), .int (5 : Int32), .int (2 : Int32), .int 0, .ref q6, .ref q7, .ref q8, .ref q9, .ref q10, .ref q11])), (q1, .inl (c1, 300, .inl (fun _ => 0))), (q2, .inl (c2, 300, .inl (fun _ => 0))), (q3, .inl (c3, 300, .inl (fun _ => 0))), (q4, .inl (c4, 8, .inl (fun _ => 0))), (q5, .inl (c5, 320, .inl (fun _ => 0))), (q6, .inl (c6, 300, .inl (fun _ => 0))), (q7, .inl (c7, 3, .inl (fun _ => 0))), (q8, .inl (c8, 40, .inl (fun _ => 0))), (q9, .inl (c9, 40, .inl (fun _ => 0))), (q10, .inl (c10, 40, .inl (fun _ => 0))), (q11, .inl (c11, 8, .inl (fun _ => 0)))]) C inX7 tyX7 tyX7_ok nmX7 0 rfl rfl 18 (by decide) wd_3_22 rfl rfl rfl (ty := (.array .int)) (by decide +kernel) rfl rfl (Nat.le_of_ble_eq_true rfl) rfl dX7_init_109 ?_
  refine G_aload_n C dX7_init_112 rfl 0 rfl ?_
  refine G_iload_n C dX7_init_113 rfl 1 rfl ?_
  refine G_iconst (v := (2 : Int32)) C dX7_init_114 (by decide) ?_
  refine G_icmp_ge (tgt := 122) C dX7_init_115 (by decide) (fun k115 => ?_) (fun k115 => ?_)
  · skip
    refine G_iload_n C dX7_init_122 rfl 1 rfl ?_
    refine G_bipush (v := (8 : Int32)) C dX7_init_123 (by decide) ?_
    refine G_icmp_le (tgt := 133) C dX7_init_125 (by decide) (fun k125 => ?_) (fun k125 => ?_)
    · skip
      refine G_iload_n C dX7_init_133 rfl 1 rfl ?_
      refine G_put (ws' := [(h0, .inr (7, [.int v1, .int 0, .ref q1, .ref q2, .ref q3, .ref q4, .ref q5, .int 0, .int 0, .int (20 : Int32), .int (5 : Int32), .int (2 : Int32), .int 0, .ref q6, .ref q7, .ref q8, .ref q9, .ref q10, .ref q11])), (q1, .inl (c1, 300, .inl (fun _ => 0))), (q2, .inl (c2, 300, .inl (fun _ => 0))), (q3, .inl (c3, 300, .inl (fun _ => 0))), (q4, .inl (c4, 8, .inl (fun _ => 0))), (q5, .inl (c5, 320, .inl (fun _ => 0))), (q6, .inl (c6, 300, .inl (fun _ => 0))), (q7, .inl (c7, 3, .inl (fun _ => 0))), (q8, .inl (c8, 40, .inl (fun _ => 0))), (q9, .inl (c9, 40, .inl (fun _ => 0))), (q10, .inl (c10, 40, .inl (fun _ => 0))), (q11, .inl (c11, 8, .inl (fun _ => 0)))]) C inX7 tyX7 tyX7_ok nmX7 0 rfl rfl 0 (by decide) wd_3_4 rfl rfl (ty := .int) (by decide +kernel) rfl rfl (Nat.le_of_ble_eq_true rfl) rfl dX7_init_134 ?_
      refine G_perm [0, 1, 2, 3, 4, 5, 6, 7, 8, 9, 10, 11] (ws' := [(h0, .inr (7, [.int v1, .int 0, .ref q1, .ref q2, .ref q3, .ref q4, .ref q5, .int 0, .int 0, .int (20 : Int32), .int (5 : Int32), .int (2 : Int32), .int 0, .ref q6, .ref q7, .ref q8, .ref q9, .ref q10, .ref q11])), (q1, .inl (c1, 300, .inl (fun _ => 0))), (q2, .inl (c2, 300, .inl (fun _ => 0))), (q3, .inl (c3, 300, .inl (fun _ => 0))), (q4, .inl (c4, 8, .inl (fun _ => 0))), (q5, .inl (c5, 320, .inl (fun _ => 0))), (q6, .inl (c6, 300, .inl (fun _ => 0))), (q7, .inl (c7, 3, .inl (fun _ => 0))), (q8, .inl (c8, 40, .inl (fun _ => 0))), (q9, .inl (c9, 40, .inl (fun _ => 0))), (q10, .inl (c10, 40, .inl (fun _ => 0))), (q11, .inl (c11, 8, .inl (fun _ => 0)))]) rfl rfl (by decide) ?_
      refine G_K (fun hK => ?_)
      obtain rfl : c1 = c2 := uniC hK 0 1 rfl rfl
      obtain rfl : c1 = c3 := uniC hK 0 2 rfl rfl
      obtain rfl : c1 = c4 := uniC hK 0 3 rfl rfl
      obtain rfl : c1 = c5 := uniC hK 0 4 rfl rfl
      obtain rfl : c1 = c7 := uniC hK 0 6 rfl rfl
      obtain rfl : c1 = c8 := uniC hK 0 7 rfl rfl
      obtain rfl : c1 = c9 := uniC hK 0 8 rfl rfl
      obtain rfl : c1 = c10 := uniC hK 0 9 rfl rfl
      obtain rfl : c1 = c11 := uniC hK 0 10 rfl rfl
      refine G_tys [0, 5] (tys' := [(c1, .int), (c6, .boolean)]) rfl ?_
      exact G_retv C ⟨fun i => [h0, q1, q2, q3, q4, q5, q6, q7, q8, q9, q10, q11].getD i 0, c1, c6, v1, rfl, rfl, rfl, by unfold clM; rw [if_pos k115]; rw [if_pos k125]⟩ dX7_init_137
    · skip
      refine G_bipush (v := (8 : Int32)) C dX7_init_128 (by decide) ?_
      refine G_goto (tgt := 134) C dX7_init_130 (by decide) ?_
      refine G_put (ws' := [(h0, .inr (7, [.int (8 : Int32), .int 0, .ref q1, .ref q2, .ref q3, .ref q4, .ref q5, .int 0, .int 0, .int (20 : Int32), .int (5 : Int32), .int (2 : Int32), .int 0, .ref q6, .ref q7, .ref q8, .ref q9, .ref q10, .ref q11])), (q1, .inl (c1, 300, .inl (fun _ => 0))), (q2, .inl (c2, 300, .inl (fun _ => 0))), (q3, .inl (c3, 300, .inl (fun _ => 0))), (q4, .inl (c4, 8, .inl (fun _ => 0))), (q5, .inl (c5, 320, .inl (fun _ => 0))), (q6, .inl (c6, 300, .inl (fun _ => 0))), (q7, .inl (c7, 3, .inl (fun _ => 0))), (q8, .inl (c8, 40, .inl (fun _ => 0))), (q9, .inl (c9, 40, .inl (fun _ => 0))), (q10, .inl (c10, 40, .inl (fun _ => 0))), (q11, .inl (c11, 8, .inl (fun _ => 0)))]) C inX7 tyX7 tyX7_ok nmX7 0 rfl rfl 0 (by decide) wd_3_4 rfl rfl (ty := .int) (by decide +kernel) rfl rfl (Nat.le_of_ble_eq_true rfl) rfl dX7_init_134 ?_
      refine G_perm [0, 1, 2, 3, 4, 5, 6, 7, 8, 9, 10, 11] (ws' := [(h0, .inr (7, [.int (8 : Int32), .int 0, .ref q1, .ref q2, .ref q3, .ref q4, .ref q5, .int 0, .int 0, .int (20 : Int32), .int (5 : Int32), .int (2 : Int32), .int 0, .ref q6, .ref q7, .ref q8, .ref q9, .ref q10, .ref q11])), (q1, .inl (c1, 300, .inl (fun _ => 0))), (q2, .inl (c2, 300, .inl (fun _ => 0))), (q3, .inl (c3, 300, .inl (fun _ => 0))), (q4, .inl (c4, 8, .inl (fun _ => 0))), (q5, .inl (c5, 320, .inl (fun _ => 0))), (q6, .inl (c6, 300, .inl (fun _ => 0))), (q7, .inl (c7, 3, .inl (fun _ => 0))), (q8, .inl (c8, 40, .inl (fun _ => 0))), (q9, .inl (c9, 40, .inl (fun _ => 0))), (q10, .inl (c10, 40, .inl (fun _ => 0))), (q11, .inl (c11, 8, .inl (fun _ => 0)))]) rfl rfl (by decide) ?_
      refine G_K (fun hK => ?_)
      obtain rfl : c1 = c2 := uniC hK 0 1 rfl rfl
      obtain rfl : c1 = c3 := uniC hK 0 2 rfl rfl
      obtain rfl : c1 = c4 := uniC hK 0 3 rfl rfl
      obtain rfl : c1 = c5 := uniC hK 0 4 rfl rfl
      obtain rfl : c1 = c7 := uniC hK 0 6 rfl rfl
      obtain rfl : c1 = c8 := uniC hK 0 7 rfl rfl
      obtain rfl : c1 = c9 := uniC hK 0 8 rfl rfl
      obtain rfl : c1 = c10 := uniC hK 0 9 rfl rfl
      obtain rfl : c1 = c11 := uniC hK 0 10 rfl rfl
      refine G_tys [0, 5] (tys' := [(c1, .int), (c6, .boolean)]) rfl ?_
      exact G_retv C ⟨fun i => [h0, q1, q2, q3, q4, q5, q6, q7, q8, q9, q10, q11].getD i 0, c1, c6, (8 : Int32), rfl, rfl, rfl, by unfold clM; rw [if_pos k115]; rw [if_neg k125]⟩ dX7_init_137
  · skip
    refine G_iconst (v := (2 : Int32)) C dX7_init_118 (by decide) ?_
    refine G_goto (tgt := 134) C dX7_init_119 (by decide) ?_
    refine G_put (ws' := [(h0, .inr (7, [.int (2 : Int32), .int 0, .ref q1, .ref q2, .ref q3, .ref q4, .ref q5, .int 0, .int 0, .int (20 : Int32), .int (5 : Int32), .int (2 : Int32), .int 0, .ref q6, .ref q7, .ref q8, .ref q9, .ref q10, .ref q11])), (q1, .inl (c1, 300, .inl (fun _ => 0))), (q2, .inl (c2, 300, .inl (fun _ => 0))), (q3, .inl (c3, 300, .inl (fun _ => 0))), (q4, .inl (c4, 8, .inl (fun _ => 0))), (q5, .inl (c5, 320, .inl (fun _ => 0))), (q6, .inl (c6, 300, .inl (fun _ => 0))), (q7, .inl (c7, 3, .inl (fun _ => 0))), (q8, .inl (c8, 40, .inl (fun _ => 0))), (q9, .inl (c9, 40, .inl (fun _ => 0))), (q10, .inl (c10, 40, .inl (fun _ => 0))), (q11, .inl (c11, 8, .inl (fun _ => 0)))]) C inX7 tyX7 tyX7_ok nmX7 0 rfl rfl 0 (by decide) wd_3_4 rfl rfl (ty := .int) (by decide +kernel) rfl rfl (Nat.le_of_ble_eq_true rfl) rfl dX7_init_134 ?_
    refine G_perm [0, 1, 2, 3, 4, 5, 6, 7, 8, 9, 10, 11] (ws' := [(h0, .inr (7, [.int (2 : Int32), .int 0, .ref q1, .ref q2, .ref q3, .ref q4, .ref q5, .int 0, .int 0, .int (20 : Int32), .int (5 : Int32), .int (2 : Int32), .int 0, .ref q6, .ref q7, .ref q8, .ref q9, .ref q10, .ref q11])), (q1, .inl (c1, 300, .inl (fun _ => 0))), (q2, .inl (c2, 300, .inl (fun _ => 0))), (q3, .inl (c3, 300, .inl (fun _ => 0))), (q4, .inl (c4, 8, .inl (fun _ => 0))), (q5, .inl (c5, 320, .inl (fun _ => 0))), (q6, .inl (c6, 300, .inl (fun _ => 0))), (q7, .inl (c7, 3, .inl (fun _ => 0))), (q8, .inl (c8, 40, .inl (fun _ => 0))), (q9, .inl (c9, 40, .inl (fun _ => 0))), (q10, .inl (c10, 40, .inl (fun _ => 0))), (q11, .inl (c11, 8, .inl (fun _ => 0)))]) rfl rfl (by decide) ?_
    refine G_K (fun hK => ?_)
    obtain rfl : c1 = c2 := uniC hK 0 1 rfl rfl
    obtain rfl : c1 = c3 := uniC hK 0 2 rfl rfl
    obtain rfl : c1 = c4 := uniC hK 0 3 rfl rfl
    obtain rfl : c1 = c5 := uniC hK 0 4 rfl rfl
    obtain rfl : c1 = c7 := uniC hK 0 6 rfl rfl
    obtain rfl : c1 = c8 := uniC hK 0 7 rfl rfl
    obtain rfl : c1 = c9 := uniC hK 0 8 rfl rfl
    obtain rfl : c1 = c10 := uniC hK 0 9 rfl rfl
    obtain rfl : c1 = c11 := uniC hK 0 10 rfl rfl
    refine G_tys [0, 5] (tys' := [(c1, .int), (c6, .boolean)]) rfl ?_
    exact G_retv C ⟨fun i => [h0, q1, q2, q3, q4, q5, q6, q7, q8, q9, q10, q11].getD i 0, c1, c6, (2 : Int32), rfl, rfl, rfl, by unfold clM; rw [if_neg k115]⟩ dX7_init_137
