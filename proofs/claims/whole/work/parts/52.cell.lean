/-! the law, printed by wip/whole/gen/gen3.py -/
theorem wd_1_233 : Cond.methodLink RL 21 yX6_line ∈ tbG := wm1 (k := 233) rfl rfl
theorem wd_3_63 : Cond.methodLink RL 25 yX7_line ∈ tbG := wm3 (k := 63) rfl rfl
theorem wd_2_61 : Cond.methodLink RL 26 yX6_rule ∈ tbG := wm2 (k := 61) rfl rfl
theorem wd_3_101 : Cond.methodLink RL 30 yX7_rule ∈ tbG := wm3 (k := 101) rfl rfl
theorem wd_2_65 : Cond.methodLink RL 31 yX6_weights ∈ tbG := wm2 (k := 65) rfl rfl
theorem wd_3_105 : Cond.methodLink RL 35 yX7_weights ∈ tbG := wm3 (k := 105) rfl rfl
theorem wd_2_72 : Cond.methodLink RL 36 yX6_window ∈ tbG := wm2 (k := 72) rfl rfl
theorem wd_3_109 : Cond.methodLink RL 39 yX7_window ∈ tbG := wm3 (k := 109) rfl rfl
theorem wd_2_76 : Cond.methodLink RL 40 yX6_leave ∈ tbG := wm2 (k := 76) rfl rfl
theorem wd_3_113 : Cond.methodLink RL 43 yX7_leave ∈ tbG := wm3 (k := 113) rfl rfl
theorem wd_2_80 : Cond.methodLink RL 44 yX6_better ∈ tbG := wm2 (k := 80) rfl rfl
theorem wd_3_121 : Cond.methodLink RL 48 yX7_better ∈ tbG := wm3 (k := 121) rfl rfl
theorem wd_2_108 : Cond.methodLink RL 49 yX6_more ∈ tbG := wm2 (k := 108) rfl rfl
theorem wd_3_137 : Cond.methodLink RL 53 yX7_more ∈ tbG := wm3 (k := 137) rfl rfl
theorem wd_2_112 : Cond.methodLink RL 54 yX6_less ∈ tbG := wm2 (k := 112) rfl rfl
theorem wd_3_141 : Cond.methodLink RL 57 yX7_less ∈ tbG := wm3 (k := 141) rfl rfl
theorem wd_2_123 : Cond.methodLink RL 58 yX6_host ∈ tbG := wm2 (k := 123) rfl rfl
theorem wd_3_145 : Cond.methodLink RL 61 yX7_host ∈ tbG := wm3 (k := 145) rfl rfl
theorem wd_2_128 : Cond.methodLink RL 62 yX6_load ∈ tbG := wm2 (k := 128) rfl rfl
theorem wd_3_149 : Cond.methodLink RL 65 yX7_load ∈ tbG := wm3 (k := 149) rfl rfl
theorem wd_2_132 : Cond.methodLink RL 66 yX6_copies ∈ tbG := wm2 (k := 132) rfl rfl
theorem wd_3_153 : Cond.methodLink RL 69 yX7_copies ∈ tbG := wm3 (k := 153) rfl rfl
theorem wd_2_136 : Cond.methodLink RL 70 yX6_all ∈ tbG := wm2 (k := 136) rfl rfl
theorem wd_3_157 : Cond.methodLink RL 73 yX7_all ∈ tbG := wm3 (k := 157) rfl rfl
theorem wd_2_140 : Cond.methodLink RL 74 yX6_degree ∈ tbG := wm2 (k := 140) rfl rfl
theorem wd_3_165 : Cond.methodLink RL 77 yX7_degree ∈ tbG := wm3 (k := 165) rfl rfl
theorem wd_2_144 : Cond.methodLink RL 78 yX6_room ∈ tbG := wm2 (k := 144) rfl rfl
theorem wd_3_166 : Cond.methodLink RL 81 yX7_room ∈ tbG := wm3 (k := 166) rfl rfl
theorem wd_2_148 : Cond.methodLink RL 82 yX6_best ∈ tbG := wm2 (k := 148) rfl rfl
theorem wd_3_167 : Cond.methodLink RL 85 yX7_best ∈ tbG := wm3 (k := 167) rfl rfl
theorem wd_2_171 : Cond.methodLink RL 86 yX6_part ∈ tbG := wm2 (k := 171) rfl rfl
theorem wd_3_175 : Cond.methodLink RL 89 yX7_part ∈ tbG := wm3 (k := 175) rfl rfl
theorem wd_2_192 : Cond.methodLink RL 90 yX6_run ∈ tbG := wm2 (k := 192) rfl rfl
theorem wd_3_183 : Cond.methodLink RL 93 yX7_run ∈ tbG := wm3 (k := 183) rfl rfl
theorem wd_2_208 : Cond.methodLink RL 94 yX6_master ∈ tbG := wm2 (k := 208) rfl rfl
theorem wd_3_187 : Cond.methodLink RL 97 yX7_master ∈ tbG := wm3 (k := 187) rfl rfl
theorem wd_2_224 : Cond.methodLink RL 98 yX6_count ∈ tbG := wm2 (k := 224) rfl rfl
theorem wd_3_191 : Cond.methodLink RL 101 yX7_count ∈ tbG := wm3 (k := 191) rfl rfl
theorem wd_2_236 : Cond.static yL_cell ∈ tbG := wm2 (k := 236) rfl rfl
theorem wd_1_0 : Cond.initialized RL ∈ tbG := wm1 (k := 0) rfl rfl
theorem wd_2_237 : Cond.code yL_cell cL_cell 2 (some .int) ∈ tbG := wm2 (k := 237) rfl rfl
theorem wd_2_235 : Cond.methodLink RL 9 yL_cell ∈ tbG := wm2 (k := 235) rfl rfl
theorem wd_1_13 : Cond.instantiable RX6 9 ∈ tbG := wm1 (k := 13) rfl rfl
theorem wd_2_239 : Cond.instantiable RX7 19 ∈ tbG := wm2 (k := 239) rfl rfl
theorem wd_1_12 : Cond.classLink RL 7 RX6 ∈ tbG := wm1 (k := 12) rfl rfl
theorem wd_1_14 : Cond.methodLink RL 15 yX6_init ∈ tbG := wm1 (k := 14) rfl rfl
theorem wd_1_15 : Cond.instanceMethod yX6_init ∈ tbG := wm1 (k := 15) rfl rfl
theorem wd_1_16 : Cond.code yX6_init cX6_init 2 none ∈ tbG := wm1 (k := 16) rfl rfl
theorem wd_2_238 : Cond.classLink RL 18 RX7 ∈ tbG := wm2 (k := 238) rfl rfl
theorem wd_3_0 : Cond.methodLink RL 20 yX7_init ∈ tbG := wm3 (k := 0) rfl rfl
theorem wd_3_1 : Cond.instanceMethod yX7_init ∈ tbG := wm3 (k := 1) rfl rfl
theorem wd_3_2 : Cond.code yX7_init cX7_init 2 none ∈ tbG := wm3 (k := 2) rfl rfl
theorem kwL_cell : KS yL_cell (.code yL_cell cL_cell 2 (some .int)) 2 := ⟨⟨wd_2_236, wd_1_0, wd_2_237⟩, by decide +kernel⟩
theorem dL_cell_0 : decode cL_cell 0 = .ok (.iload_n 1, 1) := by decide +kernel
theorem dL_cell_1 : decode cL_cell 1 = .ok (.aload_n 0, 1) := by decide +kernel
theorem dL_cell_2 : decode cL_cell 2 = .ok (.arraylength, 1) := by decide +kernel
theorem dL_cell_3 : decode cL_cell 3 = .ok (.if_icmp .ge 9, 3) := by decide +kernel
theorem dL_cell_6 : decode cL_cell 6 = .ok (.aload_n 0, 1) := by decide +kernel
theorem dL_cell_7 : decode cL_cell 7 = .ok (.iload_n 1, 1) := by decide +kernel
theorem dL_cell_8 : decode cL_cell 8 = .ok (.iaload, 1) := by decide +kernel
theorem dL_cell_9 : decode cL_cell 9 = .ok (.goto 4, 3) := by decide +kernel
theorem dL_cell_12 : decode cL_cell 12 = .ok (.iconst 0, 1) := by decide +kernel
theorem dL_cell_13 : decode cL_cell 13 = .ok (.ireturn, 1) := by decide +kernel
set_option maxHeartbeats 4000000 in
set_option maxRecDepth 100000 in
theorem kL_cell (l : Launch) (b L : Nat) (xs : Nat → Int32) (hL : L ≤ 1537) : Met l yL_cell (.code yL_cell cL_cell 2 (some .int) :: tbG) (rmD 1) (va_Pc [.ref b, .int 0] (fun U => va_X b L xs U U.heap)) (va_Qi (S := Unit) (fun r' _ => r' = (if 0 < L then xs 0 else 0)) (fun _ _ => True) (fun _ => False)) 0 0 (fun _ => False) := by
  refine Met.ofW (cc := cL_cell) (maxL := 2) (ret := some .int) rfl rfl ?_
  intro p e s m args below meth c s₁ B hml hv
  obtain ⟨rfl, hX⟩ := hv
  have hx := B.exec
  have hb := B.bytes
  have hr := B.returns
  have hlocks := B.notSynchronized
  have hbl : b < s.heap.size := by
    obtain ⟨scr, h1, -⟩ := hX
    exact (Array.getElem?_eq_some_iff.mp h1).1
  have hS : va_S (fun _ => False) s.heap s.heap [] := va_S.rf
  have hl := lv_entry ([.ref b, .int 0]) (n := 2) (Nat.le_of_ble_eq_true rfl)
  rw [lg_entry_eq]
  generalize (lg_sl ([.ref b, .int 0]) ++ List.replicate (2 - (lg_sl ([.ref b, .int 0])).length) Slot.unset).toArray = ls at hl ⊢
  have hl : lv_has ls 2 [(0, .ref b), (1, .int 0)] := hl
  refine lv_iload_n hx hb dL_cell_0 rfl (lv_at hl 1 rfl) ?_
  refine lv_aload_n hx hb dL_cell_1 rfl (lv_at hl 0 rfl) ?_
  refine va_slen hx hb hX hbl (fun h => h) hS dL_cell_2 ?_
  refine lv_icmp_ge (tgt := 12) hx hb dL_cell_3 (by decide) (fun q => ?_) (fun q => ?_)
  · have h0 : ¬ 0 < L := fun z => nI_nle z (by omega) q
    refine lv_iconst (v := 0) hx hb dL_cell_12 (by decide) ?_
    exact W.iret hx hb hr (fun t ht hW => ⟨⟨0, (), rfl, by rw [if_neg h0], trivial⟩, hS.F ht⟩) hS.2.2 dL_cell_13
  · have h0 : 0 < L := by
      refine Nat.pos_of_ne_zero fun z => q ?_
      rw [z]; decide
    refine lv_aload_n hx hb dL_cell_6 rfl (lv_at hl 0 rfl) ?_
    refine lv_iload_n hx hb dL_cell_7 rfl (lv_at hl 1 rfl) ?_
    refine va_sld hx hb hX hbl (fun h => h) hS (vp_in_nI (n := 0) h0 (by omega)) dL_cell_8 ?_
    refine lv_goto (tgt := 13) hx hb dL_cell_9 (by decide) ?_
    exact W.iret hx hb hr (fun t ht hW => ⟨⟨_, (), rfl, by rw [if_pos h0]; rfl, trivial⟩, hS.F ht⟩) hS.2.2 dL_cell_13
