set_option maxHeartbeats 4000000 in
set_option maxRecDepth 100000 in
theorem lc_0 {D : va_G} {p : Program} {l : Launch} {e : Env} {s : State} {m : MethodId} {below : List Frame} {meth : Method} {c : Code} {b L : Nat} {xs : Nat → Int32} {aX aM : Nat → Nat} {cA c1 c2 : ClassId} (C : CG p s m #[Value.ref b] meth c (fun q : Nat => s.heap.size ≤ q) cL_law 4 RL (some .boolean) True) (hX : va_X b L xs s s.heap) (hbl : b < s.heap.size) (hL : L ≤ 1537) {i : Nat} (hi : i + 2 < L) {X M : St} (hR : Rl X M) (hk : ∀ X' M', Rl X' M' → RG D p l e room_1 s m #[Value.ref b] below meth c (fun q : Nat => s.heap.size ≤ q) 4 (lw_Z below #[Value.ref b] s) 600000 7302250 549 [] [(0, .ref b), (1, .ref (aX 0)), (2, .ref (aM 0)), (3, .int (nI i))] (wX aX cA X' ++ wM aM c1 c2 M') [(cA, .int), (c1, .int), (c2, .boolean)]) : RG D p l e room_1 s m #[Value.ref b] below meth c (fun q : Nat => s.heap.size ≤ q) 4 (lw_Z below #[Value.ref b] s) 600000 7302250 132 [] [(0, .ref b), (1, .ref (aX 0)), (2, .ref (aM 0)), (3, .int (nI i))] (wX aX cA X ++ wM aM c1 c2 M) [(cA, .int), (c1, .int), (c2, .boolean)] := by
  obtain ⟨r, X', M', e1, e2, hR'⟩ := du_line (xs (i + 1)) (xs (i + 2)) X M hR
  refine G_aload_n C dL_law_132 rfl 1 rfl ?_
  refine G_aload_n C dL_law_133 rfl 0 rfl ?_
  refine G_iload_n C dL_law_134 rfl 3 rfl ?_
  refine G_iconst (v := nI 1) C dL_law_135 (by decide) ?_
  refine G_iadd C dL_law_136 ?_
  rw [nI_add]
  refine G_sld C hX hbl (Nat.not_le.mpr hbl) (show i + 1 < L by omega) (by omega) dL_law_137 ?_
  refine G_aload_n C dL_law_138 rfl 0 rfl ?_
  refine G_iload_n C dL_law_139 rfl 3 rfl ?_
  refine G_iconst (v := nI 2) C dL_law_140 (by decide) ?_
  refine G_iadd C dL_law_141 ?_
  rw [nI_add]
  refine G_sld C hX hbl (Nat.not_le.mpr hbl) (show i + 2 < L by omega) (by omega) dL_law_142 ?_
  refine G_callX (As := [.int (xs (i + 1)), .int (xs (i + 2))]) (st := []) C (kX6_line l D aX cA X (xs (i + 1)) (xs (i + 2))) e1 ⟨by decide, by decide⟩ wd_1_233 kwX6_line rfl rfl (Nat.le_of_ble_eq_true rfl) dL_law_143 ⟨Nat.le_refl _, Nat.le_refl _⟩ ?_
  refine G_aload_n C dL_law_146 rfl 2 rfl ?_
  refine G_aload_n C dL_law_147 rfl 0 rfl ?_
  refine G_iload_n C dL_law_148 rfl 3 rfl ?_
  refine G_iconst (v := nI 1) C dL_law_149 (by decide) ?_
  refine G_iadd C dL_law_150 ?_
  rw [nI_add]
  refine G_sld C hX hbl (Nat.not_le.mpr hbl) (show i + 1 < L by omega) (by omega) dL_law_151 ?_
  refine G_aload_n C dL_law_152 rfl 0 rfl ?_
  refine G_iload_n C dL_law_153 rfl 3 rfl ?_
  refine G_iconst (v := nI 2) C dL_law_154 (by decide) ?_
  refine G_iadd C dL_law_155 ?_
  rw [nI_add]
  refine G_sld C hX hbl (Nat.not_le.mpr hbl) (show i + 2 < L by omega) (by omega) dL_law_156 ?_
  refine G_callM (As := [.int (xs (i + 1)), .int (xs (i + 2))]) (st := [.int r]) C (kX7_line l D aM c1 c2 M (xs (i + 1)) (xs (i + 2))) e2 ⟨by decide, by decide⟩ wd_3_63 kwX7_line rfl rfl (Nat.le_of_ble_eq_true rfl) dL_law_157 ⟨Nat.le_refl _, Nat.le_refl _⟩ ?_
  refine G_icmp_same (tgt := 549) C dL_law_160 (by decide) ?_
  exact hk X' M' hR'
set_option maxHeartbeats 4000000 in
set_option maxRecDepth 100000 in
theorem lc_1 {D : va_G} {p : Program} {l : Launch} {e : Env} {s : State} {m : MethodId} {below : List Frame} {meth : Method} {c : Code} {b L : Nat} {xs : Nat → Int32} {aX aM : Nat → Nat} {cA c1 c2 : ClassId} (C : CG p s m #[Value.ref b] meth c (fun q : Nat => s.heap.size ≤ q) cL_law 4 RL (some .boolean) True) (hX : va_X b L xs s s.heap) (hbl : b < s.heap.size) (hL : L ≤ 1537) {i : Nat} (hi : i + 2 < L) {X M : St} (hR : Rl X M) (hk : ∀ X' M', Rl X' M' → RG D p l e room_1 s m #[Value.ref b] below meth c (fun q : Nat => s.heap.size ≤ q) 4 (lw_Z below #[Value.ref b] s) 600000 7302250 549 [] [(0, .ref b), (1, .ref (aX 0)), (2, .ref (aM 0)), (3, .int (nI i))] (wX aX cA X' ++ wM aM c1 c2 M') [(cA, .int), (c1, .int), (c2, .boolean)]) : RG D p l e room_1 s m #[Value.ref b] below meth c (fun q : Nat => s.heap.size ≤ q) 4 (lw_Z below #[Value.ref b] s) 600000 7302250 165 [] [(0, .ref b), (1, .ref (aX 0)), (2, .ref (aM 0)), (3, .int (nI i))] (wX aX cA X ++ wM aM c1 c2 M) [(cA, .int), (c1, .int), (c2, .boolean)] := by
  obtain ⟨r, X', M', e1, e2, hR'⟩ := du_rule (xs (i + 1)) X M hR
  refine G_aload_n C dL_law_165 rfl 1 rfl ?_
  refine G_aload_n C dL_law_166 rfl 0 rfl ?_
  refine G_iload_n C dL_law_167 rfl 3 rfl ?_
  refine G_iconst (v := nI 1) C dL_law_168 (by decide) ?_
  refine G_iadd C dL_law_169 ?_
  rw [nI_add]
  refine G_sld C hX hbl (Nat.not_le.mpr hbl) (show i + 1 < L by omega) (by omega) dL_law_170 ?_
  refine G_callX (As := [.int (xs (i + 1))]) (st := []) C (kX6_rule l D aX cA X (xs (i + 1))) e1 ⟨by decide, by decide⟩ wd_2_61 kwX6_rule rfl rfl (Nat.le_of_ble_eq_true rfl) dL_law_171 ⟨Nat.le_refl _, Nat.le_refl _⟩ ?_
  refine G_aload_n C dL_law_174 rfl 2 rfl ?_
  refine G_aload_n C dL_law_175 rfl 0 rfl ?_
  refine G_iload_n C dL_law_176 rfl 3 rfl ?_
  refine G_iconst (v := nI 1) C dL_law_177 (by decide) ?_
  refine G_iadd C dL_law_178 ?_
  rw [nI_add]
  refine G_sld C hX hbl (Nat.not_le.mpr hbl) (show i + 1 < L by omega) (by omega) dL_law_179 ?_
  refine G_callM (As := [.int (xs (i + 1))]) (st := [.int r]) C (kX7_rule l D aM c1 c2 M (xs (i + 1))) e2 ⟨by decide, by decide⟩ wd_3_101 kwX7_rule rfl rfl (Nat.le_of_ble_eq_true rfl) dL_law_180 ⟨Nat.le_refl _, Nat.le_refl _⟩ ?_
  refine G_icmp_same (tgt := 549) C dL_law_183 (by decide) ?_
  exact hk X' M' hR'
set_option maxHeartbeats 4000000 in
set_option maxRecDepth 100000 in
theorem lc_2 {D : va_G} {p : Program} {l : Launch} {e : Env} {s : State} {m : MethodId} {below : List Frame} {meth : Method} {c : Code} {b L : Nat} {xs : Nat → Int32} {aX aM : Nat → Nat} {cA c1 c2 : ClassId} (C : CG p s m #[Value.ref b] meth c (fun q : Nat => s.heap.size ≤ q) cL_law 4 RL (some .boolean) True) (hX : va_X b L xs s s.heap) (hbl : b < s.heap.size) (hL : L ≤ 1537) {i : Nat} (hi : i + 2 < L) {X M : St} (hR : Rl X M) (hk : ∀ X' M', Rl X' M' → RG D p l e room_1 s m #[Value.ref b] below meth c (fun q : Nat => s.heap.size ≤ q) 4 (lw_Z below #[Value.ref b] s) 600000 7302250 549 [] [(0, .ref b), (1, .ref (aX 0)), (2, .ref (aM 0)), (3, .int (nI i))] (wX aX cA X' ++ wM aM c1 c2 M') [(cA, .int), (c1, .int), (c2, .boolean)]) : RG D p l e room_1 s m #[Value.ref b] below meth c (fun q : Nat => s.heap.size ≤ q) 4 (lw_Z below #[Value.ref b] s) 600000 7302250 188 [] [(0, .ref b), (1, .ref (aX 0)), (2, .ref (aM 0)), (3, .int (nI i))] (wX aX cA X ++ wM aM c1 c2 M) [(cA, .int), (c1, .int), (c2, .boolean)] := by
  obtain ⟨r, X', M', e1, e2, hR'⟩ := du_weights (xs (i + 1)) (xs (i + 2)) X M hR
  refine G_aload_n C dL_law_188 rfl 1 rfl ?_
  refine G_aload_n C dL_law_189 rfl 0 rfl ?_
  refine G_iload_n C dL_law_190 rfl 3 rfl ?_
  refine G_iconst (v := nI 1) C dL_law_191 (by decide) ?_
  refine G_iadd C dL_law_192 ?_
  rw [nI_add]
  refine G_sld C hX hbl (Nat.not_le.mpr hbl) (show i + 1 < L by omega) (by omega) dL_law_193 ?_
  refine G_aload_n C dL_law_194 rfl 0 rfl ?_
  refine G_iload_n C dL_law_195 rfl 3 rfl ?_
  refine G_iconst (v := nI 2) C dL_law_196 (by decide) ?_
  refine G_iadd C dL_law_197 ?_
  rw [nI_add]
  refine G_sld C hX hbl (Nat.not_le.mpr hbl) (show i + 2 < L by omega) (by omega) dL_law_198 ?_
  refine G_callX (As := [.int (xs (i + 1)), .int (xs (i + 2))]) (st := []) C (kX6_weights l D aX cA X (xs (i + 1)) (xs (i + 2))) e1 ⟨by decide, by decide⟩ wd_2_65 kwX6_weights rfl rfl (Nat.le_of_ble_eq_true rfl) dL_law_199 ⟨Nat.le_refl _, Nat.le_refl _⟩ ?_
  refine G_aload_n C dL_law_202 rfl 2 rfl ?_
  refine G_aload_n C dL_law_203 rfl 0 rfl ?_
  refine G_iload_n C dL_law_204 rfl 3 rfl ?_
  refine G_iconst (v := nI 1) C dL_law_205 (by decide) ?_
  refine G_iadd C dL_law_206 ?_
  rw [nI_add]
  refine G_sld C hX hbl (Nat.not_le.mpr hbl) (show i + 1 < L by omega) (by omega) dL_law_207 ?_
  refine G_aload_n C dL_law_208 rfl 0 rfl ?_
  refine G_iload_n C dL_law_209 rfl 3 rfl ?_
  refine G_iconst (v := nI 2) C dL_law_210 (by decide) ?_
  refine G_iadd C dL_law_211 ?_
  rw [nI_add]
  refine G_sld C hX hbl (Nat.not_le.mpr hbl) (show i + 2 < L by omega) (by omega) dL_law_212 ?_
  refine G_callM (As := [.int (xs (i + 1)), .int (xs (i + 2))]) (st := [.int r]) C (kX7_weights l D aM c1 c2 M (xs (i + 1)) (xs (i + 2))) e2 ⟨by decide, by decide⟩ wd_3_105 kwX7_weights rfl rfl (Nat.le_of_ble_eq_true rfl) dL_law_213 ⟨Nat.le_refl _, Nat.le_refl _⟩ ?_
  refine G_icmp_same (tgt := 549) C dL_law_216 (by decide) ?_
  exact hk X' M' hR'
set_option maxHeartbeats 4000000 in
set_option maxRecDepth 100000 in
theorem lc_3 {D : va_G} {p : Program} {l : Launch} {e : Env} {s : State} {m : MethodId} {below : List Frame} {meth : Method} {c : Code} {b L : Nat} {xs : Nat → Int32} {aX aM : Nat → Nat} {cA c1 c2 : ClassId} (C : CG p s m #[Value.ref b] meth c (fun q : Nat => s.heap.size ≤ q) cL_law 4 RL (some .boolean) True) (hX : va_X b L xs s s.heap) (hbl : b < s.heap.size) (hL : L ≤ 1537) {i : Nat} (hi : i + 2 < L) {X M : St} (hR : Rl X M) (hk : ∀ X' M', Rl X' M' → RG D p l e room_1 s m #[Value.ref b] below meth c (fun q : Nat => s.heap.size ≤ q) 4 (lw_Z below #[Value.ref b] s) 600000 7302250 549 [] [(0, .ref b), (1, .ref (aX 0)), (2, .ref (aM 0)), (3, .int (nI i))] (wX aX cA X' ++ wM aM c1 c2 M') [(cA, .int), (c1, .int), (c2, .boolean)]) : RG D p l e room_1 s m #[Value.ref b] below meth c (fun q : Nat => s.heap.size ≤ q) 4 (lw_Z below #[Value.ref b] s) 600000 7302250 221 [] [(0, .ref b), (1, .ref (aX 0)), (2, .ref (aM 0)), (3, .int (nI i))] (wX aX cA X ++ wM aM c1 c2 M) [(cA, .int), (c1, .int), (c2, .boolean)] := by
  obtain ⟨r, X', M', e1, e2, hR'⟩ := du_window (xs (i + 1)) X M hR
  refine G_aload_n C dL_law_221 rfl 1 rfl ?_
  refine G_aload_n C dL_law_222 rfl 0 rfl ?_
  refine G_iload_n C dL_law_223 rfl 3 rfl ?_
  refine G_iconst (v := nI 1) C dL_law_224 (by decide) ?_
  refine G_iadd C dL_law_225 ?_
  rw [nI_add]
  refine G_sld C hX hbl (Nat.not_le.mpr hbl) (show i + 1 < L by omega) (by omega) dL_law_226 ?_
  refine G_callX (As := [.int (xs (i + 1))]) (st := []) C (kX6_window l D aX cA X (xs (i + 1))) e1 ⟨by decide, by decide⟩ wd_2_72 kwX6_window rfl rfl (Nat.le_of_ble_eq_true rfl) dL_law_227 ⟨Nat.le_refl _, Nat.le_refl _⟩ ?_
  refine G_aload_n C dL_law_230 rfl 2 rfl ?_
  refine G_aload_n C dL_law_231 rfl 0 rfl ?_
  refine G_iload_n C dL_law_232 rfl 3 rfl ?_
  refine G_iconst (v := nI 1) C dL_law_233 (by decide) ?_
  refine G_iadd C dL_law_234 ?_
  rw [nI_add]
  refine G_sld C hX hbl (Nat.not_le.mpr hbl) (show i + 1 < L by omega) (by omega) dL_law_235 ?_
  refine G_callM (As := [.int (xs (i + 1))]) (st := [.int r]) C (kX7_window l D aM c1 c2 M (xs (i + 1))) e2 ⟨by decide, by decide⟩ wd_3_109 kwX7_window rfl rfl (Nat.le_of_ble_eq_true rfl) dL_law_236 ⟨Nat.le_refl _, Nat.le_refl _⟩ ?_
  refine G_icmp_same (tgt := 549) C dL_law_239 (by decide) ?_
  exact hk X' M' hR'
set_option maxHeartbeats 4000000 in
set_option maxRecDepth 100000 in
theorem lc_4 {D : va_G} {p : Program} {l : Launch} {e : Env} {s : State} {m : MethodId} {below : List Frame} {meth : Method} {c : Code} {b L : Nat} {xs : Nat → Int32} {aX aM : Nat → Nat} {cA c1 c2 : ClassId} (C : CG p s m #[Value.ref b] meth c (fun q : Nat => s.heap.size ≤ q) cL_law 4 RL (some .boolean) True) (hX : va_X b L xs s s.heap) (hbl : b < s.heap.size) (hL : L ≤ 1537) {i : Nat} (hi : i + 2 < L) {X M : St} (hR : Rl X M) (hk : ∀ X' M', Rl X' M' → RG D p l e room_1 s m #[Value.ref b] below meth c (fun q : Nat => s.heap.size ≤ q) 4 (lw_Z below #[Value.ref b] s) 600000 7302250 549 [] [(0, .ref b), (1, .ref (aX 0)), (2, .ref (aM 0)), (3, .int (nI i))] (wX aX cA X' ++ wM aM c1 c2 M') [(cA, .int), (c1, .int), (c2, .boolean)]) : RG D p l e room_1 s m #[Value.ref b] below meth c (fun q : Nat => s.heap.size ≤ q) 4 (lw_Z below #[Value.ref b] s) 600000 7302250 244 [] [(0, .ref b), (1, .ref (aX 0)), (2, .ref (aM 0)), (3, .int (nI i))] (wX aX cA X ++ wM aM c1 c2 M) [(cA, .int), (c1, .int), (c2, .boolean)] := by
  obtain ⟨r, X', M', e1, e2, hR'⟩ := du_leave (xs (i + 1)) X M hR
  refine G_aload_n C dL_law_244 rfl 1 rfl ?_
  refine G_aload_n C dL_law_245 rfl 0 rfl ?_
  refine G_iload_n C dL_law_246 rfl 3 rfl ?_
  refine G_iconst (v := nI 1) C dL_law_247 (by decide) ?_
  refine G_iadd C dL_law_248 ?_
  rw [nI_add]
  refine G_sld C hX hbl (Nat.not_le.mpr hbl) (show i + 1 < L by omega) (by omega) dL_law_249 ?_
  refine G_callX (As := [.int (xs (i + 1))]) (st := []) C (kX6_leave l D aX cA X (xs (i + 1))) e1 ⟨by decide, by decide⟩ wd_2_76 kwX6_leave rfl rfl (Nat.le_of_ble_eq_true rfl) dL_law_250 ⟨Nat.le_refl _, Nat.le_refl _⟩ ?_
  refine G_aload_n C dL_law_253 rfl 2 rfl ?_
  refine G_aload_n C dL_law_254 rfl 0 rfl ?_
  refine G_iload_n C dL_law_255 rfl 3 rfl ?_
  refine G_iconst (v := nI 1) C dL_law_256 (by decide) ?_
  refine G_iadd C dL_law_257 ?_
  rw [nI_add]
  refine G_sld C hX hbl (Nat.not_le.mpr hbl) (show i + 1 < L by omega) (by omega) dL_law_258 ?_
  refine G_callM (As := [.int (xs (i + 1))]) (st := [.int r]) C (kX7_leave l D aM c1 c2 M (xs (i + 1))) e2 ⟨by decide, by decide⟩ wd_3_113 kwX7_leave rfl rfl (Nat.le_of_ble_eq_true rfl) dL_law_259 ⟨Nat.le_refl _, Nat.le_refl _⟩ ?_
  refine G_icmp_same (tgt := 549) C dL_law_262 (by decide) ?_
  exact hk X' M' hR'
set_option maxHeartbeats 4000000 in
set_option maxRecDepth 100000 in
theorem lc_5 {D : va_G} {p : Program} {l : Launch} {e : Env} {s : State} {m : MethodId} {below : List Frame} {meth : Method} {c : Code} {b L : Nat} {xs : Nat → Int32} {aX aM : Nat → Nat} {cA c1 c2 : ClassId} (C : CG p s m #[Value.ref b] meth c (fun q : Nat => s.heap.size ≤ q) cL_law 4 RL (some .boolean) True) (hX : va_X b L xs s s.heap) (hbl : b < s.heap.size) (hL : L ≤ 1537) {i : Nat} (hi : i + 2 < L) {X M : St} (hR : Rl X M) (hk : ∀ X' M', Rl X' M' → RG D p l e room_1 s m #[Value.ref b] below meth c (fun q : Nat => s.heap.size ≤ q) 4 (lw_Z below #[Value.ref b] s) 600000 7302250 549 [] [(0, .ref b), (1, .ref (aX 0)), (2, .ref (aM 0)), (3, .int (nI i))] (wX aX cA X' ++ wM aM c1 c2 M') [(cA, .int), (c1, .int), (c2, .boolean)]) : RG D p l e room_1 s m #[Value.ref b] below meth c (fun q : Nat => s.heap.size ≤ q) 4 (lw_Z below #[Value.ref b] s) 600000 7302250 267 [] [(0, .ref b), (1, .ref (aX 0)), (2, .ref (aM 0)), (3, .int (nI i))] (wX aX cA X ++ wM aM c1 c2 M) [(cA, .int), (c1, .int), (c2, .boolean)] := by
  obtain ⟨r, X', M', e1, e2, hR'⟩ := du_better (xs (i + 1)) X M hR
  refine G_aload_n C dL_law_267 rfl 1 rfl ?_
  refine G_aload_n C dL_law_268 rfl 0 rfl ?_
  refine G_iload_n C dL_law_269 rfl 3 rfl ?_
  refine G_iconst (v := nI 1) C dL_law_270 (by decide) ?_
  refine G_iadd C dL_law_271 ?_
  rw [nI_add]
  refine G_sld C hX hbl (Nat.not_le.mpr hbl) (show i + 1 < L by omega) (by omega) dL_law_272 ?_
  refine G_callX (As := [.int (xs (i + 1))]) (st := []) C (kX6_better l D aX cA X (xs (i + 1))) e1 ⟨by decide, by decide⟩ wd_2_80 kwX6_better rfl rfl (Nat.le_of_ble_eq_true rfl) dL_law_273 ⟨Nat.le_refl _, Nat.le_refl _⟩ ?_
  refine G_aload_n C dL_law_276 rfl 2 rfl ?_
  refine G_aload_n C dL_law_277 rfl 0 rfl ?_
  refine G_iload_n C dL_law_278 rfl 3 rfl ?_
  refine G_iconst (v := nI 1) C dL_law_279 (by decide) ?_
  refine G_iadd C dL_law_280 ?_
  rw [nI_add]
  refine G_sld C hX hbl (Nat.not_le.mpr hbl) (show i + 1 < L by omega) (by omega) dL_law_281 ?_
  refine G_callM (As := [.int (xs (i + 1))]) (st := [.int r]) C (kX7_better l D aM c1 c2 M (xs (i + 1))) e2 ⟨by decide, by decide⟩ wd_3_121 kwX7_better rfl rfl (Nat.le_of_ble_eq_true rfl) dL_law_282 ⟨Nat.le_refl _, Nat.le_refl _⟩ ?_
  refine G_icmp_same (tgt := 549) C dL_law_285 (by decide) ?_
  exact hk X' M' hR'
set_option maxHeartbeats 4000000 in
set_option maxRecDepth 100000 in
theorem lc_6 {D : va_G} {p : Program} {l : Launch} {e : Env} {s : State} {m : MethodId} {below : List Frame} {meth : Method} {c : Code} {b L : Nat} {xs : Nat → Int32} {aX aM : Nat → Nat} {cA c1 c2 : ClassId} (C : CG p s m #[Value.ref b] meth c (fun q : Nat => s.heap.size ≤ q) cL_law 4 RL (some .boolean) True) (hX : va_X b L xs s s.heap) (hbl : b < s.heap.size) (hL : L ≤ 1537) {i : Nat} (hi : i + 2 < L) {X M : St} (hR : Rl X M) (hk : ∀ X' M', Rl X' M' → RG D p l e room_1 s m #[Value.ref b] below meth c (fun q : Nat => s.heap.size ≤ q) 4 (lw_Z below #[Value.ref b] s) 600000 7302250 549 [] [(0, .ref b), (1, .ref (aX 0)), (2, .ref (aM 0)), (3, .int (nI i))] (wX aX cA X' ++ wM aM c1 c2 M') [(cA, .int), (c1, .int), (c2, .boolean)]) : RG D p l e room_1 s m #[Value.ref b] below meth c (fun q : Nat => s.heap.size ≤ q) 4 (lw_Z below #[Value.ref b] s) 600000 7302250 290 [] [(0, .ref b), (1, .ref (aX 0)), (2, .ref (aM 0)), (3, .int (nI i))] (wX aX cA X ++ wM aM c1 c2 M) [(cA, .int), (c1, .int), (c2, .boolean)] := by
  obtain ⟨r, X', M', e1, e2, hR'⟩ := du_more X M hR
  refine G_aload_n C dL_law_290 rfl 1 rfl ?_
  refine G_callX (As := []) (st := []) C (kX6_more l D aX cA X) e1 ⟨by decide, by decide⟩ wd_2_108 kwX6_more rfl rfl (Nat.le_of_ble_eq_true rfl) dL_law_291 ⟨Nat.le_refl _, Nat.le_refl _⟩ ?_
  refine G_aload_n C dL_law_294 rfl 2 rfl ?_
  refine G_callM (As := []) (st := [.int r]) C (kX7_more l D aM c1 c2 M) e2 ⟨by decide, by decide⟩ wd_3_137 kwX7_more rfl rfl (Nat.le_of_ble_eq_true rfl) dL_law_295 ⟨Nat.le_refl _, Nat.le_refl _⟩ ?_
  refine G_icmp_same (tgt := 549) C dL_law_298 (by decide) ?_
  exact hk X' M' hR'
set_option maxHeartbeats 4000000 in
set_option maxRecDepth 100000 in
theorem lc_7 {D : va_G} {p : Program} {l : Launch} {e : Env} {s : State} {m : MethodId} {below : List Frame} {meth : Method} {c : Code} {b L : Nat} {xs : Nat → Int32} {aX aM : Nat → Nat} {cA c1 c2 : ClassId} (C : CG p s m #[Value.ref b] meth c (fun q : Nat => s.heap.size ≤ q) cL_law 4 RL (some .boolean) True) (hX : va_X b L xs s s.heap) (hbl : b < s.heap.size) (hL : L ≤ 1537) {i : Nat} (hi : i + 2 < L) {X M : St} (hR : Rl X M) (hk : ∀ X' M', Rl X' M' → RG D p l e room_1 s m #[Value.ref b] below meth c (fun q : Nat => s.heap.size ≤ q) 4 (lw_Z below #[Value.ref b] s) 600000 7302250 549 [] [(0, .ref b), (1, .ref (aX 0)), (2, .ref (aM 0)), (3, .int (nI i))] (wX aX cA X' ++ wM aM c1 c2 M') [(cA, .int), (c1, .int), (c2, .boolean)]) : RG D p l e room_1 s m #[Value.ref b] below meth c (fun q : Nat => s.heap.size ≤ q) 4 (lw_Z below #[Value.ref b] s) 600000 7302250 303 [] [(0, .ref b), (1, .ref (aX 0)), (2, .ref (aM 0)), (3, .int (nI i))] (wX aX cA X ++ wM aM c1 c2 M) [(cA, .int), (c1, .int), (c2, .boolean)] := by
  obtain ⟨r, X', M', e1, e2, hR'⟩ := du_less (xs (i + 1)) X M hR
  refine G_aload_n C dL_law_303 rfl 1 rfl ?_
  refine G_aload_n C dL_law_304 rfl 0 rfl ?_
  refine G_iload_n C dL_law_305 rfl 3 rfl ?_
  refine G_iconst (v := nI 1) C dL_law_306 (by decide) ?_
  refine G_iadd C dL_law_307 ?_
  rw [nI_add]
  refine G_sld C hX hbl (Nat.not_le.mpr hbl) (show i + 1 < L by omega) (by omega) dL_law_308 ?_
  refine G_callX (As := [.int (xs (i + 1))]) (st := []) C (kX6_less l D aX cA X (xs (i + 1))) e1 ⟨by decide, by decide⟩ wd_2_112 kwX6_less rfl rfl (Nat.le_of_ble_eq_true rfl) dL_law_309 ⟨Nat.le_refl _, Nat.le_refl _⟩ ?_
  refine G_aload_n C dL_law_312 rfl 2 rfl ?_
  refine G_aload_n C dL_law_313 rfl 0 rfl ?_
  refine G_iload_n C dL_law_314 rfl 3 rfl ?_
  refine G_iconst (v := nI 1) C dL_law_315 (by decide) ?_
  refine G_iadd C dL_law_316 ?_
  rw [nI_add]
  refine G_sld C hX hbl (Nat.not_le.mpr hbl) (show i + 1 < L by omega) (by omega) dL_law_317 ?_
  refine G_callM (As := [.int (xs (i + 1))]) (st := [.int r]) C (kX7_less l D aM c1 c2 M (xs (i + 1))) e2 ⟨by decide, by decide⟩ wd_3_141 kwX7_less rfl rfl (Nat.le_of_ble_eq_true rfl) dL_law_318 ⟨Nat.le_refl _, Nat.le_refl _⟩ ?_
  refine G_icmp_same (tgt := 549) C dL_law_321 (by decide) ?_
  exact hk X' M' hR'
set_option maxHeartbeats 4000000 in
set_option maxRecDepth 100000 in
theorem lc_8 {D : va_G} {p : Program} {l : Launch} {e : Env} {s : State} {m : MethodId} {below : List Frame} {meth : Method} {c : Code} {b L : Nat} {xs : Nat → Int32} {aX aM : Nat → Nat} {cA c1 c2 : ClassId} (C : CG p s m #[Value.ref b] meth c (fun q : Nat => s.heap.size ≤ q) cL_law 4 RL (some .boolean) True) (hX : va_X b L xs s s.heap) (hbl : b < s.heap.size) (hL : L ≤ 1537) {i : Nat} (hi : i + 2 < L) {X M : St} (hR : Rl X M) (hk : ∀ X' M', Rl X' M' → RG D p l e room_1 s m #[Value.ref b] below meth c (fun q : Nat => s.heap.size ≤ q) 4 (lw_Z below #[Value.ref b] s) 600000 7302250 549 [] [(0, .ref b), (1, .ref (aX 0)), (2, .ref (aM 0)), (3, .int (nI i))] (wX aX cA X' ++ wM aM c1 c2 M') [(cA, .int), (c1, .int), (c2, .boolean)]) : RG D p l e room_1 s m #[Value.ref b] below meth c (fun q : Nat => s.heap.size ≤ q) 4 (lw_Z below #[Value.ref b] s) 600000 7302250 326 [] [(0, .ref b), (1, .ref (aX 0)), (2, .ref (aM 0)), (3, .int (nI i))] (wX aX cA X ++ wM aM c1 c2 M) [(cA, .int), (c1, .int), (c2, .boolean)] := by
  obtain ⟨r, X', M', e1, e2, hR'⟩ := du_host (xs (i + 1)) X M hR
  refine G_aload_n C dL_law_326 rfl 1 rfl ?_
  refine G_aload_n C dL_law_327 rfl 0 rfl ?_
  refine G_iload_n C dL_law_328 rfl 3 rfl ?_
  refine G_iconst (v := nI 1) C dL_law_329 (by decide) ?_
  refine G_iadd C dL_law_330 ?_
  rw [nI_add]
  refine G_sld C hX hbl (Nat.not_le.mpr hbl) (show i + 1 < L by omega) (by omega) dL_law_331 ?_
  refine G_callX (As := [.int (xs (i + 1))]) (st := []) C (kX6_host l D aX cA X (xs (i + 1))) e1 ⟨by decide, by decide⟩ wd_2_123 kwX6_host rfl rfl (Nat.le_of_ble_eq_true rfl) dL_law_332 ⟨Nat.le_refl _, Nat.le_refl _⟩ ?_
  refine G_aload_n C dL_law_335 rfl 2 rfl ?_
  refine G_aload_n C dL_law_336 rfl 0 rfl ?_
  refine G_iload_n C dL_law_337 rfl 3 rfl ?_
  refine G_iconst (v := nI 1) C dL_law_338 (by decide) ?_
  refine G_iadd C dL_law_339 ?_
  rw [nI_add]
  refine G_sld C hX hbl (Nat.not_le.mpr hbl) (show i + 1 < L by omega) (by omega) dL_law_340 ?_
  refine G_callM (As := [.int (xs (i + 1))]) (st := [.int r]) C (kX7_host l D aM c1 c2 M (xs (i + 1))) e2 ⟨by decide, by decide⟩ wd_3_145 kwX7_host rfl rfl (Nat.le_of_ble_eq_true rfl) dL_law_341 ⟨Nat.le_refl _, Nat.le_refl _⟩ ?_
  refine G_icmp_same (tgt := 549) C dL_law_344 (by decide) ?_
  exact hk X' M' hR'
set_option maxHeartbeats 4000000 in
set_option maxRecDepth 100000 in
theorem lc_9 {D : va_G} {p : Program} {l : Launch} {e : Env} {s : State} {m : MethodId} {below : List Frame} {meth : Method} {c : Code} {b L : Nat} {xs : Nat → Int32} {aX aM : Nat → Nat} {cA c1 c2 : ClassId} (C : CG p s m #[Value.ref b] meth c (fun q : Nat => s.heap.size ≤ q) cL_law 4 RL (some .boolean) True) (hX : va_X b L xs s s.heap) (hbl : b < s.heap.size) (hL : L ≤ 1537) {i : Nat} (hi : i + 2 < L) {X M : St} (hR : Rl X M) (hk : ∀ X' M', Rl X' M' → RG D p l e room_1 s m #[Value.ref b] below meth c (fun q : Nat => s.heap.size ≤ q) 4 (lw_Z below #[Value.ref b] s) 600000 7302250 549 [] [(0, .ref b), (1, .ref (aX 0)), (2, .ref (aM 0)), (3, .int (nI i))] (wX aX cA X' ++ wM aM c1 c2 M') [(cA, .int), (c1, .int), (c2, .boolean)]) : RG D p l e room_1 s m #[Value.ref b] below meth c (fun q : Nat => s.heap.size ≤ q) 4 (lw_Z below #[Value.ref b] s) 600000 7302250 349 [] [(0, .ref b), (1, .ref (aX 0)), (2, .ref (aM 0)), (3, .int (nI i))] (wX aX cA X ++ wM aM c1 c2 M) [(cA, .int), (c1, .int), (c2, .boolean)] := by
  obtain ⟨r, X', M', e1, e2, hR'⟩ := du_load (xs (i + 1)) X M hR
  refine G_aload_n C dL_law_349 rfl 1 rfl ?_
  refine G_aload_n C dL_law_350 rfl 0 rfl ?_
  refine G_iload_n C dL_law_351 rfl 3 rfl ?_
  refine G_iconst (v := nI 1) C dL_law_352 (by decide) ?_
  refine G_iadd C dL_law_353 ?_
  rw [nI_add]
  refine G_sld C hX hbl (Nat.not_le.mpr hbl) (show i + 1 < L by omega) (by omega) dL_law_354 ?_
  refine G_callX (As := [.int (xs (i + 1))]) (st := []) C (kX6_load l D aX cA X (xs (i + 1))) e1 ⟨by decide, by decide⟩ wd_2_128 kwX6_load rfl rfl (Nat.le_of_ble_eq_true rfl) dL_law_355 ⟨Nat.le_refl _, Nat.le_refl _⟩ ?_
  refine G_aload_n C dL_law_358 rfl 2 rfl ?_
  refine G_aload_n C dL_law_359 rfl 0 rfl ?_
  refine G_iload_n C dL_law_360 rfl 3 rfl ?_
  refine G_iconst (v := nI 1) C dL_law_361 (by decide) ?_
  refine G_iadd C dL_law_362 ?_
  rw [nI_add]
  refine G_sld C hX hbl (Nat.not_le.mpr hbl) (show i + 1 < L by omega) (by omega) dL_law_363 ?_
  refine G_callM (As := [.int (xs (i + 1))]) (st := [.int r]) C (kX7_load l D aM c1 c2 M (xs (i + 1))) e2 ⟨by decide, by decide⟩ wd_3_149 kwX7_load rfl rfl (Nat.le_of_ble_eq_true rfl) dL_law_364 ⟨Nat.le_refl _, Nat.le_refl _⟩ ?_
  refine G_icmp_same (tgt := 549) C dL_law_367 (by decide) ?_
  exact hk X' M' hR'
set_option maxHeartbeats 4000000 in
set_option maxRecDepth 100000 in
theorem lc_10 {D : va_G} {p : Program} {l : Launch} {e : Env} {s : State} {m : MethodId} {below : List Frame} {meth : Method} {c : Code} {b L : Nat} {xs : Nat → Int32} {aX aM : Nat → Nat} {cA c1 c2 : ClassId} (C : CG p s m #[Value.ref b] meth c (fun q : Nat => s.heap.size ≤ q) cL_law 4 RL (some .boolean) True) (hX : va_X b L xs s s.heap) (hbl : b < s.heap.size) (hL : L ≤ 1537) {i : Nat} (hi : i + 2 < L) {X M : St} (hR : Rl X M) (hk : ∀ X' M', Rl X' M' → RG D p l e room_1 s m #[Value.ref b] below meth c (fun q : Nat => s.heap.size ≤ q) 4 (lw_Z below #[Value.ref b] s) 600000 7302250 549 [] [(0, .ref b), (1, .ref (aX 0)), (2, .ref (aM 0)), (3, .int (nI i))] (wX aX cA X' ++ wM aM c1 c2 M') [(cA, .int), (c1, .int), (c2, .boolean)]) : RG D p l e room_1 s m #[Value.ref b] below meth c (fun q : Nat => s.heap.size ≤ q) 4 (lw_Z below #[Value.ref b] s) 600000 7302250 372 [] [(0, .ref b), (1, .ref (aX 0)), (2, .ref (aM 0)), (3, .int (nI i))] (wX aX cA X ++ wM aM c1 c2 M) [(cA, .int), (c1, .int), (c2, .boolean)] := by
  obtain ⟨r, X', M', e1, e2, hR'⟩ := du_copies (xs (i + 1)) X M hR
  refine G_aload_n C dL_law_372 rfl 1 rfl ?_
  refine G_aload_n C dL_law_373 rfl 0 rfl ?_
  refine G_iload_n C dL_law_374 rfl 3 rfl ?_
  refine G_iconst (v := nI 1) C dL_law_375 (by decide) ?_
  refine G_iadd C dL_law_376 ?_
  rw [nI_add]
  refine G_sld C hX hbl (Nat.not_le.mpr hbl) (show i + 1 < L by omega) (by omega) dL_law_377 ?_
  refine G_callX (As := [.int (xs (i + 1))]) (st := []) C (kX6_copies l D aX cA X (xs (i + 1))) e1 ⟨by decide, by decide⟩ wd_2_132 kwX6_copies rfl rfl (Nat.le_of_ble_eq_true rfl) dL_law_378 ⟨Nat.le_refl _, Nat.le_refl _⟩ ?_
  refine G_aload_n C dL_law_381 rfl 2 rfl ?_
  refine G_aload_n C dL_law_382 rfl 0 rfl ?_
  refine G_iload_n C dL_law_383 rfl 3 rfl ?_
  refine G_iconst (v := nI 1) C dL_law_384 (by decide) ?_
  refine G_iadd C dL_law_385 ?_
  rw [nI_add]
  refine G_sld C hX hbl (Nat.not_le.mpr hbl) (show i + 1 < L by omega) (by omega) dL_law_386 ?_
  refine G_callM (As := [.int (xs (i + 1))]) (st := [.int r]) C (kX7_copies l D aM c1 c2 M (xs (i + 1))) e2 ⟨by decide, by decide⟩ wd_3_153 kwX7_copies rfl rfl (Nat.le_of_ble_eq_true rfl) dL_law_387 ⟨Nat.le_refl _, Nat.le_refl _⟩ ?_
  refine G_icmp_same (tgt := 549) C dL_law_390 (by decide) ?_
  exact hk X' M' hR'
set_option maxHeartbeats 4000000 in
set_option maxRecDepth 100000 in
theorem lc_11 {D : va_G} {p : Program} {l : Launch} {e : Env} {s : State} {m : MethodId} {below : List Frame} {meth : Method} {c : Code} {b L : Nat} {xs : Nat → Int32} {aX aM : Nat → Nat} {cA c1 c2 : ClassId} (C : CG p s m #[Value.ref b] meth c (fun q : Nat => s.heap.size ≤ q) cL_law 4 RL (some .boolean) True) (hX : va_X b L xs s s.heap) (hbl : b < s.heap.size) (hL : L ≤ 1537) {i : Nat} (hi : i + 2 < L) {X M : St} (hR : Rl X M) (hk : ∀ X' M', Rl X' M' → RG D p l e room_1 s m #[Value.ref b] below meth c (fun q : Nat => s.heap.size ≤ q) 4 (lw_Z below #[Value.ref b] s) 600000 7302250 549 [] [(0, .ref b), (1, .ref (aX 0)), (2, .ref (aM 0)), (3, .int (nI i))] (wX aX cA X' ++ wM aM c1 c2 M') [(cA, .int), (c1, .int), (c2, .boolean)]) : RG D p l e room_1 s m #[Value.ref b] below meth c (fun q : Nat => s.heap.size ≤ q) 4 (lw_Z below #[Value.ref b] s) 600000 7302250 395 [] [(0, .ref b), (1, .ref (aX 0)), (2, .ref (aM 0)), (3, .int (nI i))] (wX aX cA X ++ wM aM c1 c2 M) [(cA, .int), (c1, .int), (c2, .boolean)] := by
  obtain ⟨r, X', M', e1, e2, hR'⟩ := du_all X M hR
  refine G_aload_n C dL_law_395 rfl 1 rfl ?_
  refine G_callX (As := []) (st := []) C (kX6_all l D aX cA X) e1 ⟨by decide, by decide⟩ wd_2_136 kwX6_all rfl rfl (Nat.le_of_ble_eq_true rfl) dL_law_396 ⟨Nat.le_refl _, Nat.le_refl _⟩ ?_
  refine G_aload_n C dL_law_399 rfl 2 rfl ?_
  refine G_callM (As := []) (st := [.int r]) C (kX7_all l D aM c1 c2 M) e2 ⟨by decide, by decide⟩ wd_3_157 kwX7_all rfl rfl (Nat.le_of_ble_eq_true rfl) dL_law_400 ⟨Nat.le_refl _, Nat.le_refl _⟩ ?_
  refine G_icmp_same (tgt := 549) C dL_law_403 (by decide) ?_
  exact hk X' M' hR'
set_option maxHeartbeats 4000000 in
set_option maxRecDepth 100000 in
theorem lc_12 {D : va_G} {p : Program} {l : Launch} {e : Env} {s : State} {m : MethodId} {below : List Frame} {meth : Method} {c : Code} {b L : Nat} {xs : Nat → Int32} {aX aM : Nat → Nat} {cA c1 c2 : ClassId} (C : CG p s m #[Value.ref b] meth c (fun q : Nat => s.heap.size ≤ q) cL_law 4 RL (some .boolean) True) (hX : va_X b L xs s s.heap) (hbl : b < s.heap.size) (hL : L ≤ 1537) {i : Nat} (hi : i + 2 < L) {X M : St} (hR : Rl X M) (hk : ∀ X' M', Rl X' M' → RG D p l e room_1 s m #[Value.ref b] below meth c (fun q : Nat => s.heap.size ≤ q) 4 (lw_Z below #[Value.ref b] s) 600000 7302250 549 [] [(0, .ref b), (1, .ref (aX 0)), (2, .ref (aM 0)), (3, .int (nI i))] (wX aX cA X' ++ wM aM c1 c2 M') [(cA, .int), (c1, .int), (c2, .boolean)]) : RG D p l e room_1 s m #[Value.ref b] below meth c (fun q : Nat => s.heap.size ≤ q) 4 (lw_Z below #[Value.ref b] s) 600000 7302250 408 [] [(0, .ref b), (1, .ref (aX 0)), (2, .ref (aM 0)), (3, .int (nI i))] (wX aX cA X ++ wM aM c1 c2 M) [(cA, .int), (c1, .int), (c2, .boolean)] := by
  obtain ⟨r, X', M', e1, e2, hR'⟩ := du_degree (xs (i + 1)) X M hR
  refine G_aload_n C dL_law_408 rfl 1 rfl ?_
  refine G_aload_n C dL_law_409 rfl 0 rfl ?_
  refine G_iload_n C dL_law_410 rfl 3 rfl ?_
  refine G_iconst (v := nI 1) C dL_law_411 (by decide) ?_
  refine G_iadd C dL_law_412 ?_
  rw [nI_add]
  refine G_sld C hX hbl (Nat.not_le.mpr hbl) (show i + 1 < L by omega) (by omega) dL_law_413 ?_
  refine G_callX (As := [.int (xs (i + 1))]) (st := []) C (kX6_degree l D aX cA X (xs (i + 1))) e1 ⟨by decide, by decide⟩ wd_2_140 kwX6_degree rfl rfl (Nat.le_of_ble_eq_true rfl) dL_law_414 ⟨Nat.le_refl _, Nat.le_refl _⟩ ?_
  refine G_aload_n C dL_law_417 rfl 2 rfl ?_
  refine G_aload_n C dL_law_418 rfl 0 rfl ?_
  refine G_iload_n C dL_law_419 rfl 3 rfl ?_
  refine G_iconst (v := nI 1) C dL_law_420 (by decide) ?_
  refine G_iadd C dL_law_421 ?_
  rw [nI_add]
  refine G_sld C hX hbl (Nat.not_le.mpr hbl) (show i + 1 < L by omega) (by omega) dL_law_422 ?_
  refine G_callM (As := [.int (xs (i + 1))]) (st := [.int r]) C (kX7_degree l D aM c1 c2 M (xs (i + 1))) e2 ⟨by decide, by decide⟩ wd_3_165 kwX7_degree rfl rfl (Nat.le_of_ble_eq_true rfl) dL_law_423 ⟨Nat.le_refl _, Nat.le_refl _⟩ ?_
  refine G_icmp_same (tgt := 549) C dL_law_426 (by decide) ?_
  exact hk X' M' hR'
set_option maxHeartbeats 4000000 in
set_option maxRecDepth 100000 in
theorem lc_13 {D : va_G} {p : Program} {l : Launch} {e : Env} {s : State} {m : MethodId} {below : List Frame} {meth : Method} {c : Code} {b L : Nat} {xs : Nat → Int32} {aX aM : Nat → Nat} {cA c1 c2 : ClassId} (C : CG p s m #[Value.ref b] meth c (fun q : Nat => s.heap.size ≤ q) cL_law 4 RL (some .boolean) True) (hX : va_X b L xs s s.heap) (hbl : b < s.heap.size) (hL : L ≤ 1537) {i : Nat} (hi : i + 2 < L) {X M : St} (hR : Rl X M) (hk : ∀ X' M', Rl X' M' → RG D p l e room_1 s m #[Value.ref b] below meth c (fun q : Nat => s.heap.size ≤ q) 4 (lw_Z below #[Value.ref b] s) 600000 7302250 549 [] [(0, .ref b), (1, .ref (aX 0)), (2, .ref (aM 0)), (3, .int (nI i))] (wX aX cA X' ++ wM aM c1 c2 M') [(cA, .int), (c1, .int), (c2, .boolean)]) : RG D p l e room_1 s m #[Value.ref b] below meth c (fun q : Nat => s.heap.size ≤ q) 4 (lw_Z below #[Value.ref b] s) 600000 7302250 431 [] [(0, .ref b), (1, .ref (aX 0)), (2, .ref (aM 0)), (3, .int (nI i))] (wX aX cA X ++ wM aM c1 c2 M) [(cA, .int), (c1, .int), (c2, .boolean)] := by
  obtain ⟨r, X', M', e1, e2, hR'⟩ := du_room X M hR
  refine G_aload_n C dL_law_431 rfl 1 rfl ?_
  refine G_callX (As := []) (st := []) C (kX6_room l D aX cA X) e1 ⟨by decide, by decide⟩ wd_2_144 kwX6_room rfl rfl (Nat.le_of_ble_eq_true rfl) dL_law_432 ⟨Nat.le_refl _, Nat.le_refl _⟩ ?_
  refine G_aload_n C dL_law_435 rfl 2 rfl ?_
  refine G_callM (As := []) (st := [.int r]) C (kX7_room l D aM c1 c2 M) e2 ⟨by decide, by decide⟩ wd_3_166 kwX7_room rfl rfl (Nat.le_of_ble_eq_true rfl) dL_law_436 ⟨Nat.le_refl _, Nat.le_refl _⟩ ?_
  refine G_icmp_same (tgt := 549) C dL_law_439 (by decide) ?_
  exact hk X' M' hR'
set_option maxHeartbeats 4000000 in
set_option maxRecDepth 100000 in
theorem lc_14 {D : va_G} {p : Program} {l : Launch} {e : Env} {s : State} {m : MethodId} {below : List Frame} {meth : Method} {c : Code} {b L : Nat} {xs : Nat → Int32} {aX aM : Nat → Nat} {cA c1 c2 : ClassId} (C : CG p s m #[Value.ref b] meth c (fun q : Nat => s.heap.size ≤ q) cL_law 4 RL (some .boolean) True) (hX : va_X b L xs s s.heap) (hbl : b < s.heap.size) (hL : L ≤ 1537) {i : Nat} (hi : i + 2 < L) {X M : St} (hR : Rl X M) (hk : ∀ X' M', Rl X' M' → RG D p l e room_1 s m #[Value.ref b] below meth c (fun q : Nat => s.heap.size ≤ q) 4 (lw_Z below #[Value.ref b] s) 600000 7302250 549 [] [(0, .ref b), (1, .ref (aX 0)), (2, .ref (aM 0)), (3, .int (nI i))] (wX aX cA X' ++ wM aM c1 c2 M') [(cA, .int), (c1, .int), (c2, .boolean)]) : RG D p l e room_1 s m #[Value.ref b] below meth c (fun q : Nat => s.heap.size ≤ q) 4 (lw_Z below #[Value.ref b] s) 600000 7302250 444 [] [(0, .ref b), (1, .ref (aX 0)), (2, .ref (aM 0)), (3, .int (nI i))] (wX aX cA X ++ wM aM c1 c2 M) [(cA, .int), (c1, .int), (c2, .boolean)] := by
  obtain ⟨r, X', M', e1, e2, hR'⟩ := du_best X M hR
  refine G_aload_n C dL_law_444 rfl 1 rfl ?_
  refine G_callX (As := []) (st := []) C (kX6_best l D aX cA X) e1 ⟨by decide, by decide⟩ wd_2_148 kwX6_best rfl rfl (Nat.le_of_ble_eq_true rfl) dL_law_445 ⟨Nat.le_refl _, Nat.le_refl _⟩ ?_
  refine G_aload_n C dL_law_448 rfl 2 rfl ?_
  refine G_callM (As := []) (st := [.int r]) C (kX7_best l D aM c1 c2 M) e2 ⟨by decide, by decide⟩ wd_3_167 kwX7_best rfl rfl (Nat.le_of_ble_eq_true rfl) dL_law_449 ⟨Nat.le_refl _, Nat.le_refl _⟩ ?_
  refine G_icmp_same (tgt := 549) C dL_law_452 (by decide) ?_
  exact hk X' M' hR'
set_option maxHeartbeats 4000000 in
set_option maxRecDepth 100000 in
theorem lc_15 {D : va_G} {p : Program} {l : Launch} {e : Env} {s : State} {m : MethodId} {below : List Frame} {meth : Method} {c : Code} {b L : Nat} {xs : Nat → Int32} {aX aM : Nat → Nat} {cA c1 c2 : ClassId} (C : CG p s m #[Value.ref b] meth c (fun q : Nat => s.heap.size ≤ q) cL_law 4 RL (some .boolean) True) (hX : va_X b L xs s s.heap) (hbl : b < s.heap.size) (hL : L ≤ 1537) {i : Nat} (hi : i + 2 < L) {X M : St} (hR : Rl X M) (hk : ∀ X' M', Rl X' M' → RG D p l e room_1 s m #[Value.ref b] below meth c (fun q : Nat => s.heap.size ≤ q) 4 (lw_Z below #[Value.ref b] s) 600000 7302250 549 [] [(0, .ref b), (1, .ref (aX 0)), (2, .ref (aM 0)), (3, .int (nI i))] (wX aX cA X' ++ wM aM c1 c2 M') [(cA, .int), (c1, .int), (c2, .boolean)]) : RG D p l e room_1 s m #[Value.ref b] below meth c (fun q : Nat => s.heap.size ≤ q) 4 (lw_Z below #[Value.ref b] s) 600000 7302250 457 [] [(0, .ref b), (1, .ref (aX 0)), (2, .ref (aM 0)), (3, .int (nI i))] (wX aX cA X ++ wM aM c1 c2 M) [(cA, .int), (c1, .int), (c2, .boolean)] := by
  obtain ⟨r, X', M', e1, e2, hR'⟩ := du_part (xs (i + 1)) X M hR
  refine G_aload_n C dL_law_457 rfl 1 rfl ?_
  refine G_aload_n C dL_law_458 rfl 0 rfl ?_
  refine G_iload_n C dL_law_459 rfl 3 rfl ?_
  refine G_iconst (v := nI 1) C dL_law_460 (by decide) ?_
  refine G_iadd C dL_law_461 ?_
  rw [nI_add]
  refine G_sld C hX hbl (Nat.not_le.mpr hbl) (show i + 1 < L by omega) (by omega) dL_law_462 ?_
  refine G_callX (As := [.int (xs (i + 1))]) (st := []) C (kX6_part l D aX cA X (xs (i + 1))) e1 ⟨by decide, by decide⟩ wd_2_171 kwX6_part rfl rfl (Nat.le_of_ble_eq_true rfl) dL_law_463 ⟨Nat.le_refl _, Nat.le_refl _⟩ ?_
  refine G_aload_n C dL_law_466 rfl 2 rfl ?_
  refine G_aload_n C dL_law_467 rfl 0 rfl ?_
  refine G_iload_n C dL_law_468 rfl 3 rfl ?_
  refine G_iconst (v := nI 1) C dL_law_469 (by decide) ?_
  refine G_iadd C dL_law_470 ?_
  rw [nI_add]
  refine G_sld C hX hbl (Nat.not_le.mpr hbl) (show i + 1 < L by omega) (by omega) dL_law_471 ?_
  refine G_callM (As := [.int (xs (i + 1))]) (st := [.int r]) C (kX7_part l D aM c1 c2 M (xs (i + 1))) e2 ⟨by decide, by decide⟩ wd_3_175 kwX7_part rfl rfl (Nat.le_of_ble_eq_true rfl) dL_law_472 ⟨Nat.le_refl _, Nat.le_refl _⟩ ?_
  refine G_icmp_same (tgt := 549) C dL_law_475 (by decide) ?_
  exact hk X' M' hR'
set_option maxHeartbeats 4000000 in
set_option maxRecDepth 100000 in
theorem lc_16 {D : va_G} {p : Program} {l : Launch} {e : Env} {s : State} {m : MethodId} {below : List Frame} {meth : Method} {c : Code} {b L : Nat} {xs : Nat → Int32} {aX aM : Nat → Nat} {cA c1 c2 : ClassId} (C : CG p s m #[Value.ref b] meth c (fun q : Nat => s.heap.size ≤ q) cL_law 4 RL (some .boolean) True) (hX : va_X b L xs s s.heap) (hbl : b < s.heap.size) (hL : L ≤ 1537) {i : Nat} (hi : i + 2 < L) {X M : St} (hR : Rl X M) (hk : ∀ X' M', Rl X' M' → RG D p l e room_1 s m #[Value.ref b] below meth c (fun q : Nat => s.heap.size ≤ q) 4 (lw_Z below #[Value.ref b] s) 600000 7302250 549 [] [(0, .ref b), (1, .ref (aX 0)), (2, .ref (aM 0)), (3, .int (nI i))] (wX aX cA X' ++ wM aM c1 c2 M') [(cA, .int), (c1, .int), (c2, .boolean)]) : RG D p l e room_1 s m #[Value.ref b] below meth c (fun q : Nat => s.heap.size ≤ q) 4 (lw_Z below #[Value.ref b] s) 600000 7302250 480 [] [(0, .ref b), (1, .ref (aX 0)), (2, .ref (aM 0)), (3, .int (nI i))] (wX aX cA X ++ wM aM c1 c2 M) [(cA, .int), (c1, .int), (c2, .boolean)] := by
  obtain ⟨r, X', M', e1, e2, hR'⟩ := du_run (xs (i + 1)) X M hR
  refine G_aload_n C dL_law_480 rfl 1 rfl ?_
  refine G_aload_n C dL_law_481 rfl 0 rfl ?_
  refine G_iload_n C dL_law_482 rfl 3 rfl ?_
  refine G_iconst (v := nI 1) C dL_law_483 (by decide) ?_
  refine G_iadd C dL_law_484 ?_
  rw [nI_add]
  refine G_sld C hX hbl (Nat.not_le.mpr hbl) (show i + 1 < L by omega) (by omega) dL_law_485 ?_
  refine G_callX (As := [.int (xs (i + 1))]) (st := []) C (kX6_run l D aX cA X (xs (i + 1))) e1 ⟨by decide, by decide⟩ wd_2_192 kwX6_run rfl rfl (Nat.le_of_ble_eq_true rfl) dL_law_486 ⟨Nat.le_refl _, Nat.le_refl _⟩ ?_
  refine G_aload_n C dL_law_489 rfl 2 rfl ?_
  refine G_aload_n C dL_law_490 rfl 0 rfl ?_
  refine G_iload_n C dL_law_491 rfl 3 rfl ?_
  refine G_iconst (v := nI 1) C dL_law_492 (by decide) ?_
  refine G_iadd C dL_law_493 ?_
  rw [nI_add]
  refine G_sld C hX hbl (Nat.not_le.mpr hbl) (show i + 1 < L by omega) (by omega) dL_law_494 ?_
  refine G_callM (As := [.int (xs (i + 1))]) (st := [.int r]) C (kX7_run l D aM c1 c2 M (xs (i + 1))) e2 ⟨by decide, by decide⟩ wd_3_183 kwX7_run rfl rfl (Nat.le_of_ble_eq_true rfl) dL_law_495 ⟨Nat.le_refl _, Nat.le_refl _⟩ ?_
  refine G_icmp_same (tgt := 549) C dL_law_498 (by decide) ?_
  exact hk X' M' hR'
set_option maxHeartbeats 4000000 in
set_option maxRecDepth 100000 in
theorem lc_17 {D : va_G} {p : Program} {l : Launch} {e : Env} {s : State} {m : MethodId} {below : List Frame} {meth : Method} {c : Code} {b L : Nat} {xs : Nat → Int32} {aX aM : Nat → Nat} {cA c1 c2 : ClassId} (C : CG p s m #[Value.ref b] meth c (fun q : Nat => s.heap.size ≤ q) cL_law 4 RL (some .boolean) True) (hX : va_X b L xs s s.heap) (hbl : b < s.heap.size) (hL : L ≤ 1537) {i : Nat} (hi : i + 2 < L) {X M : St} (hR : Rl X M) (hk : ∀ X' M', Rl X' M' → RG D p l e room_1 s m #[Value.ref b] below meth c (fun q : Nat => s.heap.size ≤ q) 4 (lw_Z below #[Value.ref b] s) 600000 7302250 549 [] [(0, .ref b), (1, .ref (aX 0)), (2, .ref (aM 0)), (3, .int (nI i))] (wX aX cA X' ++ wM aM c1 c2 M') [(cA, .int), (c1, .int), (c2, .boolean)]) : RG D p l e room_1 s m #[Value.ref b] below meth c (fun q : Nat => s.heap.size ≤ q) 4 (lw_Z below #[Value.ref b] s) 600000 7302250 503 [] [(0, .ref b), (1, .ref (aX 0)), (2, .ref (aM 0)), (3, .int (nI i))] (wX aX cA X ++ wM aM c1 c2 M) [(cA, .int), (c1, .int), (c2, .boolean)] := by
  obtain ⟨r, X', M', e1, e2, hR'⟩ := du_master (xs (i + 1)) X M hR
  refine G_aload_n C dL_law_503 rfl 1 rfl ?_
  refine G_aload_n C dL_law_504 rfl 0 rfl ?_
  refine G_iload_n C dL_law_505 rfl 3 rfl ?_
  refine G_iconst (v := nI 1) C dL_law_506 (by decide) ?_
  refine G_iadd C dL_law_507 ?_
  rw [nI_add]
  refine G_sld C hX hbl (Nat.not_le.mpr hbl) (show i + 1 < L by omega) (by omega) dL_law_508 ?_
  refine G_callX (As := [.int (xs (i + 1))]) (st := []) C (kX6_master l D aX cA X (xs (i + 1))) e1 ⟨by decide, by decide⟩ wd_2_208 kwX6_master rfl rfl (Nat.le_of_ble_eq_true rfl) dL_law_509 ⟨Nat.le_refl _, Nat.le_refl _⟩ ?_
  refine G_aload_n C dL_law_512 rfl 2 rfl ?_
  refine G_aload_n C dL_law_513 rfl 0 rfl ?_
  refine G_iload_n C dL_law_514 rfl 3 rfl ?_
  refine G_iconst (v := nI 1) C dL_law_515 (by decide) ?_
  refine G_iadd C dL_law_516 ?_
  rw [nI_add]
  refine G_sld C hX hbl (Nat.not_le.mpr hbl) (show i + 1 < L by omega) (by omega) dL_law_517 ?_
  refine G_callM (As := [.int (xs (i + 1))]) (st := [.int r]) C (kX7_master l D aM c1 c2 M (xs (i + 1))) e2 ⟨by decide, by decide⟩ wd_3_187 kwX7_master rfl rfl (Nat.le_of_ble_eq_true rfl) dL_law_518 ⟨Nat.le_refl _, Nat.le_refl _⟩ ?_
  refine G_icmp_same (tgt := 549) C dL_law_521 (by decide) ?_
  exact hk X' M' hR'
set_option maxHeartbeats 4000000 in
set_option maxRecDepth 100000 in
theorem lc_18 {D : va_G} {p : Program} {l : Launch} {e : Env} {s : State} {m : MethodId} {below : List Frame} {meth : Method} {c : Code} {b L : Nat} {xs : Nat → Int32} {aX aM : Nat → Nat} {cA c1 c2 : ClassId} (C : CG p s m #[Value.ref b] meth c (fun q : Nat => s.heap.size ≤ q) cL_law 4 RL (some .boolean) True) (hX : va_X b L xs s s.heap) (hbl : b < s.heap.size) (hL : L ≤ 1537) {i : Nat} (hi : i + 2 < L) {X M : St} (hR : Rl X M) (hk : ∀ X' M', Rl X' M' → RG D p l e room_1 s m #[Value.ref b] below meth c (fun q : Nat => s.heap.size ≤ q) 4 (lw_Z below #[Value.ref b] s) 600000 7302250 549 [] [(0, .ref b), (1, .ref (aX 0)), (2, .ref (aM 0)), (3, .int (nI i))] (wX aX cA X' ++ wM aM c1 c2 M') [(cA, .int), (c1, .int), (c2, .boolean)]) : RG D p l e room_1 s m #[Value.ref b] below meth c (fun q : Nat => s.heap.size ≤ q) 4 (lw_Z below #[Value.ref b] s) 600000 7302250 526 [] [(0, .ref b), (1, .ref (aX 0)), (2, .ref (aM 0)), (3, .int (nI i))] (wX aX cA X ++ wM aM c1 c2 M) [(cA, .int), (c1, .int), (c2, .boolean)] := by
  obtain ⟨r, X', M', e1, e2, hR'⟩ := du_count (xs (i + 1)) X M hR
  refine G_aload_n C dL_law_526 rfl 1 rfl ?_
  refine G_aload_n C dL_law_527 rfl 0 rfl ?_
  refine G_iload_n C dL_law_528 rfl 3 rfl ?_
  refine G_iconst (v := nI 1) C dL_law_529 (by decide) ?_
  refine G_iadd C dL_law_530 ?_
  rw [nI_add]
  refine G_sld C hX hbl (Nat.not_le.mpr hbl) (show i + 1 < L by omega) (by omega) dL_law_531 ?_
  refine G_callX (As := [.int (xs (i + 1))]) (st := []) C (kX6_count l D aX cA X (xs (i + 1))) e1 ⟨by decide, by decide⟩ wd_2_224 kwX6_count rfl rfl (Nat.le_of_ble_eq_true rfl) dL_law_532 ⟨Nat.le_refl _, Nat.le_refl _⟩ ?_
  refine G_aload_n C dL_law_535 rfl 2 rfl ?_
  refine G_aload_n C dL_law_536 rfl 0 rfl ?_
  refine G_iload_n C dL_law_537 rfl 3 rfl ?_
  refine G_iconst (v := nI 1) C dL_law_538 (by decide) ?_
  refine G_iadd C dL_law_539 ?_
  rw [nI_add]
  refine G_sld C hX hbl (Nat.not_le.mpr hbl) (show i + 1 < L by omega) (by omega) dL_law_540 ?_
  refine G_callM (As := [.int (xs (i + 1))]) (st := [.int r]) C (kX7_count l D aM c1 c2 M (xs (i + 1))) e2 ⟨by decide, by decide⟩ wd_3_191 kwX7_count rfl rfl (Nat.le_of_ble_eq_true rfl) dL_law_541 ⟨Nat.le_refl _, Nat.le_refl _⟩ ?_
  refine G_icmp_same (tgt := 549) C dL_law_544 (by decide) ?_
  exact hk X' M' hR'
set_option maxHeartbeats 4000000 in
set_option maxRecDepth 100000 in
theorem law_loop {D : va_G} {p : Program} {l : Launch} {e : Env} {s : State} {m : MethodId} {below : List Frame} {meth : Method} {c : Code} {b L : Nat} {xs : Nat → Int32} {aX aM : Nat → Nat} {cA c1 c2 : ClassId} (C : CG p s m #[Value.ref b] meth c (fun q : Nat => s.heap.size ≤ q) cL_law 4 RL (some .boolean) True) (hX : va_X b L xs s s.heap) (hbl : b < s.heap.size) (hL : L ≤ 1537) : ∀ (N i : Nat) (X M : St), Rl X M → i ≤ L + 3 → L + 3 < N + i → RG D p l e room_1 s m #[Value.ref b] below meth c (fun q : Nat => s.heap.size ≤ q) 4 (lw_Z below #[Value.ref b] s) 600000 7302250 28 [] [(0, .ref b), (1, .ref (aX 0)), (2, .ref (aM 0)), (3, .int (nI i))] (wX aX cA X ++ wM aM c1 c2 M) [(cA, .int), (c1, .int), (c2, .boolean)] := by
  intro N
  induction N with
  | zero => intro i X M hR hi hN; omega
  | succ N ih =>
    intro i X M hR hi hN
    refine G_iload_n C dL_law_28 rfl 3 rfl ?_
    refine G_aload_n C dL_law_29 rfl 0 rfl ?_
    refine G_slen C hX hbl (Nat.not_le.mpr hbl) dL_law_30 ?_
    refine G_iconst (v := nI 3) C dL_law_31 (by decide) ?_
    refine G_isub C dL_law_32 ?_
    refine G_icmp_gt (tgt := 555) C dL_law_33 (by decide) (fun hq => ?_) (fun hq => ?_)
    · refine G_iconst (v := 1) C dL_law_555 (by decide) ?_
      intro H locs ls hP hD hK hS hl
      refine va_forget (fun q hq => hS.2.2 q hq) ?_
      exact lw_ret C.1 C.2.1 C.2.2.1 C.2.2.2.2.2.2.1 dL_law_556
    · have h3 : i + 2 < L := by
        have h1 := pk_sub_toInt (a := L) (b := 3) (by omega) (by decide)
        have h2 := nI_toInt (n := i) (by omega)
        have h4 : ¬ ((nI L - nI 3).toInt < (nI i).toInt) := fun z => hq (Int32.lt_iff_toInt_lt.mpr z)
        omega
      have hk : ∀ X' M', Rl X' M' → RG D p l e room_1 s m #[Value.ref b] below meth c (fun q : Nat => s.heap.size ≤ q) 4 (lw_Z below #[Value.ref b] s) 600000 7302250 549 [] [(0, .ref b), (1, .ref (aX 0)), (2, .ref (aM 0)), (3, .int (nI i))] (wX aX cA X' ++ wM aM c1 c2 M') [(cA, .int), (c1, .int), (c2, .boolean)] := by
        intro X' M' hR'
        refine G_iinc (v := nI (i + 3)) (lv' := [(3, .int (nI (i + 3))), (0, .ref b), (1, .ref (aX 0)), (2, .ref (aM 0))]) C dL_law_549 3 rfl (by rw [← nI_add]; rfl) (by decide) rfl ?_
        refine G_goto (tgt := 28) C dL_law_552 (by decide) ?_
        refine G_lv [1, 2, 3, 0] rfl ?_
        exact ih (i + 3) X' M' hR' (by omega) (by omega)
      refine G_aload_n C dL_law_36 rfl 0 rfl ?_
      refine G_iload_n C dL_law_37 rfl 3 rfl ?_
      refine G_sld C hX hbl (Nat.not_le.mpr hbl) (show i < L by omega) (by omega) dL_law_38 ?_
      refine G_bipush (v := 31) C dL_law_39 (by decide) ?_
      refine G_iand C dL_law_41 ?_
      generalize xs i &&& 31 = z
      refine G_case (v := 0) (fun _ => ?_) (fun q0 => ?_)
      · refine G_tsIn (tgt := 132) (off := 90) C dL_law_42 (by decide) (by decide) (by decide +kernel) (by decide) ?_
        exact lc_0 C hX hbl hL h3 hR hk
      refine G_case (v := 1) (fun _ => ?_) (fun q1 => ?_)
      · refine G_tsIn (tgt := 165) (off := 123) C dL_law_42 (by decide) (by decide) (by decide +kernel) (by decide) ?_
        exact lc_1 C hX hbl hL h3 hR hk
      refine G_case (v := 2) (fun _ => ?_) (fun q2 => ?_)
      · refine G_tsIn (tgt := 188) (off := 146) C dL_law_42 (by decide) (by decide) (by decide +kernel) (by decide) ?_
        exact lc_2 C hX hbl hL h3 hR hk
      refine G_case (v := 3) (fun _ => ?_) (fun q3 => ?_)
      · refine G_tsIn (tgt := 221) (off := 179) C dL_law_42 (by decide) (by decide) (by decide +kernel) (by decide) ?_
        exact lc_3 C hX hbl hL h3 hR hk
      refine G_case (v := 4) (fun _ => ?_) (fun q4 => ?_)
      · refine G_tsIn (tgt := 244) (off := 202) C dL_law_42 (by decide) (by decide) (by decide +kernel) (by decide) ?_
        exact lc_4 C hX hbl hL h3 hR hk
      refine G_case (v := 5) (fun _ => ?_) (fun q5 => ?_)
      · refine G_tsIn (tgt := 267) (off := 225) C dL_law_42 (by decide) (by decide) (by decide +kernel) (by decide) ?_
        exact lc_5 C hX hbl hL h3 hR hk
      refine G_case (v := 6) (fun _ => ?_) (fun q6 => ?_)
      · refine G_tsIn (tgt := 290) (off := 248) C dL_law_42 (by decide) (by decide) (by decide +kernel) (by decide) ?_
        exact lc_6 C hX hbl hL h3 hR hk
      refine G_case (v := 7) (fun _ => ?_) (fun q7 => ?_)
      · refine G_tsIn (tgt := 303) (off := 261) C dL_law_42 (by decide) (by decide) (by decide +kernel) (by decide) ?_
        exact lc_7 C hX hbl hL h3 hR hk
      refine G_case (v := 8) (fun _ => ?_) (fun q8 => ?_)
      · refine G_tsIn (tgt := 326) (off := 284) C dL_law_42 (by decide) (by decide) (by decide +kernel) (by decide) ?_
        exact lc_8 C hX hbl hL h3 hR hk
      refine G_case (v := 9) (fun _ => ?_) (fun q9 => ?_)
      · refine G_tsIn (tgt := 349) (off := 307) C dL_law_42 (by decide) (by decide) (by decide +kernel) (by decide) ?_
        exact lc_9 C hX hbl hL h3 hR hk
      refine G_case (v := 10) (fun _ => ?_) (fun q10 => ?_)
      · refine G_tsIn (tgt := 372) (off := 330) C dL_law_42 (by decide) (by decide) (by decide +kernel) (by decide) ?_
        exact lc_10 C hX hbl hL h3 hR hk
      refine G_case (v := 11) (fun _ => ?_) (fun q11 => ?_)
      · refine G_tsIn (tgt := 395) (off := 353) C dL_law_42 (by decide) (by decide) (by decide +kernel) (by decide) ?_
        exact lc_11 C hX hbl hL h3 hR hk
      refine G_case (v := 12) (fun _ => ?_) (fun q12 => ?_)
      · refine G_tsIn (tgt := 408) (off := 366) C dL_law_42 (by decide) (by decide) (by decide +kernel) (by decide) ?_
        exact lc_12 C hX hbl hL h3 hR hk
      refine G_case (v := 13) (fun _ => ?_) (fun q13 => ?_)
      · refine G_tsIn (tgt := 431) (off := 389) C dL_law_42 (by decide) (by decide) (by decide +kernel) (by decide) ?_
        exact lc_13 C hX hbl hL h3 hR hk
      refine G_case (v := 14) (fun _ => ?_) (fun q14 => ?_)
      · refine G_tsIn (tgt := 444) (off := 402) C dL_law_42 (by decide) (by decide) (by decide +kernel) (by decide) ?_
        exact lc_14 C hX hbl hL h3 hR hk
      refine G_case (v := 15) (fun _ => ?_) (fun q15 => ?_)
      · refine G_tsIn (tgt := 457) (off := 415) C dL_law_42 (by decide) (by decide) (by decide +kernel) (by decide) ?_
        exact lc_15 C hX hbl hL h3 hR hk
      refine G_case (v := 16) (fun _ => ?_) (fun q16 => ?_)
      · refine G_tsIn (tgt := 480) (off := 438) C dL_law_42 (by decide) (by decide) (by decide +kernel) (by decide) ?_
        exact lc_16 C hX hbl hL h3 hR hk
      refine G_case (v := 17) (fun _ => ?_) (fun q17 => ?_)
      · refine G_tsIn (tgt := 503) (off := 461) C dL_law_42 (by decide) (by decide) (by decide +kernel) (by decide) ?_
        exact lc_17 C hX hbl hL h3 hR hk
      refine G_case (v := 18) (fun _ => ?_) (fun q18 => ?_)
      · refine G_tsIn (tgt := 526) (off := 484) C dL_law_42 (by decide) (by decide) (by decide +kernel) (by decide) ?_
        exact lc_18 C hX hbl hL h3 hR hk
      refine G_tsOut (tgt := 549) C dL_law_42 (by have w0 := lv_neT (a := 0) q0 rfl; have w1 := lv_neT (a := 1) q1 rfl; have w2 := lv_neT (a := 2) q2 rfl; have w3 := lv_neT (a := 3) q3 rfl; have w4 := lv_neT (a := 4) q4 rfl; have w5 := lv_neT (a := 5) q5 rfl; have w6 := lv_neT (a := 6) q6 rfl; have w7 := lv_neT (a := 7) q7 rfl; have w8 := lv_neT (a := 8) q8 rfl; have w9 := lv_neT (a := 9) q9 rfl; have w10 := lv_neT (a := 10) q10 rfl; have w11 := lv_neT (a := 11) q11 rfl; have w12 := lv_neT (a := 12) q12 rfl; have w13 := lv_neT (a := 13) q13 rfl; have w14 := lv_neT (a := 14) q14 rfl; have w15 := lv_neT (a := 15) q15 rfl; have w16 := lv_neT (a := 16) q16 rfl; have w17 := lv_neT (a := 17) q17 rfl; have w18 := lv_neT (a := 18) q18 rfl; omega) (by decide) ?_
      exact hk X M hR
theorem clX_eq (v : Int32) : (if (2 : Int32) < (if v < (8 : Int32) then v else (8 : Int32)) then (if v < (8 : Int32) then v else (8 : Int32)) else (2 : Int32)) = clM v := by
  unfold clM
  by_cases h1 : 2 ≤ v
  · rw [if_pos h1]
    by_cases h2 : v < 8
    · rw [if_pos h2, if_pos (Int32.le_of_lt h2)]
      by_cases h3 : (2 : Int32) < v
      · rw [if_pos h3]
      · rw [if_neg h3]; exact Int32.le_antisymm h1 (Int32.not_lt.mp h3)
    · rw [if_neg h2, if_pos (by decide)]
      by_cases h3 : v ≤ 8
      · rw [if_pos h3]; exact (Int32.le_antisymm h3 (Int32.not_lt.mp h2)).symm
      · rw [if_neg h3]
  · rw [if_neg h1]
    have h2 := Int32.not_le.mp h1
    rw [if_pos (Int32.lt_of_lt_of_le h2 (by decide)), if_neg (fun z => h1 (Int32.le_of_lt z))]
theorem clM_nI (v : Int32) : ∃ n, 2 ≤ n ∧ n ≤ 8 ∧ clM v = nI n := by
  unfold clM
  by_cases h1 : 2 ≤ v
  · rw [if_pos h1]
    by_cases h2 : v ≤ 8
    · rw [if_pos h2]
      rcases pk_ix v (n := 9) (by decide) with z | z | ⟨j, j1, j2⟩
      · exact absurd (Int32.lt_of_lt_of_le z (by decide : (0 : Int32) ≤ 2)) (Int32.not_lt.mpr h1)
      · exact absurd (Int32.lt_of_lt_of_le (lt_le_tr (a := 8) (b := 9) (by decide) (by decide) z) h2) (Int32.lt_irrefl)
      · refine ⟨j, ?_, by omega, j2⟩
        rw [j2] at h1
        exact (nI_leI (a := 2) (by decide) (by omega)).mp h1
    · rw [if_neg h2]; exact ⟨8, by decide, by decide, rfl⟩
  · rw [if_neg h1]; exact ⟨2, by decide, by decide, rfl⟩
theorem Rl_start {x : Int32} {n : Nat} (h2 : 2 ≤ n) (h8 : n ≤ 8) (hx : x = nI n) : Rl (S0X x) (S0M x) := by
  subst hx
  have l0 : ∀ k, ld (fun _ => none) 0 k = 0 := fun k => rfl
  have e0 : ∀ p k, en (fun _ => 0) (fun _ => 0) (fun _ => none) 0 p k = 0 := fun p k => rfl
  refine ⟨n, 0, fun _ => 0, fun _ => 0, fun _ => none, 0, 2, 20, 5, ⟨h2, h8, by decide, fun l hl => by omega, fun l hl => by omega⟩, ⟨⟨rfl, rfl, ?_⟩, fun l hl => by omega, fun l hl => by omega, fun l hl => by omega, fun k _ => rfl, ?_⟩, ⟨⟨rfl, rfl, ?_⟩, fun l hl => by omega, fun l hl => by omega, fun l hl => by omega, fun k _ => rfl, fun p _ k _ => rfl⟩, ⟨⟨by decide, by decide, by decide, by decide⟩, ⟨rfl, rfl⟩, rfl, ⟨rfl, rfl⟩, ⟨rfl, rfl⟩, ⟨rfl, rfl⟩⟩, ⟨fun _ _ => rfl, fun _ _ => rfl⟩⟩
  · rw [sm_0 (fun k _ => l0 k)]; rfl
  · refine ⟨fun p _ => ?_, fun p _ => bts0 (e0 p), fun p _ k _ => rfl, ?_⟩
    · rw [sm_0 (fun k _ => e0 p k)]; rfl
    · have z : ∀ p, cpy (en (fun _ => 0) (fun _ => 0) (fun _ => none) 0) p = 0 := fun p => sm_0 (f := fun k => if 0 < en (fun _ => 0) (fun _ => 0) (fun _ => none) 0 p k then 1 else 0) (fun k _ => by rw [e0 p k]; rfl)
      rw [sm_0 (fun p _ => z p)]; rfl
  · rw [sm_0 (fun k _ => l0 k)]; rfl
set_option maxHeartbeats 4000000 in
set_option maxRecDepth 100000 in
/-- THE LAW, from its entry -/
theorem whole_start {p : Program} {e : Env} {s : State} {m : MethodId} {below : List Frame} {meth : Method} {c : Code} (l : Launch) {b L : Nat} {xs : Nat → Int32} (hL : L ≤ 1537) (C0 : lw_At p s m meth c b L xs) : W p l e room_1 s m #[Value.ref b] below meth c s.heap [] 0 0 (lw_Z below #[Value.ref b] s) (entryFrame m ([Value.ref b] : List Value).toArray 4) := by
  obtain ⟨hx, hb, hr, hml, hown, hts, hX, hbl, hlocks, hgv⟩ := id C0
  have htg : ∀ w ∈ tbG, w.before #[Value.ref b] s = true := fun w hw => hts w (tb_lw hw)
  obtain ⟨k0, i0, hN0⟩ := u_known (C := RX0) (T := TX0) (N := 7) (n := 7) htg inX0 (htg _ wd_1_144)
  obtain ⟨k1, i1, hN1⟩ := u_known (C := RX1) (T := TX1) (N := 4) (n := 4) htg inX1 (htg _ wd_1_98)
  obtain ⟨k2, i2, hN2⟩ := u_known (C := RX2) (T := TX2) (N := 2) (n := 2) htg inX2 (htg _ wd_1_193)
  obtain ⟨k3, i3, hN3⟩ := u_known (C := RX3) (T := TX3) (N := 5) (n := 5) htg inX3 (htg _ wd_1_120)
  obtain ⟨k4, i4, hN4⟩ := u_known (C := RX4) (T := TX4) (N := 11) (n := 11) htg inX4 (htg _ wd_1_21)
  obtain ⟨k5, i5, hN5⟩ := u_known (C := RX5) (T := TX5) (N := 4) (n := 4) htg inX5 (htg _ wd_1_172)
  obtain ⟨k6, i6, hN6⟩ := u_known (C := RX6) (T := TX6) (N := 9) (n := 9) htg inX6 (htg _ wd_1_13)
  obtain ⟨k7, i7, hN7⟩ := u_known (C := RX7) (T := TX7) (N := 19) (n := 19) htg inX7 (htg _ wd_2_239)
  obtain ⟨dC, dI, hKc⟩ : ∃ (dC : Nat → ClassId) (dI : Nat → Nat → Nat), ∀ (k : Nat) (q : vw_C), vwCl[k]? = some q → u_Kn s q.1 q.2.1 q.2.2 (dC k) (dI k) := by
    refine ⟨fun k => [k0, k1, k2, k3, k4, k5, k6, k7].getD k k0, fun k => [i0, i1, i2, i3, i4, i5, i6, i7].getD k i0, ?_⟩
    intro k q hq
    match k, hq with
    | 0, hq => cases hq; exact hN0
    | 1, hq => cases hq; exact hN1
    | 2, hq => cases hq; exact hN2
    | 3, hq => cases hq; exact hN3
    | 4, hq => cases hq; exact hN4
    | 5, hq => cases hq; exact hN5
    | 6, hq => cases hq; exact hN6
    | 7, hq => cases hq; exact hN7
    | k + 8, hq => simp [vwCl] at hq
  have hK : va_K (dC, dI) vwCl [] s := ⟨hKc, fun k q h => by simp at h⟩
  have hP : va_P (dC, dI) vwCl [] s.heap := fun k q h => by simp at h
  have hD : va_D (fun q : Nat => s.heap.size ≤ q) [] := ⟨fun i j p q h => by simp at h, fun k q h => by simp at h⟩
  have hl := lv_entry ([.ref b]) (n := 4) (Nat.le_of_ble_eq_true rfl)
  rw [lg_entry_eq]
  have C : CG p s m #[Value.ref b] meth c (fun q : Nat => s.heap.size ≤ q) cL_law 4 RL (some .boolean) True := ⟨hx, hb, hr, hml, hown, htg, hlocks, fun _ h => h, trivial⟩
  suffices hgo : RG (dC, dI) p l e room_1 s m #[Value.ref b] below meth c (fun q : Nat => s.heap.size ≤ q) 4 (lw_Z below #[Value.ref b] s) 0 0 0 [] [(0, .ref b)] [] [] from hgo s.heap [] _ hP hD hK va_S.rf hl
  generalize (dC, dI) = D
  clear hP hD hl hK hKc
  have hcell := kL_cell l b L xs hL
  generalize hr0 : (if 0 < L then xs 0 else 0) = r0 at hcell
  refine G_new (ci := 6) (fs := [.null, .null, .null, .null, .null, .null, .null, .int 0, .int 0]) (N := 9) C inX6 tyX6 tyX6_ok wd_1_12 wd_1_13 wd_1_1 rfl (fun j hj => by rcases (show j = 0 ∨ j = 1 ∨ j = 2 ∨ j = 3 ∨ j = 4 ∨ j = 5 ∨ j = 6 ∨ j = 7 ∨ j = 8 by omega) with rfl | rfl | rfl | rfl | rfl | rfl | rfl | rfl | rfl <;> rfl) (Nat.le_of_ble_eq_true rfl) (Nat.le_of_ble_eq_true rfl) dL_law_0 (fun qa => ?_)
  refine G_eq (ws' := [(qa, .inr (6, [.null, .null, .null, .null, .null, .null, .null, .int 0, .int 0]))]) (tys' := []) (cells' := 1) (slots' := 9) rfl rfl rfl rfl ?_
  refine G_dup C dL_law_3 rfl ?_
  refine G_aload_n C dL_law_4 rfl 0 rfl ?_
  refine G_iconst (v := 0) C dL_law_5 (by decide) ?_
  refine G_cell C hcell hX hbl (Nat.not_le.mpr hbl) ⟨by decide, by decide⟩ wd_2_235 kwL_cell (Nat.le_of_ble_eq_true rfl) dL_law_6 ⟨by decide, by decide⟩ ?_
  refine G_call (n := 1) (wr := []) (As := [.int r0]) (rest := [.ref qa]) (d := 2) (mc := 20) (ms := 1780) C (ccX6_init l D qa r0) [0] [] rfl rfl rfl rfl rfl (by decide) wd_1_14 wd_1_15 wd_1_1 wd_1_16 rfl (by decide +kernel) ⟨by decide, by decide⟩ rfl rfl (Nat.le_of_ble_eq_true rfl) dL_law_9 ⟨by decide, by decide⟩ (fun w1 t1 hB => ?_)
  obtain ⟨aX, cA, rfl, rfl, hqa⟩ := hB
  subst hqa
  refine G_eq (ws' := wX aX cA (S0X (if (2 : Int32) < (if r0 < (8 : Int32) then r0 else (8 : Int32)) then (if r0 < (8 : Int32) then r0 else (8 : Int32)) else (2 : Int32)))) (tys' := [(cA, .int)]) (cells' := 21) (slots' := 1789) rfl rfl rfl rfl ?_
  refine G_astore_n (lv' := [(1, .ref (aX 0)), (0, .ref b)]) C dL_law_12 rfl (by decide) rfl ?_
  refine G_new (ci := 7) (fs := [.int 0, .int 0, .null, .null, .null, .null, .null, .int 0, .int 0, .int 0, .int 0, .int 0, .int 0, .null, .null, .null, .null, .null, .null]) (N := 19) C inX7 tyX7 tyX7_ok wd_2_238 wd_2_239 wd_1_9 rfl (fun j hj => by rcases (show j = 0 ∨ j = 1 ∨ j = 2 ∨ j = 3 ∨ j = 4 ∨ j = 5 ∨ j = 6 ∨ j = 7 ∨ j = 8 ∨ j = 9 ∨ j = 10 ∨ j = 11 ∨ j = 12 ∨ j = 13 ∨ j = 14 ∨ j = 15 ∨ j = 16 ∨ j = 17 ∨ j = 18 by omega) with rfl | rfl | rfl | rfl | rfl | rfl | rfl | rfl | rfl | rfl | rfl | rfl | rfl | rfl | rfl | rfl | rfl | rfl | rfl <;> rfl) (Nat.le_of_ble_eq_true rfl) (Nat.le_of_ble_eq_true rfl) dL_law_13 (fun qb => ?_)
  refine G_eq (ws' := wX aX cA (S0X (if (2 : Int32) < (if r0 < (8 : Int32) then r0 else (8 : Int32)) then (if r0 < (8 : Int32) then r0 else (8 : Int32)) else (2 : Int32))) ++ [(qb, .inr (7, [.int 0, .int 0, .null, .null, .null, .null, .null, .int 0, .int 0, .int 0, .int 0, .int 0, .int 0, .null, .null, .null, .null, .null, .null]))]) (tys' := [(cA, .int)]) (cells' := 22) (slots' := 1808) rfl rfl rfl rfl ?_
  refine G_dup C dL_law_16 rfl ?_
  refine G_aload_n C dL_law_17 rfl 1 rfl ?_
  refine G_iconst (v := 0) C dL_law_18 (by decide) ?_
  refine G_cell C hcell hX hbl (Nat.not_le.mpr hbl) ⟨by decide, by decide⟩ wd_2_235 kwL_cell (Nat.le_of_ble_eq_true rfl) dL_law_19 ⟨by decide, by decide⟩ ?_
  refine G_call (n := 1) (wr := wX aX cA (S0X (if (2 : Int32) < (if r0 < (8 : Int32) then r0 else (8 : Int32)) then (if r0 < (8 : Int32) then r0 else (8 : Int32)) else (2 : Int32)))) (As := [.int r0]) (rest := [.ref qb]) (d := 1) (mc := 11) (ms := 1659) C (ccX7_init l D qb r0) [21] [0, 1, 2, 3, 4, 5, 6, 7, 8, 9, 10, 11, 12, 13, 14, 15, 16, 17, 18, 19, 20] rfl rfl rfl rfl rfl (by decide) wd_3_0 wd_3_1 wd_1_9 wd_3_2 rfl (by decide +kernel) ⟨by decide, by decide⟩ rfl rfl (Nat.le_of_ble_eq_true rfl) dL_law_22 ⟨by decide, by decide⟩ (fun w1 t1 hB => ?_)
  obtain ⟨aM, c1, c2, x, rfl, rfl, hqb, hx0⟩ := hB
  subst hqb
  refine G_eq (ws' := wX aX cA (S0X (if (2 : Int32) < (if r0 < (8 : Int32) then r0 else (8 : Int32)) then (if r0 < (8 : Int32) then r0 else (8 : Int32)) else (2 : Int32))) ++ wM aM c1 c2 (S0M x)) (tys' := [(cA, .int), (c1, .int), (c2, .boolean)]) (cells' := 33) (slots' := 3467) rfl rfl rfl rfl ?_
  refine G_astore_n (lv' := [(2, .ref (aM 0)), (1, .ref (aX 0)), (0, .ref b)]) C dL_law_25 rfl (by decide) rfl ?_
  refine G_iconst (v := nI 1) C dL_law_26 (by decide) ?_
  refine G_istore_n (lv' := [(3, .int (nI 1)), (2, .ref (aM 0)), (1, .ref (aX 0)), (0, .ref b)]) C dL_law_27 rfl (by decide) rfl ?_
  refine G_lv [3, 2, 1, 0] rfl ?_
  refine G_widen (k1 := 600000) (k2 := 7302250) (by decide) (by decide) ?_
  obtain ⟨n, n2, n8, hn⟩ := clM_nI r0
  have hR : Rl (S0X (if (2 : Int32) < (if r0 < (8 : Int32) then r0 else (8 : Int32)) then (if r0 < (8 : Int32) then r0 else (8 : Int32)) else (2 : Int32))) (S0M x) := by
    rw [hx0, clX_eq]
    exact Rl_start n2 n8 hn
  exact law_loop C hX hbl hL (L + 4) 1 _ _ hR (by omega) (by omega)
