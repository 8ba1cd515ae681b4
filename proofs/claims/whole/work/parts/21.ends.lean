/-! what the net keeps of ends: degrees, bits, lines at a host, copies; a function e of point and host -/
def bmp (e : Nat → Nat → Nat) (p k : Nat) : Nat → Nat → Nat := fun q j => if q = p ∧ j = k then e p k + 1 else e q j
def dmp (e : Nat → Nat → Nat) (p k : Nat) : Nat → Nat → Nat := fun q j => if q = p ∧ j = k then e p k - 1 else e q j
def cpy (e : Nat → Nat → Nat) (p : Nat) : Nat := sm (fun k => if 0 < e p k then 1 else 0) 8
def RE (e : Nat → Nat → Nat) (X : St) : Prop := (∀ p, p < 40 → X.2 5 p = nI (sm (e p) 8)) ∧ (∀ p, p < 40 → bts (X.2 6 p) (e p)) ∧ (∀ p, p < 40 → ∀ k, k < 8 → X.2 7 (k * 40 + p) = nI (e p k)) ∧ X.1 5 = nI (sm (cpy e) 40)
theorem cpy_congr {e f : Nat → Nat → Nat} {p : Nat} (h : ∀ k, k < 8 → f p k = e p k) : cpy f p = cpy e p := sm_congr (fun k hk => by rw [h k hk])
theorem RE_congr {e f : Nat → Nat → Nat} {X : St} (h : ∀ p, p < 40 → ∀ k, k < 8 → f p k = e p k) (r : RE e X) : RE f X := by
  obtain ⟨r1, r2, r3, r4⟩ := r
  refine ⟨fun p hp => ?_, fun p hp => ?_, fun p hp k hk => ?_, ?_⟩
  · rw [r1 p hp, sm_congr (f := f p) (g := e p) (fun k hk => h p hp k hk)]
  · obtain ⟨b, b1, b2, b3⟩ := r2 p hp
    exact ⟨b, b1, b2, fun k hk => by rw [b3 k hk, h p hp k hk]⟩
  · rw [r3 p hp k hk, h p hp k hk]
  · rw [r4, sm_congr (f := cpy f) (g := cpy e) (fun p hp => cpy_congr (fun k hk => h p hp k hk))]
theorem RE_fr {e : Nat → Nat → Nat} {X Y : St} (h : RE e X) (h1 : Y.1 5 = X.1 5) (h5 : Y.2 5 = X.2 5) (h6 : Y.2 6 = X.2 6) (h7 : Y.2 7 = X.2 7) : RE e Y := by
  unfold RE
  rw [h1, h5, h6, h7]
  exact h
theorem bmp_s {e : Nat → Nat → Nat} {p k : Nat} : bmp e p k p k = e p k + 1 := if_pos ⟨rfl, rfl⟩
theorem bmp_n {e : Nat → Nat → Nat} {p k q j : Nat} (h : ¬ (q = p ∧ j = k)) : bmp e p k q j = e q j := if_neg h
theorem dmp_s {e : Nat → Nat → Nat} {p k : Nat} : dmp e p k p k = e p k - 1 := if_pos ⟨rfl, rfl⟩
theorem dmp_n {e : Nat → Nat → Nat} {p k q j : Nat} (h : ¬ (q = p ∧ j = k)) : dmp e p k q j = e q j := if_neg h
theorem sm_bmp {e : Nat → Nat → Nat} {p k : Nat} (hk : k < 8) : sm (bmp e p k p) 8 = sm (e p) 8 + 1 := by
  have := sm_change (f := e p) (g := bmp e p k p) (k := k) (n := 8) hk (fun j _ hj => bmp_n (by omega))
  rw [bmp_s] at this; omega
theorem sm_dmp {e : Nat → Nat → Nat} {p k : Nat} (hk : k < 8) (h : 0 < e p k) : sm (dmp e p k p) 8 = sm (e p) 8 - 1 ∧ 0 < sm (e p) 8 := by
  have := sm_change (f := e p) (g := dmp e p k p) (k := k) (n := 8) hk (fun j _ hj => dmp_n (by omega))
  have h2 := sm_le (f := e p) (k := k) (n := 8) hk
  rw [dmp_s] at this; omega
theorem cpy_bmp {e : Nat → Nat → Nat} {p k : Nat} (hk : k < 8) : cpy (bmp e p k) p = cpy e p + (if e p k = 0 then 1 else 0) := by
  have := sm_change (f := fun j => if 0 < e p j then 1 else 0) (g := fun j => if 0 < bmp e p k p j then 1 else 0) (k := k) (n := 8) hk (fun j _ hj => by rw [bmp_n (by omega)])
  simp only [bmp_s] at this
  unfold cpy
  split <;> split at this <;> simp at this <;> omega
theorem cpy_dmp {e : Nat → Nat → Nat} {p k : Nat} (hk : k < 8) (h : 0 < e p k) : cpy (dmp e p k) p + (if e p k = 1 then 1 else 0) = cpy e p := by
  have := sm_change (f := fun j => if 0 < e p j then 1 else 0) (g := fun j => if 0 < dmp e p k p j then 1 else 0) (k := k) (n := 8) hk (fun j _ hj => by rw [dmp_n (by omega)])
  simp only [dmp_s, h, if_true] at this
  unfold cpy
  by_cases h1 : e p k = 1
  · rw [if_pos h1]; rw [h1] at this; simp at this; omega
  · rw [if_neg h1]; rw [if_pos (show 0 < e p k - 1 by omega)] at this; omega
theorem all_bmp {e : Nat → Nat → Nat} {p k : Nat} (hp : p < 40) (hk : k < 8) : sm (cpy (bmp e p k)) 40 = sm (cpy e) 40 + (if e p k = 0 then 1 else 0) := by
  have := sm_change (f := cpy e) (g := cpy (bmp e p k)) (k := p) (n := 40) hp (fun j _ hj => cpy_congr (fun i _ => bmp_n (by omega)))
  rw [cpy_bmp hk] at this; omega
theorem all_dmp {e : Nat → Nat → Nat} {p k : Nat} (hp : p < 40) (hk : k < 8) (h : 0 < e p k) : sm (cpy (dmp e p k)) 40 + (if e p k = 1 then 1 else 0) = sm (cpy e) 40 := by
  have := sm_change (f := cpy e) (g := cpy (dmp e p k)) (k := p) (n := 40) hp (fun j _ hj => cpy_congr (fun i _ => dmp_n (by omega)))
  have h2 := cpy_dmp (p := p) hk h
  omega
/-- the bits of a point, with one more, with one less -/
theorem bts_set {x : Int32} {e : Nat → Nat → Nat} {p k : Nat} (hk : k < 8) (h : bts x (e p)) : bts (x ||| ((1 : Int32) <<< ((nI k) &&& 31))) (bmp e p k p) := by
  obtain ⟨b, b1, rfl, b3⟩ := h
  refine ⟨b ||| 2 ^ k, bt_orlt b1 hk, bt_set b b1 k hk, fun j hj => ?_⟩
  rw [Nat.testBit_or, bt_p k hk j hj, b3 j hj]
  by_cases e1 : j = k
  · subst e1; rw [bmp_s]; simp
  · rw [bmp_n (by omega)]; simp [e1]
theorem bts_keep {x : Int32} {e : Nat → Nat → Nat} {p k : Nat} (h : bts x (e p)) (h0 : 0 < e p k) : bts x (bmp e p k p) := by
  obtain ⟨b, b1, rfl, b3⟩ := h
  refine ⟨b, b1, rfl, fun j hj => ?_⟩
  rw [b3 j hj]
  by_cases e1 : j = k
  · subst e1; rw [bmp_s]; simp [h0]
  · rw [bmp_n (by omega)]
theorem bts_clr {x : Int32} {e : Nat → Nat → Nat} {p k : Nat} (hk : k < 8) (h1 : e p k = 1) (h : bts x (e p)) : bts (x &&& (((1 : Int32) <<< ((nI k) &&& 31)) ^^^ (-1 : Int32))) (dmp e p k p) := by
  obtain ⟨b, b1, rfl, b3⟩ := h
  refine ⟨b &&& (255 - 2 ^ k), Nat.lt_of_le_of_lt Nat.and_le_left b1, bt_clr b b1 k hk, fun j hj => ?_⟩
  rw [Nat.testBit_and, bt_m k hk j hj, b3 j hj]
  by_cases e1 : j = k
  · subst e1; rw [dmp_s]; simp [h1]
  · rw [dmp_n (by omega)]; simp [e1]
theorem bts_keepd {x : Int32} {e : Nat → Nat → Nat} {p k : Nat} (h : bts x (e p)) (h0 : 1 < e p k) : bts x (dmp e p k p) := by
  obtain ⟨b, b1, rfl, b3⟩ := h
  refine ⟨b, b1, rfl, fun j hj => ?_⟩
  rw [b3 j hj]
  by_cases e1 : j = k
  · subst e1; rw [dmp_s]; simp; omega
  · rw [dmp_n (by omega)]
theorem RE_bmp {e : Nat → Nat → Nat} {X Y : St} {p k : Nat} (h : RE e X) (hp : p < 40) (hk : k < 8) (h5 : Y.2 5 = upd (X.2 5) p (X.2 5 p + 1)) (h7 : Y.2 7 = upd (X.2 7) (k * 40 + p) (X.2 7 (k * 40 + p) + 1)) (h6 : Y.2 6 = if e p k = 0 then upd (X.2 6) p ((X.2 6 p) ||| ((1 : Int32) <<< ((nI k) &&& 31))) else X.2 6) (ha : Y.1 5 = if e p k = 0 then X.1 5 + 1 else X.1 5) : RE (bmp e p k) Y := by
  obtain ⟨r1, r2, r3, r4⟩ := h
  refine ⟨fun q hq => ?_, fun q hq => ?_, fun q hq j hj => ?_, ?_⟩
  · rw [h5]
    by_cases e1 : q = p
    · subst e1; rw [pk_us, r1 q hq, nI_1, sm_bmp hk]
    · rw [pk_un e1, r1 q hq, sm_congr (f := bmp e p k q) (g := e q) (fun j _ => bmp_n (by omega))]
  · rw [h6]
    by_cases e1 : q = p
    · subst e1
      split
      · rw [pk_us]; exact bts_set hk (r2 q hq)
      · exact bts_keep (r2 q hq) (by omega)
    · have hb : bts (X.2 6 q) (bmp e p k q) := by
        obtain ⟨b, b1, b2, b3⟩ := r2 q hq
        exact ⟨b, b1, b2, fun j hj => by rw [b3 j hj, bmp_n (by omega)]⟩
      split
      · rw [pk_un e1]; exact hb
      · exact hb
  · rw [h7]
    by_cases e1 : q = p ∧ j = k
    · obtain ⟨rfl, rfl⟩ := e1
      rw [pk_us, r3 q hq j hj, nI_1, bmp_s]
    · rw [pk_un (by omega), r3 q hq j hj, bmp_n e1]
  · rw [ha, all_bmp hp hk, r4]
    split
    · rw [nI_1]
    · rfl
theorem RE_dmp {e : Nat → Nat → Nat} {X Y : St} {p k : Nat} (h : RE e X) (hp : p < 40) (hk : k < 8) (h0 : 0 < e p k) (h5 : Y.2 5 = upd (X.2 5) p (X.2 5 p - 1)) (h7 : Y.2 7 = upd (X.2 7) (k * 40 + p) (X.2 7 (k * 40 + p) - 1)) (h6 : Y.2 6 = if e p k = 1 then upd (X.2 6) p ((X.2 6 p) &&& (((1 : Int32) <<< ((nI k) &&& 31)) ^^^ (-1 : Int32))) else X.2 6) (ha : Y.1 5 = if e p k = 1 then X.1 5 - 1 else X.1 5) : RE (dmp e p k) Y := by
  obtain ⟨r1, r2, r3, r4⟩ := h
  refine ⟨fun q hq => ?_, fun q hq => ?_, fun q hq j hj => ?_, ?_⟩
  · rw [h5]
    by_cases e1 : q = p
    · subst e1; rw [pk_us, r1 q hq, nI_m1 (sm_dmp hk h0).2, (sm_dmp hk h0).1]
    · rw [pk_un e1, r1 q hq, sm_congr (f := dmp e p k q) (g := e q) (fun j _ => dmp_n (by omega))]
  · rw [h6]
    by_cases e1 : q = p
    · subst e1
      split
      · rw [pk_us]; exact bts_clr hk (by assumption) (r2 q hq)
      · exact bts_keepd (r2 q hq) (by omega)
    · have hb : bts (X.2 6 q) (dmp e p k q) := by
        obtain ⟨b, b1, b2, b3⟩ := r2 q hq
        exact ⟨b, b1, b2, fun j hj => by rw [b3 j hj, dmp_n (by omega)]⟩
      split
      · rw [pk_un e1]; exact hb
      · exact hb
  · rw [h7]
    by_cases e1 : q = p ∧ j = k
    · obtain ⟨rfl, rfl⟩ := e1
      rw [pk_us, r3 q hq j hj, nI_m1 h0, dmp_s]
    · rw [pk_un (by omega), r3 q hq j hj, dmp_n e1]
  · rw [ha, r4]
    have := all_dmp hp hk h0
    by_cases h1 : e p k = 1
    · rw [if_pos h1] at this ⊢; rw [nI_m1 (by omega)]; congr 1; omega
    · rw [if_neg h1] at this ⊢; congr 1; omega
theorem putEnd_ok {e : Nat → Nat → Nat} {X : St} {p k : Nat} (h : RE e X) (hp : p < 40) (hk : k < 8) (hb : e p k < 10000) : ∃ Y, fX4_putEnd (nI p) (nI k) X = some (0, Y) ∧ RE (bmp e p k) Y ∧ fr [5] [5, 6, 7] X Y := by
  have i1 : k * 40 + p < 320 := by omega
  have h7 := h.2.2.1 p hp k hk
  by_cases he : e p k = 0
  · refine ⟨_, ?_, RE_bmp (Y := sF (sA (sA (sA X 5 p (X.2 5 p + 1)) 7 (k * 40 + p) (X.2 7 (k * 40 + p) + 1)) 6 p ((X.2 6 p) ||| ((1 : Int32) <<< ((nI k) &&& 31)))) 5 (X.1 5 + 1)) h hp hk rfl rfl (by rw [if_pos he]; rfl) (by rw [if_pos he]; rfl), fr_F (by decide) (fr_A (by decide) (fr_A (by decide) (fr_A (by decide) fr_rf)))⟩
    unfold fX4_putEnd
    simp only [LtS, ix40, gA_in hp (by decide), gA_in i1 (by decide), ix_nI (show p < 2 ^ 31 by omega), ix_nI (show k * 40 + p < 2 ^ 31 by omega)]
    rw [if_pos (by rw [sAs, pk_us, sAn (by decide), h7, he]; rfl)]
    rfl
  · refine ⟨_, ?_, RE_bmp (Y := (sA (sA X 5 p (X.2 5 p + 1)) 7 (k * 40 + p) (X.2 7 (k * 40 + p) + 1))) h hp hk rfl rfl (by rw [if_neg he]; rfl) (by rw [if_neg he]; rfl), (fr_A (by decide) (fr_A (by decide) fr_rf))⟩
    unfold fX4_putEnd
    simp only [LtS, ix40, gA_in hp (by decide), gA_in i1 (by decide), ix_nI (show p < 2 ^ 31 by omega), ix_nI (show k * 40 + p < 2 ^ 31 by omega)]
    rw [if_neg (by rw [sAs, pk_us, sAn (by decide), h7, nI_1]; intro q; exact he (by have := (nI_eq (a := e p k + 1) (b := 1) (by omega) (by omega)).mp q; omega))]
    rfl
theorem takeEnd_ok {e : Nat → Nat → Nat} {X : St} {p k : Nat} (h : RE e X) (hp : p < 40) (hk : k < 8) (hb : e p k < 10000) (h0 : 0 < e p k) : ∃ Y, fX4_takeEnd (nI p) (nI k) X = some (0, Y) ∧ RE (dmp e p k) Y ∧ fr [5] [5, 6, 7] X Y := by
  have i1 : k * 40 + p < 320 := by omega
  have h7 := h.2.2.1 p hp k hk
  by_cases he : e p k = 1
  · refine ⟨_, ?_, RE_dmp (Y := sF (sA (sA (sA X 5 p (X.2 5 p - 1)) 7 (k * 40 + p) (X.2 7 (k * 40 + p) - 1)) 6 p ((X.2 6 p) &&& (((1 : Int32) <<< ((nI k) &&& 31)) ^^^ (-1 : Int32)))) 5 (X.1 5 - 1)) h hp hk h0 rfl rfl (by rw [if_pos he]; rfl) (by rw [if_pos he]; rfl), fr_F (by decide) (fr_A (by decide) (fr_A (by decide) (fr_A (by decide) fr_rf)))⟩
    unfold fX4_takeEnd
    simp only [LtS, ix40, gA_in hp (by decide), gA_in i1 (by decide), ix_nI (show p < 2 ^ 31 by omega), ix_nI (show k * 40 + p < 2 ^ 31 by omega)]
    rw [if_pos (by rw [sAs, pk_us, sAn (by decide), h7, he]; rfl)]
    rfl
  · refine ⟨_, ?_, RE_dmp (Y := (sA (sA X 5 p (X.2 5 p - 1)) 7 (k * 40 + p) (X.2 7 (k * 40 + p) - 1))) h hp hk h0 rfl rfl (by rw [if_neg he]; rfl) (by rw [if_neg he]; rfl), (fr_A (by decide) (fr_A (by decide) fr_rf))⟩
    unfold fX4_takeEnd
    simp only [LtS, ix40, gA_in hp (by decide), gA_in i1 (by decide), ix_nI (show p < 2 ^ 31 by omega), ix_nI (show k * 40 + p < 2 ^ 31 by omega)]
    rw [if_neg (by rw [sAs, pk_us, sAn (by decide), h7, nI_m1 h0]; intro q; exact he (by have := (nI_eq (a := e p k - 1) (b := 0) (by omega) (by omega)).mp q; omega))]
    rfl
