/-! the net: which line is on which host, and what both sides keep of it -/
def uph (h : Nat → Option Nat) (l : Nat) (x : Option Nat) : Nat → Option Nat := fun j => if j = l then x else h j
def upN (f : Nat → Nat) (k x : Nat) : Nat → Nat := fun j => if j = k then x else f j
theorem uph_s {h : Nat → Option Nat} {l : Nat} {x : Option Nat} : uph h l x l = x := if_pos rfl
theorem uph_n {h : Nat → Option Nat} {l j : Nat} {x : Option Nat} (q : j ≠ l) : uph h l x j = h j := if_neg q
theorem upN_s {f : Nat → Nat} {k x : Nat} : upN f k x k = x := if_pos rfl
theorem upN_n {f : Nat → Nat} {k j x : Nat} (q : j ≠ k) : upN f k x j = f j := if_neg q
def ld (h : Nat → Option Nat) (m k : Nat) : Nat := cnt (fun l => h l == some k) m
def en (u v : Nat → Nat) (h : Nat → Option Nat) (m p k : Nat) : Nat := cnt (fun l => h l == some k && u l == p) m + cnt (fun l => h l == some k && v l == p) m
def IN (n m : Nat) (u v : Nat → Nat) (h : Nat → Option Nat) : Prop := 2 ≤ n ∧ n ≤ 8 ∧ m ≤ 300 ∧ (∀ l, l < m → u l < 40 ∧ v l < 40 ∧ u l ≠ v l) ∧ ∀ l, l < m → ∀ k, h l = some k → k < n
def RC (n m : Nat) (u v : Nat → Nat) (h : Nat → Option Nat) (X : St) : Prop := (X.1 2 = nI n ∧ X.1 3 = nI m ∧ X.1 4 = nI (sm (ld h m) 8)) ∧ (∀ l, l < m → X.2 1 l = nI (u l)) ∧ (∀ l, l < m → X.2 2 l = nI (v l)) ∧ (∀ l, l < m → X.2 3 l = eo (h l)) ∧ (∀ k, k < 8 → X.2 4 k = nI (ld h m k)) ∧ RE (en u v h m) X
theorem ld_put {h : Nat → Option Nat} {m l k : Nat} (hl : l < m) (h0 : h l = none) (j : Nat) : ld (uph h l (some k)) m j = ld h m j + (if j = k then 1 else 0) := by
  have := cnt_change (P := fun i => h i == some j) (Q := fun i => uph h l (some k) i == some j) (l := l) (m := m) hl (fun i _ hi => by simp only [uph_n hi])
  simp only [uph_s, h0] at this
  unfold ld
  by_cases e : j = k
  · subst e; simp at this ⊢; omega
  · have e2 : (some k == some j) = false := by simp [Ne.symm e]
    simp [e2, e] at this ⊢; omega
theorem ld_take {h : Nat → Option Nat} {m l k : Nat} (hl : l < m) (h0 : h l = some k) (j : Nat) : ld (uph h l none) m j + (if j = k then 1 else 0) = ld h m j := by
  have := cnt_change (P := fun i => h i == some j) (Q := fun i => uph h l none i == some j) (l := l) (m := m) hl (fun i _ hi => by simp only [uph_n hi])
  simp only [uph_s, h0] at this
  unfold ld
  by_cases e : j = k
  · subst e; simp at this ⊢; omega
  · have e2 : (some k == some j) = false := by simp [Ne.symm e]
    simp [e2, e] at this ⊢; omega
theorem c1_put {h : Nat → Option Nat} {w : Nat → Nat} {m l k p : Nat} (hl : l < m) (h0 : h l = none) (j : Nat) : cnt (fun i => uph h l (some k) i == some j && w i == p) m = cnt (fun i => h i == some j && w i == p) m + (if j = k then (if w l = p then 1 else 0) else 0) := by
  have := cnt_change (P := fun i => h i == some j && w i == p) (Q := fun i => uph h l (some k) i == some j && w i == p) (l := l) (m := m) hl (fun i _ hi => by simp only [uph_n hi])
  simp only [uph_s, h0] at this
  by_cases e : j = k
  · subst e; simp at this ⊢; omega
  · have e2 : (some k == some j) = false := by simp [Ne.symm e]
    simp [e2, e] at this ⊢; omega
theorem c1_take {h : Nat → Option Nat} {w : Nat → Nat} {m l k p : Nat} (hl : l < m) (h0 : h l = some k) (j : Nat) : cnt (fun i => uph h l none i == some j && w i == p) m + (if j = k then (if w l = p then 1 else 0) else 0) = cnt (fun i => h i == some j && w i == p) m := by
  have := cnt_change (P := fun i => h i == some j && w i == p) (Q := fun i => uph h l none i == some j && w i == p) (l := l) (m := m) hl (fun i _ hi => by simp only [uph_n hi])
  simp only [uph_s, h0] at this
  by_cases e : j = k
  · subst e; simp at this ⊢; omega
  · have e2 : (some k == some j) = false := by simp [Ne.symm e]
    simp [e2, e] at this ⊢; omega
theorem en_put {u v : Nat → Nat} {h : Nat → Option Nat} {m l k : Nat} (hl : l < m) (h0 : h l = none) (p j : Nat) : en u v (uph h l (some k)) m p j = en u v h m p j + (if j = k then (if u l = p then 1 else 0) + (if v l = p then 1 else 0) else 0) := by
  unfold en
  rw [c1_put hl h0, c1_put hl h0]
  by_cases e : j = k
  · simp only [e, if_true]; omega
  · simp only [e, if_false]; omega
theorem en_take {u v : Nat → Nat} {h : Nat → Option Nat} {m l k : Nat} (hl : l < m) (h0 : h l = some k) (p j : Nat) : en u v (uph h l none) m p j + (if j = k then (if u l = p then 1 else 0) + (if v l = p then 1 else 0) else 0) = en u v h m p j := by
  unfold en
  have a := c1_take (w := u) (p := p) hl h0 j
  have b := c1_take (w := v) (p := p) hl h0 j
  by_cases e : j = k
  · simp only [e, if_true] at a b ⊢; omega
  · simp only [e, if_false] at a b ⊢; omega
theorem ld_ub {h : Nat → Option Nat} {m k : Nat} : ld h m k ≤ m := cnt_le
theorem en_ub {u v : Nat → Nat} {h : Nat → Option Nat} {m p k : Nat} : en u v h m p k ≤ 2 * m := by
  unfold en
  have a := cnt_le (P := fun l => h l == some k && u l == p) (m := m)
  have b := cnt_le (P := fun l => h l == some k && v l == p) (m := m)
  omega
theorem liv_ub {h : Nat → Option Nat} {m : Nat} : sm (ld h m) 8 ≤ 8 * m := sm_ub (fun _ _ => ld_ub)
theorem liv_put {h : Nat → Option Nat} {m l k : Nat} (hl : l < m) (h0 : h l = none) (hk : k < 8) : sm (ld (uph h l (some k)) m) 8 = sm (ld h m) 8 + 1 := by
  have := sm_change (f := ld h m) (g := ld (uph h l (some k)) m) (k := k) (n := 8) hk (fun j _ hj => by rw [ld_put hl h0, if_neg hj]; omega)
  rw [ld_put hl h0, if_pos rfl] at this; omega
theorem liv_take {h : Nat → Option Nat} {m l k : Nat} (hl : l < m) (h0 : h l = some k) (hk : k < 8) : sm (ld (uph h l none) m) 8 + 1 = sm (ld h m) 8 := by
  have := sm_change (f := ld h m) (g := ld (uph h l none) m) (k := k) (n := 8) hk (fun j _ hj => by have := ld_take hl h0 j; rw [if_neg hj] at this; omega)
  have h2 := ld_take hl h0 k
  rw [if_pos rfl] at h2; omega
theorem ld_pos {h : Nat → Option Nat} {m l k : Nat} (hl : l < m) (h0 : h l = some k) : 0 < ld h m k := cnt_pos hl (by simp [h0])
theorem IN_put {n m : Nat} {u v : Nat → Nat} {h : Nat → Option Nat} {l k : Nat} (i : IN n m u v h) (hk : k < n) : IN n m u v (uph h l (some k)) := ⟨i.1, i.2.1, i.2.2.1, i.2.2.2.1, fun j hj q hq => by
  by_cases e : j = l
  · subst e; rw [uph_s] at hq; cases hq; exact hk
  · rw [uph_n e] at hq; exact i.2.2.2.2 j hj q hq⟩
theorem IN_take {n m : Nat} {u v : Nat → Nat} {h : Nat → Option Nat} {l : Nat} (i : IN n m u v h) : IN n m u v (uph h l none) := ⟨i.1, i.2.1, i.2.2.1, i.2.2.2.1, fun j hj q hq => by
  by_cases e : j = l
  · subst e; rw [uph_s] at hq; cases hq
  · rw [uph_n e] at hq; exact i.2.2.2.2 j hj q hq⟩
theorem RC_fr {n m : Nat} {u v : Nat → Nat} {h : Nat → Option Nat} {X Y : St} (r : RC n m u v h X) (h2 : Y.1 2 = X.1 2) (h3 : Y.1 3 = X.1 3) (h4 : Y.1 4 = X.1 4) (h5 : Y.1 5 = X.1 5) (a1 : Y.2 1 = X.2 1) (a2 : Y.2 2 = X.2 2) (a3 : Y.2 3 = X.2 3) (a4 : Y.2 4 = X.2 4) (a5 : Y.2 5 = X.2 5) (a6 : Y.2 6 = X.2 6) (a7 : Y.2 7 = X.2 7) : RC n m u v h Y := by
  unfold RC
  rw [h2, h3, h4, a1, a2, a3, a4]
  exact ⟨r.1, r.2.1, r.2.2.1, r.2.2.2.1, r.2.2.2.2.1, RE_fr r.2.2.2.2.2 h5 a5 a6 a7⟩
theorem RC_of_fr {n m : Nat} {u v : Nat → Nat} {h : Nat → Option Nat} {X Y : St} {fs as : List Nat} (r : RC n m u v h X) (f : fr fs as X Y) (hf : ∀ k ∈ fs, k < 2 ∨ 5 < k) (ha : ∀ k ∈ as, k = 0 ∨ 7 < k) : RC n m u v h Y := by
  have F : ∀ k, 2 ≤ k → k ≤ 5 → Y.1 k = X.1 k := fun k h1 h2 => f.1 k (fun q => by have := hf k q; omega)
  have G : ∀ k, 1 ≤ k → k ≤ 7 → Y.2 k = X.2 k := fun k h1 h2 => f.2 k (fun q => by have := ha k q; omega)
  exact RC_fr r (F 2 (by omega) (by omega)) (F 3 (by omega) (by omega)) (F 4 (by omega) (by omega)) (F 5 (by omega) (by omega)) (G 1 (by omega) (by omega)) (G 2 (by omega) (by omega)) (G 3 (by omega) (by omega)) (G 4 (by omega) (by omega)) (G 5 (by omega) (by omega)) (G 6 (by omega) (by omega)) (G 7 (by omega) (by omega))
theorem hasHost_in {X : St} {n k : Nat} (hX : X.1 2 = nI n) (hn : n ≤ 8) (hk : k < n) : fX4_hasHost (nI k) X = some (1, X) := by
  unfold fX4_hasHost
  rw [hX, if_neg (nI_pos (by omega)), if_neg (nI_ge hk (by omega))]
  rfl
theorem hasHost_out {X : St} {n : Nat} {x : Int32} (hX : X.1 2 = nI n) (hx : x < 0 ∨ nI n ≤ x) : fX4_hasHost x X = some (0, X) := by
  unfold fX4_hasHost
  rw [hX]
  split
  · rfl
  · rw [if_pos (hx.resolve_left (by assumption))]; rfl
theorem isLive_out {X : St} {m : Nat} {x : Int32} (hX : X.1 3 = nI m) (hx : x < 0 ∨ nI m ≤ x) : fX4_isLive x X = some (0, X) := by
  unfold fX4_isLive
  rw [hX]
  split
  · rfl
  · rw [if_pos (hx.resolve_left (by assumption))]; rfl
theorem isLive_in {n m : Nat} {u v : Nat → Nat} {h : Nat → Option Nat} {X : St} {l : Nat} (i : IN n m u v h) (r : RC n m u v h X) (hl : l < m) : fX4_isLive (nI l) X = some (if (h l).isSome = true then 1 else 0, X) := by
  have hm := i.2.2.1
  have hn := i.2.1
  unfold fX4_isLive
  rw [r.1.2.1, if_neg (nI_pos (by omega)), if_neg (nI_ge hl (by omega)), gA_in (by omega) (by decide), ix_nI (by omega), r.2.2.2.1 l hl]
  cases e : h l with
  | none => rfl
  | some k =>
    have := i.2.2.2.2 l hl k e
    show (if nI k = (-1 : Int32) then fX4_isLive_26 X else fX4_isLive_27 1 X) = _
    rw [if_neg (nI_nm1 (by omega))]; rfl
theorem putOn_ok {n m : Nat} {u v : Nat → Nat} {h : Nat → Option Nat} {X : St} {l k : Nat} (i : IN n m u v h) (r : RC n m u v h X) (hl : l < m) (h0 : h l = none) (hk : k < n) : ∃ Y, fX4_putOn (nI l) (nI k) X = some (0, Y) ∧ RC n m u v (uph h l (some k)) Y ∧ fr [4, 5] [3, 4, 5, 6, 7] X Y := by
  obtain ⟨hn2, hn, hm, hp, hh⟩ := id i
  obtain ⟨⟨r2, r3, r4⟩, ru, rv, rh, rl, re⟩ := id r
  have hk8 : k < 8 := by omega
  obtain ⟨pu, pv, puv⟩ := hp l hl
  have re0 : RE (en u v h m) (sF (sA (sA X 3 l (nI k)) 4 k (X.2 4 k + 1)) 4 (X.1 4 + 1)) := RE_fr re rfl rfl rfl rfl
  have f0 : fr [4, 5] [3, 4, 5, 6, 7] X (sF (sA (sA X 3 l (nI k)) 4 k (X.2 4 k + 1)) 4 (X.1 4 + 1)) := fr_F (by decide) (fr_A (by decide) (fr_A (by decide) fr_rf))
  have hub := fun p j => en_ub (u := u) (v := v) (h := h) (m := m) (p := p) (k := j)
  obtain ⟨Y1, e1, re1, f1⟩ := putEnd_ok re0 pu hk8 (by have := hub (u l) k; omega)
  obtain ⟨Y2, e2, re2, f2⟩ := putEnd_ok re1 pv hk8 (by have := hub (v l) k; rw [bmp_n (by omega)]; omega)
  have f1' := fr_mo (fs' := [4, 5]) (as' := [3, 4, 5, 6, 7]) f1 (by decide) (by decide)
  have f2' := fr_mo (fs' := [4, 5]) (as' := [3, 4, 5, 6, 7]) f2 (by decide) (by decide)
  have f := fr_tr f0 (fr_tr f1' f2')
  refine ⟨Y2, ?_, ⟨⟨?_, ?_, ?_⟩, ?_, ?_, ?_, ?_, ?_⟩, f⟩
  · unfold fX4_putOn
    rw [Bd_eq (hasHost_in r2 hn hk), if_neg (by decide)]
    simp only [LtS, gA_in (show l < 300 by omega) (by decide), gA_in hk8 (by decide), ix_nI (show l < 2 ^ 31 by omega), ix_nI (show k < 2 ^ 31 by omega)]
    have a1 : (sF (sA (sA X 3 l (nI k)) 4 k ((sA X 3 l (nI k)).2 4 k + 1)) 4 ((sA (sA X 3 l (nI k)) 4 k ((sA X 3 l (nI k)).2 4 k + 1)).1 4 + 1)) = (sF (sA (sA X 3 l (nI k)) 4 k (X.2 4 k + 1)) 4 (X.1 4 + 1)) := rfl
    rw [a1]
    have a2 : (sF (sA (sA X 3 l (nI k)) 4 k (X.2 4 k + 1)) 4 (X.1 4 + 1)).2 1 l = nI (u l) := ru l hl
    rw [a2, Bd_eq e1]
    have a3 : Y1.2 2 l = nI (v l) := by
      rw [f1.2 2 (by decide)]
      exact rv l hl
    rw [a3, Bd_eq e2]
  · rw [f.1 2 (by decide)]; exact r2
  · rw [f.1 3 (by decide)]; exact r3
  · rw [f2.1 4 (by decide), f1.1 4 (by decide), sFs, r4, nI_1, liv_put hl h0 hk8]
  · intro j hj; rw [f.2 1 (by decide)]; exact ru j hj
  · intro j hj; rw [f.2 2 (by decide)]; exact rv j hj
  · intro j hj
    rw [f2.2 3 (by decide), f1.2 3 (by decide)]
    show upd (X.2 3) l (nI k) j = _
    by_cases e : j = l
    · subst e; rw [pk_us, uph_s]; rfl
    · rw [pk_un e, uph_n e]; exact rh j hj
  · intro j hj
    rw [f2.2 4 (by decide), f1.2 4 (by decide)]
    show upd (X.2 4) k (X.2 4 k + 1) j = _
    rw [ld_put hl h0]
    by_cases e : j = k
    · subst e; rw [pk_us, rl j hj, nI_1, if_pos rfl]
    · rw [pk_un e, if_neg e]; exact rl j hj
  · refine RE_congr (fun p hp' j hj => ?_) re2
    rw [en_put hl h0]
    by_cases e : j = k
    · subst e
      rw [if_pos rfl]
      by_cases q1 : u l = p
      · subst q1
        rw [if_pos rfl, if_neg (Ne.symm puv), bmp_n (by omega), bmp_s]
      · rw [if_neg q1]
        by_cases q2 : v l = p
        · subst q2; rw [if_pos rfl, bmp_s, bmp_n (by omega)]
        · rw [if_neg q2, bmp_n (by omega), bmp_n (by omega)]; rfl
    · rw [if_neg e, bmp_n (by omega), bmp_n (by omega)]; rfl
theorem takeOff_out {X : St} {m : Nat} {x : Int32} (hX : X.1 3 = nI m) (hx : x < 0 ∨ nI m ≤ x) : fX4_takeOff x X = some (0, X) := by
  unfold fX4_takeOff
  rw [Bd_eq (isLive_out hX hx)]; rfl
theorem takeOff_none {n m : Nat} {u v : Nat → Nat} {h : Nat → Option Nat} {X : St} {l : Nat} (i : IN n m u v h) (r : RC n m u v h X) (hl : l < m) (h0 : h l = none) : fX4_takeOff (nI l) X = some (0, X) := by
  unfold fX4_takeOff
  rw [Bd_eq (isLive_in i r hl), h0]; rfl
theorem takeOff_ok {n m : Nat} {u v : Nat → Nat} {h : Nat → Option Nat} {X : St} {l k : Nat} (i : IN n m u v h) (r : RC n m u v h X) (hl : l < m) (h0 : h l = some k) : ∃ Y, fX4_takeOff (nI l) X = some (1, Y) ∧ RC n m u v (uph h l none) Y ∧ fr [4, 5] [3, 4, 5, 6, 7] X Y := by
  obtain ⟨hn2, hn, hm, hp, hh⟩ := id i
  obtain ⟨⟨r2, r3, r4⟩, ru, rv, rh, rl, re⟩ := id r
  have hkn := hh l hl k h0
  have hk8 : k < 8 := by omega
  obtain ⟨pu, pv, puv⟩ := hp l hl
  have re0 : RE (en u v h m) (sF (sA (sA X 3 l (-1 : Int32)) 4 k (X.2 4 k - 1)) 4 (X.1 4 - 1)) := RE_fr re rfl rfl rfl rfl
  have f0 : fr [4, 5] [3, 4, 5, 6, 7] X (sF (sA (sA X 3 l (-1 : Int32)) 4 k (X.2 4 k - 1)) 4 (X.1 4 - 1)) := fr_F (by decide) (fr_A (by decide) (fr_A (by decide) fr_rf))
  have hub := fun p j => en_ub (u := u) (v := v) (h := h) (m := m) (p := p) (k := j)
  have pu0 := en_take (u := u) (v := v) hl h0 (u l) k
  have pv0 := en_take (u := u) (v := v) hl h0 (v l) k
  rw [if_pos rfl, if_pos rfl, if_neg (Ne.symm puv)] at pu0
  rw [if_pos rfl, if_pos rfl, if_neg puv] at pv0
  obtain ⟨Y1, e1, re1, f1⟩ := takeEnd_ok re0 pu hk8 (by have := hub (u l) k; omega) (by omega)
  obtain ⟨Y2, e2, re2, f2⟩ := takeEnd_ok re1 pv hk8 (by have := hub (v l) k; rw [dmp_n (by omega)]; omega) (by rw [dmp_n (by omega)]; omega)
  have f1' := fr_mo (fs' := [4, 5]) (as' := [3, 4, 5, 6, 7]) f1 (by decide) (by decide)
  have f2' := fr_mo (fs' := [4, 5]) (as' := [3, 4, 5, 6, 7]) f2 (by decide) (by decide)
  have f := fr_tr f0 (fr_tr f1' f2')
  have hl1 := liv_take hl h0 hk8
  refine ⟨Y2, ?_, ⟨⟨?_, ?_, ?_⟩, ?_, ?_, ?_, ?_, ?_⟩, f⟩
  · unfold fX4_takeOff
    rw [Bd_eq (isLive_in i r hl), h0]
    have h3 : X.2 3 l = nI k := by rw [rh l hl, h0]; rfl
    simp only [Option.isSome, if_true, Lt, LtS, gA_in (show l < 300 by omega) (by decide), ix_nI (show l < 2 ^ 31 by omega), h3]
    rw [if_neg (by decide)]
    simp only [gA_in hk8 (by decide), ix_nI (show k < 2 ^ 31 by omega), gA_1]
    have a1 : (sF (sA (sA X 3 l (-1 : Int32)) 4 k ((sA X 3 l (-1 : Int32)).2 4 k - 1)) 4 ((sA (sA X 3 l (-1 : Int32)) 4 k ((sA X 3 l (-1 : Int32)).2 4 k - 1)).1 4 - 1)) = (sF (sA (sA X 3 l (-1 : Int32)) 4 k (X.2 4 k - 1)) 4 (X.1 4 - 1)) := rfl
    rw [a1]
    have a2 : (sF (sA (sA X 3 l (-1 : Int32)) 4 k (X.2 4 k - 1)) 4 (X.1 4 - 1)).2 1 l = nI (u l) := ru l hl
    rw [a2, Bd_eq e1]
    have a3 : Y1.2 2 l = nI (v l) := by
      rw [f1.2 2 (by decide)]
      exact rv l hl
    rw [a3, Bd_eq e2]
  · rw [f.1 2 (by decide)]; exact r2
  · rw [f.1 3 (by decide)]; exact r3
  · rw [f2.1 4 (by decide), f1.1 4 (by decide), sFs, r4, nI_m1 (by omega)]; congr 1; omega
  · intro j hj; rw [f.2 1 (by decide)]; exact ru j hj
  · intro j hj; rw [f.2 2 (by decide)]; exact rv j hj
  · intro j hj
    rw [f2.2 3 (by decide), f1.2 3 (by decide)]
    show upd (X.2 3) l (-1 : Int32) j = _
    by_cases e : j = l
    · subst e; rw [pk_us, uph_s]; rfl
    · rw [pk_un e, uph_n e]; exact rh j hj
  · intro j hj
    rw [f2.2 4 (by decide), f1.2 4 (by decide)]
    show upd (X.2 4) k (X.2 4 k - 1) j = _
    have ht := ld_take hl h0 j
    by_cases e : j = k
    · subst e; rw [if_pos rfl] at ht; rw [pk_us, rl j hj, nI_m1 (ld_pos hl h0)]; congr 1; omega
    · rw [if_neg e] at ht; rw [pk_un e, rl j hj]; congr 1; omega
  · refine RE_congr (fun p hp' j hj => ?_) re2
    have ht := en_take (u := u) (v := v) hl h0 p j
    by_cases e : j = k
    · subst e
      rw [if_pos rfl] at ht
      by_cases q1 : u l = p
      · subst q1
        rw [if_pos rfl, if_neg (Ne.symm puv)] at ht
        rw [dmp_n (by omega), dmp_s]; omega
      · rw [if_neg q1] at ht
        by_cases q2 : v l = p
        · subst q2; rw [if_pos rfl] at ht; rw [dmp_s, dmp_n (by omega)]; omega
        · rw [if_neg q2] at ht; rw [dmp_n (by omega), dmp_n (by omega)]; omega
    · rw [if_neg e] at ht; rw [dmp_n (by omega), dmp_n (by omega)]; omega
