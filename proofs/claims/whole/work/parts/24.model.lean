/-! the reference's side: its net, puts, score, deals; x: a line whose host cell isn't looked at -/
def RM (x n m : Nat) (u v : Nat → Nat) (h : Nat → Option Nat) (M : St) : Prop := (M.1 0 = nI n ∧ M.1 1 = nI m ∧ M.1 2 = nI (sm (ld h m) 8)) ∧ (∀ l, l < m → M.2 0 l = nI (u l)) ∧ (∀ l, l < m → M.2 1 l = nI (v l)) ∧ (∀ l, l < m → l ≠ x → M.2 2 l = eo (h l)) ∧ (∀ k, k < 8 → M.2 3 k = nI (ld h m k)) ∧ ∀ p, p < 40 → ∀ k, k < 8 → M.2 4 (8 * p + k) = nI (en u v h m p k)
theorem RM_fr {x n m : Nat} {u v : Nat → Nat} {h : Nat → Option Nat} {X Y : St} {fs as : List Nat} (r : RM x n m u v h X) (f : fr fs as X Y) (hf : ∀ k ∈ fs, 2 < k) (ha : ∀ k ∈ as, 4 < k) : RM x n m u v h Y := by
  have F : ∀ k, k ≤ 2 → Y.1 k = X.1 k := fun k h1 => f.1 k (fun q => by have := hf k q; omega)
  have G : ∀ k, k ≤ 4 → Y.2 k = X.2 k := fun k h1 => f.2 k (fun q => by have := ha k q; omega)
  unfold RM
  rw [F 0 (by omega), F 1 (by omega), F 2 (by omega), G 0 (by omega), G 1 (by omega), G 2 (by omega), G 3 (by omega), G 4 (by omega)]
  exact r
theorem in_lo {x a b : Int32} {M : St} (h : x < a) : fX7_in x a b M = some (0, M) := by
  unfold fX7_in; rw [if_pos h]; rfl
theorem in_hi {x a b : Int32} {M : St} (h : b < x) : fX7_in x a b M = some (0, M) := by
  unfold fX7_in
  by_cases q : x < a
  · rw [if_pos q]; rfl
  · rw [if_neg q, if_pos h]; rfl
theorem in_yes {x a b : Int32} {M : St} (h1 : ¬ x < a) (h2 : ¬ b < x) : fX7_in x a b M = some (1, M) := by
  unfold fX7_in; rw [if_neg h1, if_neg h2]; rfl
theorem lt_le_tr {x : Int32} {a b : Nat} (hab : a < b) (hb : b < 2 ^ 31) (h : nI b ≤ x) : nI a < x := by
  have h1 := Int32.le_iff_toInt_le.mp h
  rw [nI_toInt hb] at h1
  exact Int32.lt_iff_toInt_lt.mpr (by rw [nI_toInt (by omega)]; omega)
theorem in_out {x : Int32} {n : Nat} {M : St} (hn : n < 2 ^ 31) (h : x < 0 ∨ nI n ≤ x) : fX7_in x 0 (nI n - 1) M = some (0, M) := by
  rcases h with h | h
  · exact in_lo h
  · by_cases q : n = 0
    · subst q
      by_cases q2 : x < 0
      · exact in_lo q2
      · refine in_hi ?_
        have h1 := Int32.le_iff_toInt_le.mp h
        rw [nI_toInt (by omega)] at h1
        have h2 : (nI 0 - 1 : Int32).toInt = -1 := by decide
        exact Int32.lt_iff_toInt_lt.mpr (by rw [h2]; omega)
    · rw [nI_m1 (by omega)]
      exact in_hi (lt_le_tr (by omega) hn h)
theorem in_in {j n : Nat} {M : St} (hn : n < 2 ^ 31) (h : j < n) : fX7_in (nI j) 0 (nI n - 1) M = some (1, M) := by
  rw [nI_m1 (by omega)]
  exact in_yes (nI_pos (by omega)) (nI_nlt (by omega) (by omega))
theorem n39 : (39 : Int32) = nI 40 - 1 := by decide
theorem isPointM_in {p : Nat} {M : St} (h : p < 40) : fX7_isPoint (nI p) M = some (1, M) := by
  unfold fX7_isPoint
  rw [n39, Bd_eq (in_in (by decide) h)]; rfl
theorem isPointM_out {x : Int32} {M : St} (h : x < 0 ∨ nI 40 ≤ x) : fX7_isPoint x M = some (0, M) := by
  unfold fX7_isPoint
  rw [n39, Bd_eq (in_out (by decide) h)]; rfl
theorem roomForM_ok {n : Nat} {M : St} {x : Int32} (h2 : M.1 0 = nI n) (hn : 2 ≤ n ∧ n ≤ 8) : fX7_roomFor x M = some (rmf n (M.1 4) x, M) := by
  have e1 : (100 : Int32) = nI 100 := rfl
  have e3 : (100 : Int32) * nI n = nI (100 * n) := by rw [e1, pk_mul]
  unfold fX7_roomFor rmf
  rw [h2, e3, gA_nz (by omega) (by omega)]
theorem greatM_l {n : Nat} {f : Nat → Nat} {X : St} (h2 : X.1 0 = nI n) (hn : n ≤ 8) (h4 : ∀ k, k < 8 → X.2 3 k = nI (f k)) (hb : ∀ k, k < 8 → f k ≤ 3000) : ∀ (j i N : Nat), i + j = n → j < N → fX7_greatest_4 N (nI (mx f i)) (nI i) X = some (nI (mx f n), X) := by
  intro j
  induction j with
  | zero =>
    intro i N hi hN
    obtain ⟨N, rfl⟩ : ∃ M, N = M + 1 := ⟨N - 1, by omega⟩
    show fX7_greatest_4_b _ _ _ _ = _
    unfold fX7_greatest_4_b
    have e : i = n := by omega
    subst e
    rw [h2, if_pos (Int32.le_refl _)]
  | succ j ih =>
    intro i N hi hN
    obtain ⟨N, rfl⟩ : ∃ M, N = M + 1 := ⟨N - 1, by omega⟩
    show fX7_greatest_4_b _ _ _ _ = _
    unfold fX7_greatest_4_b fX7_greatest_29
    have hmu := mx_ub (f := f) (b := 3000) (n := i) (fun k hk => hb k (by omega))
    have hfi := hb i (by omega)
    simp only [Lt]
    rw [h2, if_neg (nI_ge (by omega) (by omega)), gA_in (by omega) (by decide), gA_in (by omega) (by decide), ix_nI (by omega), h4 i (by omega), nI_1]
    have hx := ih (i + 1) N (by omega) (by omega)
    simp only [mx] at hx
    by_cases q : mx f i < f i
    · rw [if_pos q] at hx; rw [if_neg (nI_ge q (by omega))]; exact hx
    · rw [if_neg q] at hx; rw [if_pos (nI_le (by omega) (by omega))]; exact hx
theorem greatM_ok {x n m : Nat} {u v : Nat → Nat} {h : Nat → Option Nat} {M : St} (i : IN n m u v h) (r : RM x n m u v h M) : fX7_greatest M = some (nI (mx (ld h m) n), M) := by
  have hm := i.2.2.1
  exact greatM_l r.1.1 i.2.1 r.2.2.2.2.1 (fun k _ => by have := ld_ub (h := h) (m := m) (k := k); omega) n 0 FU (by omega) (by have := FU_gt; have := i.2.1; omega)
theorem degM_l {x n m : Nat} {u v : Nat → Nat} {h : Nat → Option Nat} {M : St} {p : Nat} (i : IN n m u v h) (r : RM x n m u v h M) (hp : p < 40) : ∀ (j q N : Nat), q + j = n → j < N → fX7_degree_13 N (nI p) (nI (sm (en u v h m p) q)) (nI q) M = some (nI (sm (en u v h m p) n), M) := by
  have hn := i.2.1
  intro j
  induction j with
  | zero =>
    intro q N hi hN
    obtain ⟨N, rfl⟩ : ∃ M, N = M + 1 := ⟨N - 1, by omega⟩
    show fX7_degree_13_b _ _ _ _ _ = _
    unfold fX7_degree_13_b
    have e : q = n := by omega
    subst e
    rw [r.1.1, if_pos (Int32.le_refl _)]
  | succ j ih =>
    intro q N hi hN
    obtain ⟨N, rfl⟩ : ∃ M, N = M + 1 := ⟨N - 1, by omega⟩
    show fX7_degree_13_b _ _ _ _ _ = _
    unfold fX7_degree_13_b
    simp only [Lt]
    rw [r.1.1, if_neg (nI_ge (by omega) (by omega)), ix8, gA_in (by omega) (by decide), ix_nI (by omega), r.2.2.2.2.2 p hp q (by omega), nI_add, nI_1]
    exact ih (q + 1) N (by omega) (by omega)
theorem degM_ok {x n m : Nat} {u v : Nat → Nat} {h : Nat → Option Nat} {M : St} {p : Nat} (i : IN n m u v h) (r : RM x n m u v h M) (hp : p < 40) : fX7_degree (nI p) M = some (nI (sm (en u v h m p) 8), M) := by
  unfold fX7_degree
  rw [Bd_eq (isPointM_in hp), if_neg (by decide)]
  have := degM_l i r hp n 0 FU (by omega) (by have := FU_gt; have := i.2.1; omega)
  rw [sm_ext (f := en u v h m p) (a := n) (b := 8) i.2.1 (fun k h1 _ => en_z i h1)]
  exact this
theorem scoreM_ok {x n m : Nat} {u v : Nat → Nat} {h : Nat → Option Nat} {M : St} {a b k : Nat} (i : IN n m u v h) (r : RM x n m u v h M) (ha : a < 40) (hb : b < 40) (hk : k < n) : fX7_scoreOf (nI a) (nI b) (nI k) M = some (scoG n (M.1 6) (M.1 5) (en u v h m) a b k (nI (mx (ld h m) n) - nI (ld h m k)), M) := by
  have hn := i.2.1
  have h2 := i.1
  have hm := i.2.2.1
  unfold fX7_scoreOf scoG
  rw [Bd_eq (greatM_ok i r), gA_in (by omega) (by decide)]
  simp only [Lt]
  rw [ix_nI (show k < 2 ^ 31 by omega), r.2.2.2.2.1 k (by omega), r.1.1]
  by_cases q0 : M.1 6 = 0
  · rw [if_pos q0, if_pos q0]
  · rw [if_neg q0, if_neg q0]
    by_cases q1 : M.1 6 = 1
    · rw [if_pos q1, if_pos q1, gA_nz (by omega) (by omega)]
      split <;> rfl
    · rw [if_neg q1, if_neg q1, Bd_eq (degM_ok i r ha), Bd_eq (degM_ok i r hb)]
      unfold fX7_scoreOf_95 fX7_scoreOf_127
      simp only [Lt]
      have ua := en_ub (u := u) (v := v) (h := h) (m := m) (p := a) (k := k)
      have ub := en_ub (u := u) (v := v) (h := h) (m := m) (p := b) (k := k)
      have le0 : ∀ y : Nat, y ≤ 600 → (nI y ≤ 0 ↔ ¬ 0 < y) := fun y hy => by
        rw [← nI_0, nI_leI (by omega) (by omega)]; omega
      simp only [ix8, gA_in (show 8 * a + k < 320 by omega) (by decide), gA_in (show 8 * b + k < 320 by omega) (by decide), ix_nI (show 8 * a + k < 2 ^ 31 by omega), ix_nI (show 8 * b + k < 2 ^ 31 by omega), r.2.2.2.2.2 a ha k (by omega), r.2.2.2.2.2 b hb k (by omega), le0 _ (show en u v h m a k ≤ 600 by omega), le0 _ (show en u v h m b k ≤ 600 by omega)]
      by_cases qa : 0 < en u v h m a k
      · by_cases qb : 0 < en u v h m b k
        · simp [qa, qb]
        · simp [qa, qb]
      · by_cases qb : 0 < en u v h m b k
        · simp [qa, qb]
        · simp [qa, qb]
/-- puts, to a host and off it -/
theorem putsM_on {x n m : Nat} {u v : Nat → Nat} {h : Nat → Option Nat} {M : St} {l k : Nat} (i : IN n m u v h) (r : RM x n m u v h M) (hx : x = l ∨ m ≤ x) (hl : l < m) (h0 : h l = none) (hk : k < n) : ∃ Y, fX7_puts (nI l) (nI k) 1 M = some (0, Y) ∧ RM 1000 n m u v (uph h l (some k)) Y ∧ fr [2] [2, 3, 4] M Y := by
  obtain ⟨hn2, hn, hm, hp, hh⟩ := id i
  obtain ⟨⟨r2, r3, r4⟩, ru, rv, rh, rl, re⟩ := id r
  have hk8 : k < 8 := by omega
  obtain ⟨pu, pv, puv⟩ := hp l hl
  refine ⟨sF (sA (sA (sA (sA M 2 l (nI k)) 3 k (M.2 3 k + 1)) 4 (8 * u l + k) (M.2 4 (8 * u l + k) + 1)) 4 (8 * v l + k) (M.2 4 (8 * v l + k) + 1)) 2 (M.1 2 + 1), ?_, ⟨⟨r2, r3, ?_⟩, ru, rv, ?_, ?_, ?_⟩, fr_F (by decide) (fr_A (by decide) (fr_A (by decide) (fr_A (by decide) (fr_A (by decide) fr_rf))))⟩
  · unfold fX7_puts
    rw [if_neg (by decide)]
    unfold fX7_puts_14
    simp only [LtS, gA_in (show l < 300 by omega) (by decide), gA_in hk8 (by decide), ix_nI (show l < 2 ^ 31 by omega), ix_nI (show k < 2 ^ 31 by omega)]
    simp only [sAn (show (0 : Nat) ≠ 2 by decide), sAn (show (0 : Nat) ≠ 3 by decide), sAn (show (0 : Nat) ≠ 4 by decide), ru l hl]
    simp only [ix8, gA_in (show 8 * u l + k < 320 by omega) (by decide), ix_nI (show 8 * u l + k < 2 ^ 31 by omega)]
    simp only [sAn (show (1 : Nat) ≠ 2 by decide), sAn (show (1 : Nat) ≠ 3 by decide), sAn (show (1 : Nat) ≠ 4 by decide), rv l hl]
    simp only [ix8, gA_in (show 8 * v l + k < 320 by omega) (by decide), ix_nI (show 8 * v l + k < 2 ^ 31 by omega)]
    have a5 : ∀ (S3 : St) (y : Int32), (sA S3 4 (8 * u l + k) y).2 4 (8 * v l + k) = S3.2 4 (8 * v l + k) := fun S3 y => by rw [sAs, pk_un (by omega)]
    rw [a5]
    rfl
  · rw [sFs, r4, nI_1, liv_put hl h0 hk8]
  · intro j hj _
    show upd (M.2 2) l (nI k) j = _
    by_cases e : j = l
    · subst e; rw [pk_us, uph_s]; rfl
    · rw [pk_un e, uph_n e]; exact rh j hj (by omega)
  · intro j hj
    show upd (M.2 3) k (M.2 3 k + 1) j = _
    rw [ld_put hl h0]
    by_cases e : j = k
    · subst e; rw [pk_us, rl j hj, nI_1, if_pos rfl]
    · rw [pk_un e, if_neg e]; exact rl j hj
  · intro p hp' j hj
    show upd (upd (M.2 4) (8 * u l + k) (M.2 4 (8 * u l + k) + 1)) (8 * v l + k) (M.2 4 (8 * v l + k) + 1) (8 * p + j) = _
    rw [en_put hl h0]
    by_cases e : j = k
    · subst e
      rw [if_pos rfl]
      by_cases q2 : v l = p
      · subst q2
        rw [pk_us, re _ pv j hj, nI_1, if_pos rfl, if_neg puv]
      · rw [pk_un (by omega), if_neg q2]
        by_cases q1 : u l = p
        · subst q1; rw [pk_us, re _ pu j hj, nI_1, if_pos rfl]
        · rw [pk_un (by omega), if_neg q1]; exact re p hp' j hj
    · rw [if_neg e, pk_un (by omega), pk_un (by omega)]; exact re p hp' j hj
theorem putsM_off {n m : Nat} {u v : Nat → Nat} {h : Nat → Option Nat} {M : St} {l k : Nat} (i : IN n m u v h) (r : RM 1000 n m u v h M) (hl : l < m) (h0 : h l = some k) : ∃ Y, fX7_puts (nI l) (nI k) (-1) M = some (0, Y) ∧ RM 1000 n m u v (uph h l none) Y ∧ fr [2] [2, 3, 4] M Y := by
  obtain ⟨hn2, hn, hm, hp, hh⟩ := id i
  obtain ⟨⟨r2, r3, r4⟩, ru, rv, rh, rl, re⟩ := id r
  have hkn := hh l hl k h0
  have hk8 : k < 8 := by omega
  obtain ⟨pu, pv, puv⟩ := hp l hl
  have pu0 := en_take (u := u) (v := v) hl h0 (u l) k
  have pv0 := en_take (u := u) (v := v) hl h0 (v l) k
  rw [if_pos rfl, if_pos rfl, if_neg (Ne.symm puv)] at pu0
  rw [if_pos rfl, if_pos rfl, if_neg puv] at pv0
  have hl1 := liv_take hl h0 hk8
  refine ⟨sF (sA (sA (sA (sA M 2 l (-1 : Int32)) 3 k (M.2 3 k + (-1))) 4 (8 * u l + k) (M.2 4 (8 * u l + k) + (-1))) 4 (8 * v l + k) (M.2 4 (8 * v l + k) + (-1))) 2 (M.1 2 + (-1)), ?_, ⟨⟨r2, r3, ?_⟩, ru, rv, ?_, ?_, ?_⟩, fr_F (by decide) (fr_A (by decide) (fr_A (by decide) (fr_A (by decide) (fr_A (by decide) fr_rf))))⟩
  · unfold fX7_puts
    rw [if_pos (by decide)]
    unfold fX7_puts_14
    simp only [LtS, gA_in (show l < 300 by omega) (by decide), gA_in hk8 (by decide), ix_nI (show l < 2 ^ 31 by omega), ix_nI (show k < 2 ^ 31 by omega)]
    simp only [sAn (show (0 : Nat) ≠ 2 by decide), sAn (show (0 : Nat) ≠ 3 by decide), sAn (show (0 : Nat) ≠ 4 by decide), ru l hl]
    simp only [ix8, gA_in (show 8 * u l + k < 320 by omega) (by decide), ix_nI (show 8 * u l + k < 2 ^ 31 by omega)]
    simp only [sAn (show (1 : Nat) ≠ 2 by decide), sAn (show (1 : Nat) ≠ 3 by decide), sAn (show (1 : Nat) ≠ 4 by decide), rv l hl]
    simp only [ix8, gA_in (show 8 * v l + k < 320 by omega) (by decide), ix_nI (show 8 * v l + k < 2 ^ 31 by omega)]
    have a5 : ∀ (S3 : St) (y : Int32), (sA S3 4 (8 * u l + k) y).2 4 (8 * v l + k) = S3.2 4 (8 * v l + k) := fun S3 y => by rw [sAs, pk_un (by omega)]
    rw [a5]
    rfl
  · rw [sFs, r4, sb_m1 (by omega)]; congr 1; omega
  · intro j hj _
    show upd (M.2 2) l (-1 : Int32) j = _
    by_cases e : j = l
    · subst e; rw [pk_us, uph_s]; rfl
    · rw [pk_un e, uph_n e]; exact rh j hj (by omega)
  · intro j hj
    show upd (M.2 3) k (M.2 3 k + (-1)) j = _
    have ht := ld_take hl h0 j
    by_cases e : j = k
    · subst e; rw [if_pos rfl] at ht; rw [pk_us, rl j hj, sb_m1 (by omega)]; congr 1; omega
    · rw [if_neg e] at ht; rw [pk_un e, rl j hj]; congr 1; omega
  · intro p hp' j hj
    show upd (upd (M.2 4) (8 * u l + k) (M.2 4 (8 * u l + k) + (-1))) (8 * v l + k) (M.2 4 (8 * v l + k) + (-1)) (8 * p + j) = _
    have ht := en_take (u := u) (v := v) hl h0 p j
    by_cases e : j = k
    · subst e
      rw [if_pos rfl] at ht
      by_cases q2 : v l = p
      · subst q2
        rw [if_pos rfl, if_neg puv] at ht
        rw [pk_us, re _ pv j hj, sb_m1 (by omega)]; congr 1; omega
      · rw [if_neg q2] at ht
        rw [pk_un (by omega)]
        by_cases q1 : u l = p
        · subst q1; rw [if_pos rfl] at ht; rw [pk_us, re _ pu j hj, sb_m1 (by omega)]; congr 1; omega
        · rw [if_neg q1] at ht; rw [pk_un (by omega), re p hp' j hj]; congr 1; omega
    · rw [if_neg e] at ht; rw [pk_un (by omega), pk_un (by omega), re p hp' j hj]; congr 1; omega
theorem dealsM_l {x n m : Nat} {u v : Nat → Nat} {h : Nat → Option Nat} {M : St} {l : Nat} {R : Int32} (i : IN n m u v h) (r : RM x n m u v h M) (hl : l < m) (ok : Nat → Bool) (sc : Nat → Int32) (hok : ∀ k, ok k = decide (nI (ld h m k) < R)) (hsc : ∀ k, sc k = scoG n (M.1 6) (M.1 5) (en u v h m) (u l) (v l) k (nI (mx (ld h m) n) - nI (ld h m k))) : ∀ (j q N : Nat), q + j = n → j < N → fX7_deals_19 N (nI l) (eo (pk ok sc q).1) (pk ok sc q).2 R (nI q) M = Bd (fX7_puts (nI l) (eo (pk ok sc n).1) 1 M) fun _ S2 => some (eo (pk ok sc n).1, S2) := by
  have hn := i.2.1
  have hm := i.2.2.1
  obtain ⟨pu, pv, -⟩ := i.2.2.2.1 l hl
  intro j
  induction j with
  | zero =>
    intro q N hi hN
    obtain ⟨N, rfl⟩ : ∃ M, N = M + 1 := ⟨N - 1, by omega⟩
    show fX7_deals_19_b _ _ _ _ _ _ _ = _
    unfold fX7_deals_19_b
    have e : q = n := by omega
    subst e
    rw [r.1.1, if_pos (Int32.le_refl _)]
  | succ j ih =>
    intro q N hi hN
    obtain ⟨N, rfl⟩ : ∃ M, N = M + 1 := ⟨N - 1, by omega⟩
    have hnext := ih (q + 1) N (by omega) (by omega)
    show fX7_deals_19_b _ _ _ _ _ _ _ = _
    unfold fX7_deals_19_b
    rw [r.1.1, if_neg (nI_ge (by omega) (by omega)), gA_in (by omega) (by decide), gA_in (show l < 300 by omega) (by decide), gA_in (show l < 300 by omega) (by decide), ix_nI (show q < 2 ^ 31 by omega), ix_nI (show l < 2 ^ 31 by omega), r.2.2.2.2.1 q (by omega), r.2.1 l hl, r.2.2.1 l hl]
    unfold fX7_deals_77 fX7_deals_83
    rw [nI_1]
    by_cases c : nI (ld h m q) < R
    · rw [if_pos c, Bd_eq (scoreM_ok i r pu pv (by omega)), ← hsc q]
      have okq : ok q = true := by rw [hok]; exact decide_eq_true c
      cases e : (pk ok sc q).1 with
      | none =>
        have hp : pk ok sc (q + 1) = (some q, sc q) := by simp only [pk]; rw [if_pos ⟨okq, Or.inl e⟩]
        rw [hp] at hnext
        rw [if_pos (show eo none = -1 from rfl)]
        exact hnext
      | some k =>
        have hk := pk_lt' e
        have e2 : ¬ eo (some k) = (-1 : Int32) := nI_nm1 (by omega)
        rw [if_neg e2]
        by_cases c2 : (pk ok sc q).2 < sc q
        · have hp : pk ok sc (q + 1) = (some q, sc q) := by simp only [pk]; rw [if_pos ⟨okq, Or.inr c2⟩]
          rw [hp] at hnext
          rw [if_pos c2]
          exact hnext
        · have hp : pk ok sc (q + 1) = pk ok sc q := by
            simp only [pk]; rw [if_neg]
            rintro ⟨-, h1 | h1⟩
            · rw [e] at h1; cases h1
            · exact c2 h1
          rw [hp, e] at hnext
          rw [if_neg c2]
          exact hnext
    · have hp : pk ok sc (q + 1) = pk ok sc q := by
        simp only [pk]; rw [if_neg]
        rintro ⟨h1, -⟩
        rw [hok] at h1
        exact c (of_decide_eq_true h1)
      rw [hp] at hnext
      rw [if_neg c]
      exact hnext
theorem dealsM_ok {x n m : Nat} {u v : Nat → Nat} {h : Nat → Option Nat} {M : St} {l k : Nat} (i : IN n m u v h) (r : RM x n m u v h M) (hx : x = l ∨ m ≤ x) (hl : l < m) (h0 : h l = none) (hc : (chs n m u v h (M.1 6) (M.1 4) (M.1 5) l).1 = some k) (hk : k < n) : ∃ Y, fX7_deals (nI l) M = some (nI k, Y) ∧ RM 1000 n m u v (uph h l (some k)) Y ∧ fr [2] [2, 3, 4] M Y := by
  obtain ⟨Y, e1, e2, e3⟩ := putsM_on i r hx hl h0 hk
  refine ⟨Y, ?_, e2, e3⟩
  unfold fX7_deals
  rw [Bd_eq (roomForM_ok r.1.1 ⟨i.1, i.2.1⟩), r.1.2.2]
  have := dealsM_l (R := rmf n (M.1 4) (nI (sm (ld h m) 8) + 1)) i r hl (fun k => decide (nI (ld h m k) < rmf n (M.1 4) (nI (sm (ld h m) 8) + 1))) (fun k => scoG n (M.1 6) (M.1 5) (en u v h m) (u l) (v l) k (nI (mx (ld h m) n) - nI (ld h m k))) (fun _ => rfl) (fun _ => rfl) n 0 FU (by omega) (by have := FU_gt; have := i.2.1; omega)
  refine this.trans ?_
  have h2 : (pk (fun k => decide (nI (ld h m k) < rmf n (M.1 4) (nI (sm (ld h m) 8) + 1))) (fun k => scoG n (M.1 6) (M.1 5) (en u v h m) (u l) (v l) k (nI (mx (ld h m) n) - nI (ld h m k))) n).1 = some k := hc
  rw [h2]
  show Bd (fX7_puts (nI l) (nI k) 1 M) _ = _
  rw [Bd_eq e1]; rfl
