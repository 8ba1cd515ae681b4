/-! to deal a line: room, score, choice; the class's side -/
theorem FU_gt : 7000 < FU := by decide
def mx (f : Nat → Nat) : Nat → Nat
  | 0 => 0
  | n + 1 => if mx f n < f n then f n else mx f n
theorem mx_ub {f : Nat → Nat} {b : Nat} : ∀ {n : Nat}, (∀ k, k < n → f k ≤ b) → mx f n ≤ b
  | 0, _ => Nat.zero_le _
  | n + 1, h => by
    simp only [mx]
    have h1 := mx_ub (f := f) (b := b) (n := n) (fun k hk => h k (by omega))
    have h2 := h n (by omega)
    split <;> omega
def rmf (n : Nat) (sl x : Int32) : Int32 := (((x * ((100 : Int32) + sl)) + ((100 : Int32) * nI n)) - (1 : Int32)) / ((100 : Int32) * nI n)
def scoG (n : Nat) (ru le : Int32) (e : Nat → Nat → Nat) (a b k : Nat) (gap : Int32) : Int32 :=
  if ru = 0 then gap else if ru = 1 then (if (nI a + nI b) - (nI a + nI b) / nI n * nI n = nI k then 1 else 0)
  else (10 : Int32) * ((if 0 < e a k then (2 : Int32) * ((nI (sm (e a) 8) + 1) + (nI (sm (e b) 8) + 1)) - (nI (sm (e a) 8) + 1) else 0) + (if 0 < e b k then (2 : Int32) * ((nI (sm (e a) 8) + 1) + (nI (sm (e b) 8) + 1)) - (nI (sm (e b) 8) + 1) else 0)) + le * gap
def pk (ok : Nat → Bool) (sc : Nat → Int32) : Nat → Option Nat × Int32
  | 0 => (none, 0)
  | k + 1 => if ok k = true ∧ ((pk ok sc k).1 = none ∨ (pk ok sc k).2 < sc k) then (some k, sc k) else pk ok sc k
theorem pk_lt' {ok : Nat → Bool} {sc : Nat → Int32} : ∀ {n k : Nat}, (pk ok sc n).1 = some k → k < n
  | 0, k, h => by simp [pk] at h
  | n + 1, k, h => by
    simp only [pk] at h
    split at h
    · cases h; omega
    · have := pk_lt' h; omega
theorem pk_some {ok : Nat → Bool} {sc : Nat → Int32} {j : Nat} (hj : ok j = true) : ∀ {n : Nat}, j < n → ∃ k, (pk ok sc n).1 = some k
  | 0, h => by omega
  | n + 1, h => by
    simp only [pk]
    split
    · exact ⟨n, rfl⟩
    · rename_i hc
      by_cases e : j = n
      · subst e
        cases q : (pk ok sc j).1 with
        | none => exact absurd ⟨hj, Or.inl q⟩ hc
        | some k => exact ⟨k, rfl⟩
      · exact pk_some hj (by omega)
/-- the choice of a host for a line -/
def chs (n m : Nat) (u v : Nat → Nat) (h : Nat → Option Nat) (ru sl le : Int32) (l : Nat) : Option Nat × Int32 :=
  pk (fun k => decide (nI (ld h m k) < rmf n sl (nI (sm (ld h m) 8) + 1))) (fun k => scoG n ru le (en u v h m) (u l) (v l) k (nI (mx (ld h m) n) - nI (ld h m k))) n
theorem rmf_nat {n s t : Nat} (h2 : 2 ≤ n) (h8 : n ≤ 8) (hs : s ≤ 100) (ht : t ≤ 3000) : rmf n (nI s) (nI t) = nI ((t * (100 + s) + 100 * n - 1) / (100 * n)) := by
  have e1 : (100 : Int32) = nI 100 := rfl
  have e2 : (1 : Int32) = nI 1 := rfl
  have b : t * (100 + s) ≤ 3000 * 200 := Nat.mul_le_mul ht (by omega)
  unfold rmf
  rw [e1, e2, nI_add, pk_mul, pk_mul, nI_add, pk_sub (by omega), pk_div (by omega) (by omega) (by omega)]
theorem ld_z {n m : Nat} {u v : Nat → Nat} {h : Nat → Option Nat} (i : IN n m u v h) {k : Nat} (hk : n ≤ k) : ld h m k = 0 := cnt_zero (fun l hl => by
  cases e : h l with
  | none => rfl
  | some j =>
    have := i.2.2.2.2 l hl j e
    simp; omega)
theorem en_z {n m : Nat} {u v : Nat → Nat} {h : Nat → Option Nat} (i : IN n m u v h) {p k : Nat} (hk : n ≤ k) : en u v h m p k = 0 := by
  have z : ∀ w : Nat → Nat, cnt (fun l => h l == some k && w l == p) m = 0 := fun w => cnt_zero (fun l hl => by
    cases e : h l with
    | none => rfl
    | some j =>
      have := i.2.2.2.2 l hl j e
      have : (some j == some k) = false := by simp; omega
      rw [this]; rfl)
  unfold en
  rw [z u, z v]
theorem sm_lb {f : Nat → Nat} {b : Nat} : ∀ {n : Nat}, (∀ k, k < n → b ≤ f k) → n * b ≤ sm f n
  | 0, _ => by simp [sm]
  | n + 1, h => by
    simp only [sm]
    have h1 := sm_lb (f := f) (b := b) (n := n) (fun k hk => h k (by omega))
    have h2 := h n (by omega)
    rw [Nat.succ_mul]; omega
theorem room_hit {n s t : Nat} (h2 : 2 ≤ n) : t ≤ n * ((t * (100 + s) + 100 * n - 1) / (100 * n)) := by
  have h := Nat.lt_div_mul_add (a := t * (100 + s) + 100 * n - 1) (b := 100 * n) (by omega)
  generalize (t * (100 + s) + 100 * n - 1) / (100 * n) = r at h ⊢
  have h3 : r * (100 * n) = 100 * (n * r) := by rw [Nat.mul_comm r, Nat.mul_assoc]
  rw [h3] at h
  have h4 : t * 100 ≤ t * (100 + s) := Nat.mul_le_mul_left _ (by omega)
  omega
theorem chs_some {n m : Nat} {u v : Nat → Nat} {h : Nat → Option Nat} {ru le : Int32} {s l : Nat} (i : IN n m u v h) (hs : s ≤ 100) : ∃ k, (chs n m u v h ru (nI s) le l).1 = some k ∧ k < n := by
  have hlv := liv_ub (h := h) (m := m)
  have hm := i.2.2.1
  have hok : ∃ j, j < n ∧ decide (nI (ld h m j) < rmf n (nI s) (nI (sm (ld h m) 8) + 1)) = true := by
    rw [nI_1, rmf_nat i.1 i.2.1 hs (by omega)]
    refine Classical.byContradiction fun hc => ?_
    have hb : ∀ k, k < n → ((sm (ld h m) 8 + 1) * (100 + s) + 100 * n - 1) / (100 * n) ≤ ld h m k := fun k hk => by
      refine Nat.not_lt.mp fun q => hc ⟨k, hk, decide_eq_true ?_⟩
      have b : (sm (ld h m) 8 + 1) * (100 + s) ≤ 3000 * 200 := Nat.mul_le_mul (by omega) (by omega)
      have b2 := Nat.div_le_self ((sm (ld h m) 8 + 1) * (100 + s) + 100 * n - 1) (100 * n)
      have := i.2.1
      exact nI_lt q (by omega)
    have h1 := sm_lb hb
    have h2 := room_hit (n := n) (s := s) (t := sm (ld h m) 8 + 1) i.1
    have h3 := sm_ext (f := ld h m) (a := n) (b := 8) i.2.1 (fun k h1 _ => ld_z i h1)
    omega
  obtain ⟨j, hj, hok⟩ := hok
  obtain ⟨k, hk⟩ := pk_some (ok := fun k => decide (nI (ld h m k) < rmf n (nI s) (nI (sm (ld h m) 8) + 1))) (sc := fun k => scoG n ru le (en u v h m) (u l) (v l) k (nI (mx (ld h m) n) - nI (ld h m k))) hok hj
  exact ⟨k, hk, pk_lt' hk⟩
theorem roomFor_ok {n : Nat} {X : St} {x : Int32} (h2 : X.1 2 = nI n) (hn : 2 ≤ n ∧ n ≤ 8) : fX1_roomFor x X = some (rmf n (X.1 7) x, X) := by
  have e1 : (100 : Int32) = nI 100 := rfl
  have e3 : (100 : Int32) * nI n = nI (100 * n) := by rw [e1, pk_mul]
  unfold fX1_roomFor rmf
  simp only [Lt]
  rw [h2, e3, if_pos (by rw [← nI_0]; exact nI_lt (by omega) (by omega)), gA_nz (by omega) (by omega)]
theorem great_l {n : Nat} {f : Nat → Nat} {X : St} (h2 : X.1 2 = nI n) (hn : n ≤ 8) (h4 : ∀ k, k < 8 → X.2 4 k = nI (f k)) (hb : ∀ k, k < 8 → f k ≤ 3000) : ∀ (j i N : Nat), i + j = n → j < N → fX4_greatestLoad_4 N (nI (mx f i)) (nI i) X = some (nI (mx f n), X) := by
  intro j
  induction j with
  | zero =>
    intro i N hi hN
    obtain ⟨N, rfl⟩ : ∃ M, N = M + 1 := ⟨N - 1, by omega⟩
    show fX4_greatestLoad_4_b _ _ _ _ = _
    unfold fX4_greatestLoad_4_b
    rw [h2, if_pos (by have : n = i := by omega
                       rw [this]; exact Int32.le_refl _), show i = n by omega]
  | succ j ih =>
    intro i N hi hN
    obtain ⟨N, rfl⟩ : ∃ M, N = M + 1 := ⟨N - 1, by omega⟩
    show fX4_greatestLoad_4_b _ _ _ _ = _
    unfold fX4_greatestLoad_4_b
    have hmu := mx_ub (f := f) (b := 3000) (n := i) (fun k hk => hb k (by omega))
    have hfi := hb i (by omega)
    rw [h2, if_neg (nI_ge (by omega) (by omega)), gA_in (by omega) (by decide), ix_nI (by omega), h4 i (by omega)]
    unfold Lt
    rw [nI_1]
    have : (if nI (mx f i) < nI (f i) then nI (f i) else nI (mx f i)) = nI (mx f (i + 1)) := by
      simp only [mx]
      by_cases q : mx f i < f i
      · rw [if_pos q, if_pos (nI_lt q (by omega))]
      · rw [if_neg q, if_neg (nI_nlt (by omega) (by omega))]
    rw [this]
    exact ih (i + 1) N (by omega) (by omega)
theorem great_ok {n m : Nat} {u v : Nat → Nat} {h : Nat → Option Nat} {X : St} (i : IN n m u v h) (r : RC n m u v h X) : fX4_greatestLoad X = some (nI (mx (ld h m) n), X) := by
  have hm := i.2.2.1
  exact great_l r.1.1 i.2.1 r.2.2.2.2.1 (fun k _ => by have := ld_ub (h := h) (m := m) (k := k); omega) n 0 FU (by omega) (by have := FU_gt; have := i.2.1; omega)
theorem hasCopy_ok {e : Nat → Nat → Nat} {X : St} {p k : Nat} (r : RE e X) (hp : p < 40) (hk : k < 8) : fX4_hasCopy (nI p) (nI k) X = some (if 0 < e p k then 1 else 0, X) := by
  obtain ⟨b, b1, b2, b3⟩ := r.2.1 p hp
  unfold fX4_hasCopy
  rw [gA_in hp (by decide), ix_nI (by omega), b2]
  have h1 := bt_get b b1 k hk
  rw [b3 k hk] at h1
  by_cases q : 0 < e p k
  · rw [if_pos (of_decide_eq_true (by rw [h1]; exact decide_eq_true q)), if_pos q]; rfl
  · rw [if_neg (of_decide_eq_false (by rw [h1]; exact decide_eq_false q)), if_neg q]; rfl
theorem score_ok {n m : Nat} {u v : Nat → Nat} {h : Nat → Option Nat} {X : St} {a b k : Nat} {gap : Int32} (i : IN n m u v h) (r : RC n m u v h X) (ha : a < 40) (hb : b < 40) (hk : k < n) : fX1_scoreOf (nI k) (nI a) (nI b) gap X = some (scoG n (X.1 6) (X.1 8) (en u v h m) a b k gap, X) := by
  have hn := i.2.1
  have h2 := i.1
  have re := r.2.2.2.2.2
  unfold fX1_scoreOf scoG
  rw [r.1.1]
  by_cases q0 : X.1 6 = 0
  · rw [if_pos q0, if_pos q0]
  · rw [if_neg q0, if_neg q0]
    by_cases q1 : X.1 6 = 1
    · rw [if_pos q1, if_pos q1, if_neg (nI_nle (by omega) (by omega)), gA_nz (by omega) (by omega)]
      split <;> rfl
    · rw [if_neg q1, if_neg q1]
      have hc : fX1_scoreOfCopies (nI k) (nI a) (nI b) X = some ((if 0 < en u v h m a k then (2 : Int32) * ((nI (sm (en u v h m a) 8) + 1) + (nI (sm (en u v h m b) 8) + 1)) - (nI (sm (en u v h m a) 8) + 1) else 0) + (if 0 < en u v h m b k then (2 : Int32) * ((nI (sm (en u v h m a) 8) + 1) + (nI (sm (en u v h m b) 8) + 1)) - (nI (sm (en u v h m b) 8) + 1) else 0), X) := by
        unfold fX1_scoreOfCopies
        simp only [Lt]
        rw [gA_in ha (by decide), gA_in hb (by decide), ix_nI (by omega), ix_nI (by omega), re.1 a ha, re.1 b hb, Bd_eq (hasCopy_ok re ha (by omega))]
        unfold fX1_scoreOfCopies_60 fX1_scoreOfCopies_82
        simp only [Lt, Bd_eq (hasCopy_ok re hb (show k < 8 by omega))]
        by_cases qa : 0 < en u v h m a k
        · by_cases qb : 0 < en u v h m b k
          · simp [qa, qb]
          · simp [qa, qb]
        · by_cases qb : 0 < en u v h m b k
          · simp [qa, qb]
          · simp [qa, qb]
      rw [Bd_eq hc]
theorem choose_l {n m : Nat} {u v : Nat → Nat} {h : Nat → Option Nat} {X : St} {a b : Nat} {R G : Int32} (i : IN n m u v h) (r : RC n m u v h X) (ha : a < 40) (hb : b < 40) (ok : Nat → Bool) (sc : Nat → Int32) (hok : ∀ k, ok k = decide (nI (ld h m k) < R)) (hsc : ∀ k, sc k = scoG n (X.1 6) (X.1 8) (en u v h m) a b k (G - nI (ld h m k))) : ∀ (j q N : Nat), q + j = n → j < N → fX1_chooseHost_32 N (nI a) (nI b) R G (eo (pk ok sc q).1) (pk ok sc q).2 (nI q) X = some (eo (pk ok sc n).1, X) := by
  have hn := i.2.1
  intro j
  induction j with
  | zero =>
    intro q N hi hN
    obtain ⟨N, rfl⟩ : ∃ M, N = M + 1 := ⟨N - 1, by omega⟩
    show fX1_chooseHost_32_b _ _ _ _ _ _ _ _ _ = _
    unfold fX1_chooseHost_32_b
    have e : q = n := by omega
    subst e
    rw [r.1.1, if_pos (Int32.le_refl _)]
  | succ j ih =>
    intro q N hi hN
    obtain ⟨N, rfl⟩ : ∃ M, N = M + 1 := ⟨N - 1, by omega⟩
    have hnext := ih (q + 1) N (by omega) (by omega)
    show fX1_chooseHost_32_b _ _ _ _ _ _ _ _ _ = _
    unfold fX1_chooseHost_32_b
    rw [r.1.1, if_neg (nI_ge (by omega) (by omega)), gA_in (by omega) (by decide), gA_in (by omega) (by decide), ix_nI (by omega), r.2.2.2.2.1 q (by omega)]
    unfold fX1_chooseHost_97 fX1_chooseHost_105
    rw [nI_1]
    by_cases c : nI (ld h m q) < R
    · rw [if_pos c, Bd_eq (score_ok i r ha hb (by omega)), ← hsc q]
      have okq : ok q = true := by rw [hok]; exact decide_eq_true c
      cases e : (pk ok sc q).1 with
      | none =>
        have hp : pk ok sc (q + 1) = (some q, sc q) := by simp only [pk]; rw [if_pos ⟨okq, Or.inl e⟩]
        rw [hp] at hnext
        rw [if_pos (show eo none = -1 from rfl)]
        exact hnext
      | some k =>
        have hk := pk_lt' e
        have e2 : ¬ eo (some k) = (-1 : Int32) := nI_nm1 (by omega)
        rw [if_neg e2]
        by_cases c2 : sc q ≤ (pk ok sc q).2
        · have hp : pk ok sc (q + 1) = pk ok sc q := by
            simp only [pk]; rw [if_neg]
            rintro ⟨-, h1 | h1⟩
            · rw [e] at h1; cases h1
            · exact Int32.not_lt.mpr c2 h1
          rw [hp, e] at hnext
          rw [if_pos c2]
          exact hnext
        · have hp : pk ok sc (q + 1) = (some q, sc q) := by simp only [pk]; rw [if_pos ⟨okq, Or.inr (Int32.not_le.mp c2)⟩]
          rw [hp] at hnext
          rw [if_neg c2]
          exact hnext
    · have hp : pk ok sc (q + 1) = pk ok sc q := by
        simp only [pk]; rw [if_neg]
        rintro ⟨h1, -⟩
        rw [hok] at h1
        exact c (of_decide_eq_true h1)
      rw [hp] at hnext
      rw [if_neg c]
      exact hnext
theorem dealLine_ok {n m : Nat} {u v : Nat → Nat} {h : Nat → Option Nat} {X : St} {l k : Nat} (i : IN n m u v h) (r : RC n m u v h X) (hl : l < m) (h0 : h l = none) (hc : (chs n m u v h (X.1 6) (X.1 7) (X.1 8) l).1 = some k) (hk : k < n) : ∃ Y, fX1_dealLine (nI l) X = some (nI k, Y) ∧ RC n m u v (uph h l (some k)) Y ∧ fr [4, 5] [3, 4, 5, 6, 7] X Y := by
  have hm := i.2.2.1
  obtain ⟨pu, pv, -⟩ := i.2.2.2.1 l hl
  obtain ⟨Y, e1, e2, e3⟩ := putOn_ok i r hl h0 hk
  refine ⟨Y, ?_, e2, e3⟩
  unfold fX1_dealLine
  rw [gA_in (by omega) (by decide), gA_in (by omega) (by decide), ix_nI (by omega), r.2.1 l hl, r.2.2.1 l hl]
  have hch : fX1_chooseHost (nI (u l)) (nI (v l)) X = some (nI k, X) := by
    unfold fX1_chooseHost
    rw [Bd_eq (roomFor_ok r.1.1 ⟨i.1, i.2.1⟩), Bd_eq (great_ok i r), r.1.2.2]
    have := choose_l (a := u l) (b := v l) (R := rmf n (X.1 7) (nI (sm (ld h m) 8) + 1)) (G := nI (mx (ld h m) n)) i r pu pv (fun k => decide (nI (ld h m k) < rmf n (X.1 7) (nI (sm (ld h m) 8) + 1))) (fun k => scoG n (X.1 6) (X.1 8) (en u v h m) (u l) (v l) k (nI (mx (ld h m) n) - nI (ld h m k))) (fun _ => rfl) (fun _ => rfl) n 0 FU (by omega) (by have := FU_gt; have := i.2.1; omega)
    refine this.trans ?_
    have h2 : (pk (fun k => decide (nI (ld h m k) < rmf n (X.1 7) (nI (sm (ld h m) 8) + 1))) (fun k => scoG n (X.1 6) (X.1 8) (en u v h m) (u l) (v l) k (nI (mx (ld h m) n) - nI (ld h m k))) n).1 = some k := hc
    rw [h2]; rfl
  rw [Bd_eq hch, Bd_eq e1]
