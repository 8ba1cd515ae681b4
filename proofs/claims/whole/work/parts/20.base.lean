/-! numbers, sums, counts, state -/
theorem ix_nI {i : Nat} (h : i < 2 ^ 31) : ix (nI i) = i := nI_clamp h
theorem gA_in {i n : Nat} {X : Rs} (h : i < n) (hn : n < 2 ^ 31) : gA (inb (nI i) n) X = X := by
  have h1 : inb (nI i) n = true := by
    have := vp_in_nI h hn
    simp only [vp_in, not_or] at this
    simp [inb, ix, this.1]
    exact decide_eq_false this.2
  simp [gA, h1]
theorem gA_nz {k : Nat} {X : Rs} (h : 0 < k) (hn : k < 2 ^ 31) : gA (nz (nI k)) X = X := by
  have h1 : nz (nI k) = true := by
    simp [nz, nI_ne0 h hn]
  simp [gA, h1]
theorem gA_0 {X : Rs} : gA (b01 0) X = X := rfl
theorem gA_1 {X : Rs} : gA (b01 1) X = X := rfl
theorem Bd_some {r : Int32} {S : St} {Z : Int32 → St → Rs} : Bd (some (r, S)) Z = Z r S := rfl
theorem Bd_eq {F : Rs} {r : Int32} {S : St} {Z : Int32 → St → Rs} (h : F = some (r, S)) : Bd F Z = Z r S := by rw [h]; rfl
theorem nI_m1 {a : Nat} (h : 0 < a) : nI a - 1 = nI (a - 1) := by
  obtain ⟨b, rfl⟩ : ∃ b, a = b + 1 := ⟨a - 1, by omega⟩
  exact nI_pred b
theorem nl40 : (40 : Int32) = nI 40 := rfl
theorem nl8 : (8 : Int32) = nI 8 := rfl
theorem nl300 : (300 : Int32) = nI 300 := rfl
theorem ix40 (k p : Nat) : nI k * (40 : Int32) + nI p = nI (k * 40 + p) := by rw [nl40, pk_mul, nI_add]
theorem ix8 (p k : Nat) : (8 : Int32) * nI p + nI k = nI (8 * p + k) := by rw [nl8, pk_mul, nI_add]
def eo : Option Nat → Int32
  | none => -1
  | some k => nI k
theorem nI_nm1 {k : Nat} (h : k < 2 ^ 31) : ¬ nI k = (-1 : Int32) := by
  intro q
  have h1 := nI_toInt h
  rw [q] at h1
  have : (-1 : Int32).toInt = -1 := by decide
  omega
/-- sums -/
def sm (f : Nat → Nat) : Nat → Nat
  | 0 => 0
  | n + 1 => sm f n + f n
theorem sm_congr {f g : Nat → Nat} : ∀ {n : Nat}, (∀ k, k < n → f k = g k) → sm f n = sm g n
  | 0, _ => rfl
  | n + 1, h => by simp only [sm]; rw [sm_congr (fun k hk => h k (by omega)), h n (by omega)]
theorem sm_change {f g : Nat → Nat} {k : Nat} : ∀ {n : Nat}, k < n → (∀ j, j < n → j ≠ k → g j = f j) → sm g n + f k = sm f n + g k
  | 0, h, _ => by omega
  | n + 1, h, hj => by
    simp only [sm]
    by_cases hk : k = n
    · subst hk
      rw [sm_congr (f := g) (g := f) (fun j hj2 => hj j (by omega) (by omega))]
      omega
    · have := sm_change (f := f) (g := g) (k := k) (n := n) (by omega) (fun j h1 h2 => hj j (by omega) h2)
      rw [hj n (by omega) (by omega)]
      omega
theorem sm_le {f : Nat → Nat} {k : Nat} : ∀ {n : Nat}, k < n → f k ≤ sm f n
  | 0, h => by omega
  | n + 1, h => by
    simp only [sm]
    by_cases hk : k = n
    · subst hk; omega
    · have := sm_le (f := f) (k := k) (n := n) (by omega); omega
theorem sm_ub {f : Nat → Nat} {b : Nat} : ∀ {n : Nat}, (∀ k, k < n → f k ≤ b) → sm f n ≤ n * b
  | 0, _ => by simp [sm]
  | n + 1, h => by
    simp only [sm]
    have h1 := sm_ub (f := f) (b := b) (n := n) (fun k hk => h k (by omega))
    have h2 := h n (by omega)
    rw [Nat.succ_mul]; omega
theorem sm_0 {f : Nat → Nat} : ∀ {n : Nat}, (∀ k, k < n → f k = 0) → sm f n = 0
  | 0, _ => rfl
  | n + 1, h => by simp only [sm]; rw [sm_0 (fun k hk => h k (by omega)), h n (by omega)]
theorem sm_add {f g : Nat → Nat} : ∀ {n : Nat}, sm (fun k => f k + g k) n = sm f n + sm g n
  | 0 => rfl
  | n + 1 => by simp only [sm]; rw [sm_add]; omega
/-- a longer sum whose rest is 0 -/
theorem sm_ext {f : Nat → Nat} {a : Nat} : ∀ {b : Nat}, a ≤ b → (∀ k, a ≤ k → k < b → f k = 0) → sm f b = sm f a
  | 0, h, _ => by have : a = 0 := by omega
                  subst this; rfl
  | b + 1, h, h0 => by
    by_cases e : a = b + 1
    · subst e; rfl
    · simp only [sm]; rw [sm_ext (b := b) (by omega) (fun k h1 h2 => h0 k h1 (by omega)), h0 b (by omega) (by omega)]; omega
/-- counts -/
def cnt (P : Nat → Bool) : Nat → Nat
  | 0 => 0
  | m + 1 => cnt P m + (if P m = true then 1 else 0)
theorem cnt_congr {P Q : Nat → Bool} : ∀ {m : Nat}, (∀ l, l < m → P l = Q l) → cnt P m = cnt Q m
  | 0, _ => rfl
  | m + 1, h => by simp only [cnt]; rw [cnt_congr (fun k hk => h k (by omega)), h m (by omega)]
theorem cnt_change {P Q : Nat → Bool} {l : Nat} : ∀ {m : Nat}, l < m → (∀ j, j < m → j ≠ l → Q j = P j) → cnt Q m + (if P l = true then 1 else 0) = cnt P m + (if Q l = true then 1 else 0)
  | 0, h, _ => by omega
  | m + 1, h, hj => by
    simp only [cnt]
    by_cases hk : l = m
    · subst hk
      rw [cnt_congr (P := Q) (Q := P) (fun j hj2 => hj j (by omega) (by omega))]
      omega
    · have := cnt_change (P := P) (Q := Q) (l := l) (m := m) (by omega) (fun j h1 h2 => hj j (by omega) h2)
      rw [hj m (by omega) (by omega)]
      omega
theorem cnt_le {P : Nat → Bool} : ∀ {m : Nat}, cnt P m ≤ m
  | 0 => Nat.le_refl _
  | m + 1 => by simp only [cnt]; have := cnt_le (P := P) (m := m); split <;> omega
theorem cnt_pos {P : Nat → Bool} {l : Nat} : ∀ {m : Nat}, l < m → P l = true → 0 < cnt P m
  | 0, h, _ => by omega
  | m + 1, h, hp => by
    simp only [cnt]
    by_cases e : l = m
    · subst e; rw [if_pos hp]; omega
    · have := cnt_pos (P := P) (l := l) (m := m) (by omega) hp; omega
theorem cnt_zero {P : Nat → Bool} : ∀ {m : Nat}, (∀ l, l < m → P l = false) → cnt P m = 0
  | 0, _ => rfl
  | m + 1, h => by simp only [cnt]; rw [cnt_zero (fun k hk => h k (by omega)), h m (by omega)]; simp
/-- what stays -/
def fr (fs as : List Nat) (X Y : St) : Prop := (∀ k, k ∉ fs → Y.1 k = X.1 k) ∧ ∀ j, j ∉ as → Y.2 j = X.2 j
theorem fr_rf {fs as : List Nat} {X : St} : fr fs as X X := ⟨fun _ _ => rfl, fun _ _ => rfl⟩
theorem fr_tr {fs as : List Nat} {X Y Z : St} (h : fr fs as X Y) (g : fr fs as Y Z) : fr fs as X Z := ⟨fun k hk => (g.1 k hk).trans (h.1 k hk), fun k hk => (g.2 k hk).trans (h.2 k hk)⟩
theorem fr_mo {fs as fs' as' : List Nat} {X Y : St} (h : fr fs as X Y) (h1 : ∀ k ∈ fs, k ∈ fs') (h2 : ∀ k ∈ as, k ∈ as') : fr fs' as' X Y := ⟨fun k hk => h.1 k (fun q => hk (h1 k q)), fun k hk => h.2 k (fun q => hk (h2 k q))⟩
theorem fr_F {fs as : List Nat} {X Y : St} {k : Nat} {x : Int32} (hk : k ∈ fs) (h : fr fs as X Y) : fr fs as X (sF Y k x) := ⟨fun j hj => by
  have : j ≠ k := fun e => hj (e ▸ hk)
  show upd Y.1 k x j = X.1 j
  rw [pk_un this]; exact h.1 j hj, h.2⟩
theorem fr_A {fs as : List Nat} {X Y : St} {k i : Nat} {x : Int32} (hk : k ∈ as) (h : fr fs as X Y) : fr fs as X (sA Y k i x) := ⟨h.1, fun j hj => by
  have : j ≠ k := fun e => hj (e ▸ hk)
  show (if j = k then _ else Y.2 j) = X.2 j
  rw [if_neg this]; exact h.2 j hj⟩
theorem fr_R {fs as : List Nat} {X Y : St} {k : Nat} {f : Nat → Int32} (hk : k ∈ as) (h : fr fs as X Y) : fr fs as X (sR Y k f) := ⟨h.1, fun j hj => by
  have : j ≠ k := fun e => hj (e ▸ hk)
  show (if j = k then _ else Y.2 j) = X.2 j
  rw [if_neg this]; exact h.2 j hj⟩
theorem sA1 {S : St} {k i : Nat} {x : Int32} : (sA S k i x).1 = S.1 := rfl
theorem sF2 {S : St} {k : Nat} {x : Int32} : (sF S k x).2 = S.2 := rfl
theorem sR1 {S : St} {k : Nat} {f : Nat → Int32} : (sR S k f).1 = S.1 := rfl
theorem sAs {S : St} {k i : Nat} {x : Int32} : (sA S k i x).2 k = upd (S.2 k) i x := if_pos rfl
theorem sAn {S : St} {k i j : Nat} {x : Int32} (h : j ≠ k) : (sA S k i x).2 j = S.2 j := if_neg h
theorem sRs {S : St} {k : Nat} {f : Nat → Int32} : (sR S k f).2 k = f := if_pos rfl
theorem sRn {S : St} {k j : Nat} {f : Nat → Int32} (h : j ≠ k) : (sR S k f).2 j = S.2 j := if_neg h
theorem sFs {S : St} {k : Nat} {x : Int32} : (sF S k x).1 k = x := if_pos rfl
theorem sFn {S : St} {k j : Nat} {x : Int32} (h : j ≠ k) : (sF S k x).1 j = S.1 j := if_neg h
/-- bits -/
def bts (x : Int32) (e : Nat → Nat) : Prop := ∃ b, b < 256 ∧ x = nI b ∧ ∀ k, k < 8 → b.testBit k = decide (0 < e k)
theorem bt_get : ∀ b, b < 256 → ∀ k, k < 8 → (decide (((nI b) >>> ((nI k) &&& 31)) &&& (1 : Int32) = (1 : Int32))) = b.testBit k := by decide +kernel
theorem bt_set : ∀ b, b < 256 → ∀ k, k < 8 → ((nI b) ||| ((1 : Int32) <<< ((nI k) &&& 31))) = nI (b ||| 2 ^ k) := by decide +kernel
theorem bt_clr : ∀ b, b < 256 → ∀ k, k < 8 → ((nI b) &&& (((1 : Int32) <<< ((nI k) &&& 31)) ^^^ (-1 : Int32))) = nI (b &&& (255 - 2 ^ k)) := by decide +kernel
theorem bt_m : ∀ k, k < 8 → ∀ j, j < 8 → (255 - 2 ^ k).testBit j = !(decide (j = k)) := by decide +kernel
theorem bt_p : ∀ k, k < 8 → ∀ j, j < 8 → (2 ^ k).testBit j = decide (j = k) := by decide +kernel
theorem bt_orlt {b k : Nat} (h : b < 256) (hk : k < 8) : b ||| 2 ^ k < 256 := Nat.or_lt_two_pow (n := 8) h (Nat.pow_lt_pow_right (by decide) hk)
theorem bt_ext : ∀ {a b : Nat}, a < 256 → b < 256 → (∀ k, k < 8 → a.testBit k = b.testBit k) → a = b := by
  intro a b ha hb h
  apply Nat.eq_of_testBit_eq
  intro i
  by_cases hi : i < 8
  · exact h i hi
  · rw [Nat.testBit_lt_two_pow (Nat.lt_of_lt_of_le ha (Nat.pow_le_pow_right (n := 2) (i := 8) (by decide) (by omega))), Nat.testBit_lt_two_pow (Nat.lt_of_lt_of_le hb (Nat.pow_le_pow_right (n := 2) (i := 8) (by decide) (by omega)))]
