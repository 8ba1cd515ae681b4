/-! dealings of a small net: which numbers of copies can be reached -/
def nw (e : Nat → Nat → Nat) (p t : Nat) : Nat := if 0 < e p t then 0 else 1
def upL (d : Nat → Nat) (t : Nat) : Nat → Nat := fun s => if s = t then d t + 1 else d s
def Rch (n R : Nat) : List (Nat × Nat) → (Nat → Nat) → (Nat → Nat → Nat) → Nat → Nat → Prop
  | [], _, _, c, r => r = c
  | q :: L, d, e, c, r => ∃ t, t < n ∧ d t < R ∧ Rch n R L (upL d t) (bmp (bmp e q.1 t) q.2 t) (c + (nw e q.1 t + nw e q.2 t)) r
theorem nw_le {e : Nat → Nat → Nat} {p t : Nat} : nw e p t ≤ 1 := by unfold nw; split <;> omega
theorem Rch_lb {n R : Nat} : ∀ {L : List (Nat × Nat)} {d : Nat → Nat} {e : Nat → Nat → Nat} {c r : Nat}, Rch n R L d e c r → c ≤ r
  | [], _, _, c, r, h => by simp only [Rch] at h; omega
  | q :: L, d, e, c, r, h => by
    obtain ⟨t, h1, h2, h3⟩ := h
    have := Rch_lb h3
    omega
theorem Rch_ub {n R : Nat} : ∀ {L : List (Nat × Nat)} {d : Nat → Nat} {e : Nat → Nat → Nat} {c r : Nat}, Rch n R L d e c r → r ≤ c + 2 * L.length
  | [], _, _, c, r, h => by simp only [Rch] at h; simp; omega
  | q :: L, d, e, c, r, h => by
    obtain ⟨t, h1, h2, h3⟩ := h
    have := Rch_ub h3
    have a := nw_le (e := e) (p := q.1) (t := t)
    have b := nw_le (e := e) (p := q.2) (t := t)
    simp only [List.length_cons]
    omega
theorem sm_upL {d : Nat → Nat} {t n : Nat} (ht : t < n) : sm (upL d t) n = sm d n + 1 := by
  have := sm_change (f := d) (g := upL d t) (k := t) (n := n) ht (fun j _ hj => by unfold upL; rw [if_neg hj])
  have h2 : upL d t t = d t + 1 := by unfold upL; rw [if_pos rfl]
  omega
theorem Rch_ex {n R : Nat} : ∀ {L : List (Nat × Nat)} {d : Nat → Nat} {e : Nat → Nat → Nat} {c : Nat}, sm d n + L.length ≤ n * R → ∃ r, Rch n R L d e c r
  | [], _, _, c, _ => ⟨c, rfl⟩
  | q :: L, d, e, c, h => by
    simp only [List.length_cons] at h
    have ht : ∃ t, t < n ∧ d t < R := by
      refine Classical.byContradiction fun hc => ?_
      have := sm_lb (f := d) (b := R) (n := n) (fun k hk => Nat.not_lt.mp (fun z => hc ⟨k, hk, z⟩))
      omega
    obtain ⟨t, h1, h2⟩ := ht
    obtain ⟨r, hr⟩ := Rch_ex (n := n) (R := R) (L := L) (d := upL d t) (e := bmp (bmp e q.1 t) q.2 t) (c := c + (nw e q.1 t + nw e q.2 t)) (by rw [sm_upL h1]; omega)
    exact ⟨r, t, h1, h2, hr⟩
/-- two hosts change places -/
def sw (i j t : Nat) : Nat := if t = i then j else if t = j then i else t
theorem sw_sw {i j t : Nat} : sw i j (sw i j t) = t := by
  unfold sw
  by_cases h1 : t = i
  · subst h1
    by_cases h2 : j = t
    · simp [h2]
    · simp [h2]
  · by_cases h2 : t = j
    · subst h2; simp [h1]
    · simp [h1, h2]
theorem sw_eq {i j s t : Nat} : s = sw i j t ↔ sw i j s = t := by
  constructor
  · intro h; rw [h]; exact sw_sw
  · intro h; rw [← h]; exact sw_sw.symm
theorem sw_lt {i j t n : Nat} (hi : i < n) (hj : j < n) (ht : t < n) : sw i j t < n := by
  unfold sw; split
  · exact hj
  · split
    · exact hi
    · exact ht
theorem upL_sw {d : Nat → Nat} {i j t : Nat} : upL (fun s => d (sw i j s)) (sw i j t) = fun s => upL d t (sw i j s) := by
  funext s
  unfold upL
  by_cases h : s = sw i j t
  · have h2 := sw_eq.mp h
    simp only [h2, if_true, if_pos h, sw_sw]
  · have h2 : ¬ sw i j s = t := fun z => h (sw_eq.mpr z)
    simp only [if_neg h, if_neg h2]
theorem bmp_sw {e : Nat → Nat → Nat} {i j t p : Nat} : bmp (fun q s => e q (sw i j s)) p (sw i j t) = fun q s => bmp e p t q (sw i j s) := by
  funext q s
  unfold bmp
  by_cases h : q = p ∧ s = sw i j t
  · have h2 := sw_eq.mp h.2
    rw [if_pos h, if_pos ⟨h.1, h2⟩]
    show e p (sw i j (sw i j t)) + 1 = _
    rw [sw_sw]
  · rw [if_neg h, if_neg (fun z => h ⟨z.1, sw_eq.mpr z.2⟩)]
theorem Rch_sw {n R i j : Nat} (hi : i < n) (hj : j < n) : ∀ {L : List (Nat × Nat)} {d : Nat → Nat} {e : Nat → Nat → Nat} {c r : Nat}, Rch n R L d e c r → Rch n R L (fun s => d (sw i j s)) (fun p s => e p (sw i j s)) c r
  | [], _, _, c, r, h => h
  | q :: L, d, e, c, r, h => by
    obtain ⟨t, h1, h2, h3⟩ := h
    refine ⟨sw i j t, sw_lt hi hj h1, by simp only [sw_sw]; exact h2, ?_⟩
    have := Rch_sw hi hj h3
    have e1 : upL (fun s => d (sw i j s)) (sw i j t) = fun s => upL d t (sw i j s) := upL_sw
    have e2 : bmp (bmp (fun q s => e q (sw i j s)) q.1 (sw i j t)) q.2 (sw i j t) = fun p s => bmp (bmp e q.1 t) q.2 t p (sw i j s) := by rw [bmp_sw, bmp_sw]
    have e3 : ∀ p, nw (fun q s => e q (sw i j s)) p (sw i j t) = nw e p t := fun p => by unfold nw; simp only [sw_sw]
    rw [e1, e2, e3, e3]
    exact this
theorem Rch_mv {n R i j : Nat} {L : List (Nat × Nat)} {d : Nat → Nat} {e : Nat → Nat → Nat} {a b c r : Nat} (hi : i < n) (hj : j < n) (hd : ∀ s, d (sw i j s) = d s) (he : ∀ p s, e p (sw i j s) = e p s) (h : Rch n R L (upL d i) (bmp (bmp e a i) b i) c r) : Rch n R L (upL d j) (bmp (bmp e a j) b j) c r := by
  have h2 := Rch_sw hi hj h
  have ei : sw i j j = i := by unfold sw; split <;> simp_all
  have ej : sw i j i = j := by unfold sw; rw [if_pos rfl]
  have e1 : (fun s => upL d i (sw i j s)) = upL d j := by
    have := upL_sw (d := d) (i := i) (j := j) (t := i)
    rw [ej] at this
    rw [← this]
    have : (fun s => d (sw i j s)) = d := funext hd
    rw [this]
  have e2 : (fun p s => bmp (bmp e a i) b i p (sw i j s)) = bmp (bmp e a j) b j := by
    have hh : (fun q s => e q (sw i j s)) = e := by funext p s; exact he p s
    have h1 := bmp_sw (e := e) (i := i) (j := j) (t := i) (p := a)
    have h2 := bmp_sw (e := bmp e a i) (i := i) (j := j) (t := i) (p := b)
    rw [ej, hh] at h1
    rw [ej, ← h1] at h2
    exact h2.symm
  rw [e1, e2] at h2
  exact h2
/-- a dealing by its code -/
def rnC (n R : Nat) : List (Nat × Nat) → Nat → (Nat → Nat) → (Nat → Nat → Nat) → Nat → Option Nat
  | [], _, _, _, c => some c
  | q :: L, code, d, e, c => if d (code % n) < R then rnC n R L (code / n) (upL d (code % n)) (bmp (bmp e q.1 (code % n)) q.2 (code % n)) (c + (nw e q.1 (code % n) + nw e q.2 (code % n))) else none
theorem rnC_ok {n R : Nat} (hn : 0 < n) : ∀ {L : List (Nat × Nat)} {code : Nat} {d : Nat → Nat} {e : Nat → Nat → Nat} {c r : Nat}, rnC n R L code d e c = some r → Rch n R L d e c r
  | [], _, _, _, c, r, h => by simp only [rnC] at h; cases h; rfl
  | q :: L, code, d, e, c, r, h => by
    simp only [rnC] at h
    split at h
    · rename_i hd
      exact ⟨code % n, Nat.mod_lt _ hn, hd, rnC_ok hn h⟩
    · cases h
theorem rnC_of {n R : Nat} (hn : 0 < n) : ∀ {L : List (Nat × Nat)} {d : Nat → Nat} {e : Nat → Nat → Nat} {c r : Nat}, Rch n R L d e c r → ∃ code, code < n ^ L.length ∧ rnC n R L code d e c = some r
  | [], _, _, c, r, h => by
    simp only [Rch] at h
    exact ⟨0, by simp, by simp only [rnC]; rw [h]⟩
  | q :: L, d, e, c, r, h => by
    obtain ⟨t, h1, h2, h3⟩ := h
    obtain ⟨k, k1, k2⟩ := rnC_of hn h3
    have a1 : (t + n * k) % n = t := by rw [Nat.add_mul_mod_self_left, Nat.mod_eq_of_lt h1]
    have a2 : (t + n * k) / n = k := by rw [Nat.add_mul_div_left _ _ hn, Nat.div_eq_of_lt h1]; omega
    refine ⟨t + n * k, ?_, ?_⟩
    · simp only [List.length_cons, Nat.pow_succ]
      have : n * k + n ≤ n * n ^ L.length := by
        have := Nat.mul_le_mul_left n (show k + 1 ≤ n ^ L.length by omega)
        rw [Nat.mul_add, Nat.mul_one] at this; exact this
      rw [Nat.mul_comm (n ^ L.length) n]
      omega
    · simp only [rnC]
      rw [a1, a2, if_pos h2]; exact k2
/-- the live lines from l on, as pairs of points -/
def lst (u v : Nat → Nat) (h : Nat → Option Nat) : Nat → Nat → List (Nat × Nat)
  | 0, _ => []
  | j + 1, l => if (h l).isSome = true then (u l, v l) :: lst u v h j (l + 1) else lst u v h j (l + 1)
theorem lst_len {u v : Nat → Nat} {h : Nat → Option Nat} : ∀ {j l : Nat}, (lst u v h j l).length + cnt (fun a => (h a).isSome) l = cnt (fun a => (h a).isSome) (l + j)
  | 0, l => by simp [lst]
  | j + 1, l => by
    simp only [lst]
    have ih := lst_len (u := u) (v := v) (h := h) (j := j) (l := l + 1)
    have e1 : cnt (fun a => (h a).isSome) (l + 1) = cnt (fun a => (h a).isSome) l + (if (h l).isSome = true then 1 else 0) := rfl
    have e2 : l + (j + 1) = l + 1 + j := by omega
    rw [e2, ← ih]
    by_cases c : (h l).isSome = true
    · rw [if_pos c] at e1 ⊢; simp only [List.length_cons]; omega
    · rw [if_neg c] at e1 ⊢; omega
theorem lst_ab {u v : Nat → Nat} {h : Nat → Option Nat} {m : Nat} (hp : ∀ l, l < m → u l < 40 ∧ v l < 40 ∧ u l ≠ v l) : ∀ {j l : Nat}, l + j ≤ m → ∀ q ∈ lst u v h j l, q.1 < 40 ∧ q.2 < 40 ∧ q.1 ≠ q.2
  | 0, l, _, q, hq => by simp [lst] at hq
  | j + 1, l, hl, q, hq => by
    simp only [lst] at hq
    have ih := lst_ab (h := h) hp (j := j) (l := l + 1) (by omega)
    split at hq
    · rcases List.mem_cons.mp hq with z | z
      · rw [z]; exact hp l (by omega)
      · exact ih q z
    · exact ih q hq
theorem liv_cnt {n : Nat} {u v : Nat → Nat} {h : Nat → Option Nat} : ∀ {m : Nat}, (∀ l, l < m → ∀ k, h l = some k → k < 8) → cnt (fun a => (h a).isSome) m = sm (ld h m) 8
  | 0, _ => (sm_0 (fun _ _ => rfl)).symm
  | m + 1, hk => by
    have ih := liv_cnt (n := n) (u := u) (v := v) (h := h) (m := m) (fun l hl => hk l (by omega))
    have e1 : cnt (fun a => (h a).isSome) (m + 1) = cnt (fun a => (h a).isSome) m + (if (h m).isSome = true then 1 else 0) := rfl
    rw [e1, ih]
    cases c : h m with
    | none =>
      have : sm (ld h (m + 1)) 8 = sm (ld h m) 8 := sm_congr (fun k _ => by
        show cnt _ m + (if (h m == some k) = true then 1 else 0) = cnt _ m
        rw [c]; simp)
      rw [this]; rfl
    | some d =>
      have hd := hk m (by omega) d c
      have := sm_change (f := ld h m) (g := ld h (m + 1)) (k := d) (n := 8) hd (fun j _ hj => by
        show cnt _ m + (if (h m == some j) = true then 1 else 0) = cnt _ m
        rw [c]
        have : (some d == some j) = false := by simp; omega
        rw [this]; simp)
      have h2 : ld h (m + 1) d = ld h m d + 1 := by
        show cnt _ m + (if (h m == some d) = true then 1 else 0) = cnt _ m + 1
        rw [c]; simp
      rw [if_pos (show (some d).isSome = true from rfl)]
      omega
