/-! a run: values of points, round by round -/
def lo (g : Nat → Nat) (p x : Nat) : Nat → Nat := fun j => if j = p ∧ x < g p then x else g j
def rnd (f u v : Nat → Nat) (h : Nat → Option Nat) : Nat → Nat → Nat
  | 0 => f
  | l + 1 => if (h l).isSome = true then lo (lo (rnd f u v h l) (u l) (f (v l))) (v l) (f (u l)) else rnd f u v h l
def sq (m : Nat) (u v : Nat → Nat) (h : Nat → Option Nat) : Nat → Nat → Nat
  | 0 => fun p => p
  | t + 1 => rnd (sq m u v h t) u v h m
def dif (f g : Nat → Nat) (q : Nat) : Nat := cnt (fun p => decide (g p ≠ f p)) q
def flg (d : Nat) : Int32 := if d = 0 then 0 else 1
theorem lo_le {g : Nat → Nat} {p x j : Nat} : lo g p x j ≤ g j := by
  unfold lo; split
  · rename_i h; rw [h.1]; omega
  · omega
theorem lo_s {g : Nat → Nat} {p x : Nat} : lo g p x p ≤ x := by
  unfold lo
  by_cases h : x < g p
  · rw [if_pos ⟨rfl, h⟩]; omega
  · rw [if_neg (fun z => h z.2)]; omega
theorem lo_or {g : Nat → Nat} {p x j : Nat} : lo g p x j = g j ∨ (j = p ∧ lo g p x j = x) := by
  unfold lo; split
  · rename_i h; exact Or.inr ⟨h.1, rfl⟩
  · exact Or.inl rfl
theorem rnd_le {f u v : Nat → Nat} {h : Nat → Option Nat} {p : Nat} : ∀ {l : Nat}, rnd f u v h l p ≤ f p
  | 0 => Nat.le_refl _
  | l + 1 => by
    simp only [rnd]
    have := rnd_le (f := f) (u := u) (v := v) (h := h) (p := p) (l := l)
    split
    · exact Nat.le_trans lo_le (Nat.le_trans lo_le this)
    · exact this
theorem rnd_nb {f u v : Nat → Nat} {h : Nat → Option Nat} {a : Nat} : ∀ {l : Nat}, a < l → (h a).isSome = true → rnd f u v h l (u a) ≤ f (v a) ∧ rnd f u v h l (v a) ≤ f (u a)
  | 0, h, _ => by omega
  | l + 1, hl, hs => by
    simp only [rnd]
    by_cases e : a = l
    · subst e
      rw [if_pos hs]
      exact ⟨Nat.le_trans lo_le lo_s, lo_s⟩
    · have ih := rnd_nb (f := f) (u := u) (v := v) (h := h) (a := a) (l := l) (by omega) hs
      split
      · exact ⟨Nat.le_trans lo_le (Nat.le_trans lo_le ih.1), Nat.le_trans lo_le (Nat.le_trans lo_le ih.2)⟩
      · exact ih
theorem rnd_or {f u v : Nat → Nat} {h : Nat → Option Nat} {p : Nat} : ∀ {l : Nat}, rnd f u v h l p = f p ∨ ∃ a, a < l ∧ (h a).isSome = true ∧ ((p = u a ∧ rnd f u v h l p = f (v a)) ∨ (p = v a ∧ rnd f u v h l p = f (u a)))
  | 0 => Or.inl rfl
  | l + 1 => by
    simp only [rnd]
    have ih := rnd_or (f := f) (u := u) (v := v) (h := h) (p := p) (l := l)
    have up : ∀ y, (y = f p ∨ ∃ a, a < l ∧ (h a).isSome = true ∧ ((p = u a ∧ y = f (v a)) ∨ (p = v a ∧ y = f (u a)))) → (y = f p ∨ ∃ a, a < l + 1 ∧ (h a).isSome = true ∧ ((p = u a ∧ y = f (v a)) ∨ (p = v a ∧ y = f (u a)))) := by
      rintro y (z | ⟨a, z1, z2⟩)
      · exact Or.inl z
      · exact Or.inr ⟨a, by omega, z2⟩
    by_cases c : (h l).isSome = true
    · rw [if_pos c]
      rcases lo_or (g := lo (rnd f u v h l) (u l) (f (v l))) (p := v l) (x := f (u l)) (j := p) with z | ⟨z1, z2⟩
      · rw [z]
        rcases lo_or (g := rnd f u v h l) (p := u l) (x := f (v l)) (j := p) with y | ⟨y1, y2⟩
        · rw [y]; exact up _ ih
        · exact Or.inr ⟨l, by omega, c, Or.inl ⟨y1, y2⟩⟩
      · exact Or.inr ⟨l, by omega, c, Or.inr ⟨z1, z2⟩⟩
    · rw [if_neg c]; exact up _ ih
theorem rnd_congr {f g u v : Nat → Nat} {h : Nat → Option Nat} {m : Nat} (hu : ∀ l, l < m → u l < 40 ∧ v l < 40) (hfg : ∀ p, p < 40 → f p = g p) : ∀ {l : Nat}, l ≤ m → ∀ p, p < 40 → rnd f u v h l p = rnd g u v h l p
  | 0, _, p, hp => hfg p hp
  | l + 1, hl, p, hp => by
    simp only [rnd]
    have ih := rnd_congr (h := h) hu hfg (l := l) (by omega)
    obtain ⟨a, b⟩ := hu l (by omega)
    split
    · unfold lo
      rw [hfg _ a, hfg _ b, ih p hp, ih _ a, ih _ b]
    · exact ih p hp
theorem cnt_mono {P Q : Nat → Bool} : ∀ {m : Nat}, (∀ l, l < m → P l = true → Q l = true) → cnt P m ≤ cnt Q m
  | 0, _ => Nat.le_refl _
  | m + 1, h => by
    simp only [cnt]
    have ih := cnt_mono (P := P) (Q := Q) (m := m) (fun l hl => h l (by omega))
    have := h m (by omega)
    by_cases c : P m = true
    · rw [if_pos c, if_pos (this c)]; omega
    · rw [if_neg c]; omega
theorem cnt_more {P Q : Nat → Bool} {q : Nat} : ∀ {m : Nat}, q < m → (∀ l, l < m → P l = true → Q l = true) → P q = false → Q q = true → cnt P m < cnt Q m
  | 0, h, _, _, _ => by omega
  | m + 1, hq, h, hp, hQ => by
    simp only [cnt]
    by_cases e : q = m
    · subst e
      have ih := cnt_mono (P := P) (Q := Q) (m := q) (fun l hl => h l (by omega))
      rw [hp, hQ]; simp; omega
    · have ih := cnt_more (P := P) (Q := Q) (q := q) (m := m) (by omega) (fun l hl => h l (by omega)) hp hQ
      have := h m (by omega)
      by_cases c : P m = true
      · rw [if_pos c, if_pos (this c)]; omega
      · rw [if_neg c]; omega
theorem sq_lt {m : Nat} {u v : Nat → Nat} {h : Nat → Option Nat} {p : Nat} (hp : p < 40) : ∀ {t : Nat}, sq m u v h t p < 40
  | 0 => hp
  | t + 1 => Nat.lt_of_le_of_lt rnd_le (sq_lt hp)
theorem sq_step {m : Nat} {u v : Nat → Nat} {h : Nat → Option Nat} {t p : Nat} (hc : sq m u v h (t + 1) p ≠ sq m u v h t p) : sq m u v h (t + 1) p < sq m u v h t p := by
  have : sq m u v h (t + 1) p ≤ sq m u v h t p := rnd_le
  omega
/-- a value that spreads has been taken by one more point in each round -/
theorem sq_cnt {m : Nat} {u v : Nat → Nat} {h : Nat → Option Nat} (hu : ∀ l, l < m → u l < 40 ∧ v l < 40) : ∀ {t p : Nat}, p < 40 → sq m u v h (t + 1) p ≠ sq m u v h t p → t + 1 ≤ cnt (fun q => decide (sq m u v h t q ≤ sq m u v h (t + 1) p)) 40
  | 0, p, hp, hc => by
    have h1 := sq_step hc
    have h2 : sq m u v h 1 p < 40 := sq_lt hp
    exact cnt_pos (l := sq m u v h 1 p) h2 (decide_eq_true (Nat.le_refl _))
  | t + 1, p, hp, hc => by
    have h1 := sq_step hc
    have key : ∃ q, q < 40 ∧ sq m u v h (t + 1) q = sq m u v h (t + 1 + 1) p ∧ sq m u v h (t + 1) q ≠ sq m u v h t q := by
      rcases rnd_or (f := sq m u v h (t + 1)) (u := u) (v := v) (h := h) (p := p) (l := m) with z | ⟨a, a1, a2, z⟩
      · exact absurd z hc
      · have hn := rnd_nb (f := sq m u v h t) (u := u) (v := v) (h := h) (a := a) (l := m) a1 a2
        rcases z with ⟨z1, z2⟩ | ⟨z1, z2⟩
        · refine ⟨v a, (hu a a1).2, z2.symm, fun y => ?_⟩
          have hb : sq m u v h (t + 1) p ≤ sq m u v h t (v a) := by rw [z1]; exact hn.1
          have hz : sq m u v h (t + 1 + 1) p = sq m u v h (t + 1) (v a) := z2
          omega
        · refine ⟨u a, (hu a a1).1, z2.symm, fun y => ?_⟩
          have hb : sq m u v h (t + 1) p ≤ sq m u v h t (u a) := by rw [z1]; exact hn.2
          have hz : sq m u v h (t + 1 + 1) p = sq m u v h (t + 1) (u a) := z2
          omega
    obtain ⟨q, q1, q2, q3⟩ := key
    have ih := sq_cnt (h := h) hu (t := t) (p := q) q1 q3
    have h3 := sq_step q3
    rw [q2] at ih h3
    have := cnt_more (P := fun j => decide (sq m u v h t j ≤ sq m u v h (t + 1 + 1) p)) (Q := fun j => decide (sq m u v h (t + 1) j ≤ sq m u v h (t + 1 + 1) p)) (q := q) (m := 40) q1 (fun l hl hd => decide_eq_true (Nat.le_trans rnd_le (of_decide_eq_true hd))) (decide_eq_false (by omega)) (decide_eq_true (by omega))
    omega
theorem dif_z {f g : Nat → Nat} {q : Nat} : dif f g q = 0 ↔ ∀ p, p < q → g p = f p := by
  constructor
  · intro h p hp
    refine Classical.byContradiction fun c => ?_
    have := cnt_pos (P := fun p => decide (g p ≠ f p)) (l := p) (m := q) hp (decide_eq_true c)
    unfold dif at h
    omega
  · intro h
    exact cnt_zero (fun l hl => decide_eq_false (fun c => c (h l hl)))
theorem sq_end {m : Nat} {u v : Nat → Nat} {h : Nat → Option Nat} (hu : ∀ l, l < m → u l < 40 ∧ v l < 40) : ∃ T, T ≤ 40 ∧ dif (sq m u v h T) (sq m u v h (T + 1)) 40 = 0 ∧ ∀ t, t < T → ¬ dif (sq m u v h t) (sq m u v h (t + 1)) 40 = 0 := by
  have h40 : dif (sq m u v h 40) (sq m u v h (40 + 1)) 40 = 0 := dif_z.mpr (fun p hp => by
    refine Classical.byContradiction fun c => ?_
    have := sq_cnt (h := h) hu (t := 40) hp c
    have h2 := cnt_le (P := fun q => decide (sq m u v h 40 q ≤ sq m u v h (40 + 1) p)) (m := 40)
    omega)
  obtain ⟨T, t1, t2⟩ := pk_least (fun t => dif (sq m u v h t) (sq m u v h (t + 1)) 40 = 0) ⟨40, h40⟩
  refine ⟨T, ?_, t1, t2⟩
  refine Nat.not_lt.mp fun c => t2 40 c h40
/-- the class's round -/
theorem lo_no {g : Nat → Nat} {p x : Nat} (c : ¬ x < g p) : lo g p x = g := by
  funext j
  show (if _ then _ else _) = _
  rw [if_neg (fun z => c z.2)]
theorem sp20_ok {g f : Nat → Nat} {X : St} {p q t x : Nat} (h11 : ∀ j, j < 40 → X.2 11 j = nI (g j)) (h12 : ∀ j, j < 40 → X.2 12 j = nI (f j)) (hg : ∀ j, j < 40 → g j < 40) (hp : p < 40) (hq : q < 40) (ht : t < 40) (hx : x < 40) (e : (if nI (f q) < nI (f p) then nI (f q) else nI (f p)) = nI x) : ∃ Y, fX5_spreadAlong_20 (nI p) (nI q) (nI t) X = some (if x < g t then 1 else 0, Y) ∧ (∀ j, j < 40 → Y.2 11 j = nI (lo g t x j)) ∧ fr [] [11] X Y := by
  have := hg t ht
  unfold fX5_spreadAlong_20
  simp only [Lt]
  rw [gA_in hp (by decide), gA_in hq (by decide), ix_nI (show p < 2 ^ 31 by omega), ix_nI (show q < 2 ^ 31 by omega), h12 p hp, h12 q hq, e, gA_in ht (by decide), gA_in ht (by decide), ix_nI (show t < 2 ^ 31 by omega), h11 t ht]
  by_cases c : x < g t
  · rw [if_pos (nI_lt c (by omega)), if_pos c]
    refine ⟨_, rfl, fun j hj => ?_, fr_A (by decide) fr_rf⟩
    rw [sAs]
    unfold lo
    by_cases e : j = t
    · subst e; rw [pk_us, if_pos ⟨rfl, c⟩]
    · rw [pk_un e, if_neg (fun z => e z.1)]; exact h11 j hj
  · rw [if_neg (nI_nlt (by omega) (by omega)), if_neg c]
    refine ⟨X, rfl, fun j hj => ?_, fr_rf⟩
    rw [lo_no c]; exact h11 j hj
/-- along a line only the lower value moves: the other end's can't fall -/
theorem spreadAlong_ok {g f : Nat → Nat} {X : St} {p q : Nat} (h11 : ∀ j, j < 40 → X.2 11 j = nI (g j)) (h12 : ∀ j, j < 40 → X.2 12 j = nI (f j)) (hgf : ∀ j, g j ≤ f j) (hf : ∀ j, j < 40 → f j < 40) (hp : p < 40) (hq : q < 40) : ∃ t x Y, t < 40 ∧ lo (lo g p (f q)) q (f p) = lo g t x ∧ fX5_spreadAlong (nI p) (nI q) X = some (if x < g t then 1 else 0, Y) ∧ (∀ j, j < 40 → Y.2 11 j = nI (lo g t x j)) ∧ fr [] [11] X Y := by
  have hg : ∀ j, j < 40 → g j < 40 := fun j hj => Nat.lt_of_le_of_lt (hgf j) (hf j hj)
  have fp := hf p hp
  have fq := hf q hq
  have gp := hgf p
  have gq := hgf q
  have eS : fX5_spreadAlong (nI p) (nI q) X = if nI (f q) ≤ nI (f p) then fX5_spreadAlong_20 (nI p) (nI q) (nI p) X else fX5_spreadAlong_20 (nI p) (nI q) (nI q) X := by
    unfold fX5_spreadAlong
    rw [gA_in hp (by decide), gA_in hq (by decide), ix_nI (show p < 2 ^ 31 by omega), ix_nI (show q < 2 ^ 31 by omega), h12 p hp, h12 q hq]
  by_cases c : f p < f q
  · obtain ⟨Y, y1, y2, y3⟩ := sp20_ok (p := p) (q := q) (t := q) (x := f p) h11 h12 hg hp hq hq fp (by rw [if_neg (nI_nlt (by omega) (by omega))])
    refine ⟨q, f p, Y, hq, by rw [lo_no (g := g) (p := p) (x := f q) (by omega)], ?_, y2, y3⟩
    rw [eS, if_neg (nI_ge c (by omega))]
    exact y1
  · obtain ⟨Y, y1, y2, y3⟩ := sp20_ok (p := p) (q := q) (t := p) (x := f q) h11 h12 hg hp hq hp fq (by
      by_cases z : f q < f p
      · rw [if_pos (nI_lt z (by omega))]
      · rw [if_neg (nI_nlt (by omega) (by omega))]
        have : f p = f q := by omega
        rw [this])
    refine ⟨p, f q, Y, hp, lo_no (by
      have := lo_le (g := g) (p := p) (x := f q) (j := q)
      omega), ?_, y2, y3⟩
    rw [eS, if_pos (nI_le (by omega) (by omega))]
    exact y1
theorem flg_1 {f g : Nat → Nat} {t x : Nat} (ht : t < 40) (hgf : ∀ j, g j ≤ f j) (c : x < g t) : flg (dif f (lo g t x) 40) = 1 := by
  have h1 := lo_s (g := g) (p := t) (x := x)
  have h2 := hgf t
  have h3 : 0 < dif f (lo g t x) 40 := cnt_pos (l := t) ht (decide_eq_true (by omega))
  unfold flg
  rw [if_neg (by omega)]
theorem goX_l {n m : Nat} {u v : Nat → Nat} {h : Nat → Option Nat} {f : Nat → Nat} (i : IN n m u v h) (hf : ∀ j, j < 40 → f j < 40) : ∀ (j l N : Nat) (X : St), l + j = m → j < N → RC n m u v h X → (∀ p, p < 40 → X.2 12 p = nI (f p)) → (∀ p, p < 40 → X.2 11 p = nI (rnd f u v h l p)) → ∃ Y, fX5_goOneRound_19 N (flg (dif f (rnd f u v h l) 40)) (nI l) X = some (flg (dif f (rnd f u v h m) 40), Y) ∧ (∀ p, p < 40 → Y.2 11 p = nI (rnd f u v h m p)) ∧ fr [] [11] X Y := by
  have hm := i.2.2.1
  intro j
  induction j with
  | zero =>
    intro l N X hl hN r h12 h11
    obtain ⟨N, rfl⟩ : ∃ K, N = K + 1 := ⟨N - 1, by omega⟩
    have e : l = m := by omega
    subst e
    refine ⟨X, ?_, h11, fr_rf⟩
    show fX5_goOneRound_19_b _ _ _ _ = _
    unfold fX5_goOneRound_19_b
    rw [r.1.2.1, if_pos (Int32.le_refl _)]
    unfold flg
    split <;> rfl
  | succ j ih =>
    intro l N X hl hN r h12 h11
    obtain ⟨N, rfl⟩ : ∃ K, N = K + 1 := ⟨N - 1, by omega⟩
    obtain ⟨pu, pv, -⟩ := i.2.2.2.1 l (by omega)
    show ∃ Y, fX5_goOneRound_19_b _ _ _ _ = _ ∧ _
    unfold fX5_goOneRound_19_b fX5_goOneRound_68
    rw [r.1.2.1, if_neg (nI_ge (by omega) (by omega)), Bd_eq (isLive_in i r (by omega)), nI_1]
    by_cases c : (h l).isSome = true
    · obtain ⟨t, x, Y1, t40, e0, y1, y2, y3⟩ := spreadAlong_ok (g := rnd f u v h l) (p := u l) (q := v l) h11 h12 (fun j => rnd_le) hf pu pv
      have e1 : rnd f u v h (l + 1) = lo (rnd f u v h l) t x := by rw [← e0]; simp only [rnd]; rw [if_pos c]
      obtain ⟨Y, w1, w2, w3⟩ := ih (l + 1) N Y1 (by omega) (by omega) (RC_of_fr r y3 (by decide) (by decide)) (fun p hp => by rw [y3.2 12 (by decide)]; exact h12 p hp) (by rw [e1]; exact y2)
      refine ⟨Y, ?_, w2, fr_tr y3 w3⟩
      rw [if_pos c, if_neg n10, gA_in (by omega) (by decide), gA_in (by omega) (by decide), ix_nI (show l < 2 ^ 31 by omega), r.2.1 l (by omega), r.2.2.1 l (by omega), Bd_eq y1]
      rw [e1] at w1
      by_cases cx : x < rnd f u v h l t
      · rw [if_pos cx, if_neg n10]
        rw [flg_1 (f := f) (g := rnd f u v h l) t40 (fun j => rnd_le) cx] at w1
        exact w1
      · rw [if_neg cx, if_pos rfl]
        rw [lo_no (g := rnd f u v h l) cx] at w1
        exact w1
    · have e1 : rnd f u v h (l + 1) = rnd f u v h l := by simp only [rnd]; rw [if_neg c]
      rw [if_neg c, if_pos rfl, ← e1]
      exact ih (l + 1) N X (by omega) (by omega) r h12 (by rw [e1]; exact h11)
theorem goX_ok {n m : Nat} {u v : Nat → Nat} {h : Nat → Option Nat} {f : Nat → Nat} {X : St} (i : IN n m u v h) (hf : ∀ j, j < 40 → f j < 40) (r : RC n m u v h X) (h11 : ∀ p, p < 40 → X.2 11 p = nI (f p)) : ∃ Y, fX5_goOneRound X = some (flg (dif f (rnd f u v h m) 40), Y) ∧ (∀ p, p < 40 → Y.2 11 p = nI (rnd f u v h m p)) ∧ fr [] [11, 12] X Y := by
  have hm := i.2.2.1
  have f0 : fr [] [11, 12] X (sR X 12 (va_cpy (X.2 11) (X.2 12) 0 0 40)) := fr_R (by decide) fr_rf
  obtain ⟨Y, a1, a2, a3⟩ := goX_l i hf m 0 FU (sR X 12 (va_cpy (X.2 11) (X.2 12) 0 0 40)) (by omega) (by have := FU_gt; omega) (RC_of_fr r f0 (by decide) (by decide)) (fun p hp => by
    rw [sRs, pk_cpy_in (by omega) (by omega)]
    have : 0 + (p - 0) = p := by omega
    rw [this]; exact h11 p hp) (fun p hp => by rw [sRn (by decide)]; exact h11 p hp)
  refine ⟨Y, ?_, a2, fr_tr f0 (fr_mo a3 (by decide) (by decide))⟩
  unfold fX5_goOneRound
  simp only [LtS]
  have : flg (dif f (rnd f u v h 0) 40) = 0 := by
    have : dif f (rnd f u v h 0) 40 = 0 := dif_z.mpr (fun _ _ => rfl)
    rw [this]; rfl
  rw [this] at a1
  exact a1
theorem spX_l {n m : Nat} {u v : Nat → Nat} {h : Nat → Option Nat} {T : Nat} (i : IN n m u v h) (hT : T ≤ 40) (hz : dif (sq m u v h T) (sq m u v h (T + 1)) 40 = 0) (hnz : ∀ t, t < T → ¬ dif (sq m u v h t) (sq m u v h (t + 1)) 40 = 0) : ∀ (j t N : Nat) (X : St), t + j = T → j + 1 < N → RC n m u v h X → X.1 16 = nI t → (∀ p, p < 40 → X.2 11 p = nI (sq m u v h t p)) → ∃ Y, fX5_spread_28 N 1 X = some (0, Y) ∧ Y.1 16 = nI (T + 1) ∧ (∀ p, p < 40 → Y.2 11 p = nI (sq m u v h (T + 1) p)) ∧ fr [16] [11, 12] X Y := by
  intro j
  induction j with
  | zero =>
    intro t N X ht hN r h16 h11
    obtain ⟨N, rfl⟩ : ∃ K, N = K + 2 := ⟨N - 2, by omega⟩
    have e : t = T := by omega
    subst e
    obtain ⟨Y, y1, y2, y3⟩ := goX_ok i (fun p hp => sq_lt hp) r h11
    refine ⟨sF Y 16 (nI (t + 1)), ?_, rfl, y2, fr_F (by decide) (fr_mo y3 (by decide) (by decide))⟩
    show fX5_spread_28_b _ _ _ = _
    unfold fX5_spread_28_b
    rw [if_neg n10, h16, nl40, if_neg (nI_nlt (by omega) (by omega)), Bd_eq y1]
    simp only [LtS]
    rw [y3.1 16 (by decide), h16, nI_1, show flg (dif (sq m u v h t) (rnd (sq m u v h t) u v h m) 40) = 0 from by
      have : dif (sq m u v h t) (rnd (sq m u v h t) u v h m) 40 = 0 := hz
      rw [this]; rfl]
    show fX5_spread_28_b _ _ _ = _
    unfold fX5_spread_28_b
    rw [if_pos rfl]; rfl
  | succ j ih =>
    intro t N X ht hN r h16 h11
    obtain ⟨N, rfl⟩ : ∃ K, N = K + 1 := ⟨N - 1, by omega⟩
    obtain ⟨Y, y1, y2, y3⟩ := goX_ok i (fun p hp => sq_lt hp) r h11
    have fY : fr [16] [11, 12] X (sF Y 16 (nI (t + 1))) := fr_F (by decide) (fr_mo y3 (by decide) (by decide))
    obtain ⟨Z, z1, z2, z3, z4⟩ := ih (t + 1) N (sF Y 16 (nI (t + 1))) (by omega) (by omega) (RC_of_fr r fY (by decide) (by decide)) rfl y2
    refine ⟨Z, ?_, z2, z3, fr_tr fY z4⟩
    show fX5_spread_28_b _ _ _ = _
    unfold fX5_spread_28_b
    rw [if_neg n10, h16, nl40, if_neg (nI_nlt (by omega) (by omega)), Bd_eq y1]
    simp only [LtS]
    rw [y3.1 16 (by decide), h16, nI_1, show flg (dif (sq m u v h t) (rnd (sq m u v h t) u v h m) 40) = 1 from by
      unfold flg
      rw [if_neg (show ¬ dif (sq m u v h t) (rnd (sq m u v h t) u v h m) 40 = 0 from hnz t (by omega))]]
    exact z1
theorem sp0_l : ∀ (j q N : Nat) (X : St), q + j = 40 → j < N → (∀ p, p < q → X.2 11 p = nI p) → ∃ Y, fX5_spread_2 N (nI q) X = fX5_spread_28 FU 1 Y ∧ Y.1 16 = nI 0 ∧ (∀ p, p < 40 → Y.2 11 p = nI p) ∧ fr [16] [11, 12] X Y := by
  intro j
  induction j with
  | zero =>
    intro q N X hq hN h11
    obtain ⟨N, rfl⟩ : ∃ K, N = K + 1 := ⟨N - 1, by omega⟩
    have e : q = 40 := by omega
    subst e
    refine ⟨sF X 16 0, ?_, rfl, h11, fr_F (by decide) fr_rf⟩
    show fX5_spread_2_b _ _ _ = _
    unfold fX5_spread_2_b
    rw [if_pos (by decide)]; rfl
  | succ j ih =>
    intro q N X hq hN h11
    obtain ⟨N, rfl⟩ : ∃ K, N = K + 1 := ⟨N - 1, by omega⟩
    obtain ⟨Y, y1, y2, y3, y4⟩ := ih (q + 1) N (sA X 11 q (nI q)) (by omega) (by omega) (fun p hp => by
      rw [sAs]
      by_cases e : p = q
      · subst e; rw [pk_us]
      · rw [pk_un e]; exact h11 p (by omega))
    refine ⟨Y, ?_, y2, y3, fr_tr (fr_A (by decide) fr_rf) y4⟩
    show fX5_spread_2_b _ _ _ = _
    unfold fX5_spread_2_b
    rw [nl40, if_neg (nI_ge (by omega) (by omega)), gA_in (by omega) (by decide), ix_nI (by omega), nI_1]
    exact y1
theorem spX_ok {n m : Nat} {u v : Nat → Nat} {h : Nat → Option Nat} {T : Nat} {X : St} (i : IN n m u v h) (r : RC n m u v h X) (hT : T ≤ 40) (hz : dif (sq m u v h T) (sq m u v h (T + 1)) 40 = 0) (hnz : ∀ t, t < T → ¬ dif (sq m u v h t) (sq m u v h (t + 1)) 40 = 0) : ∃ Y, fX5_spread X = some (0, Y) ∧ Y.1 16 = nI (T + 1) ∧ (∀ p, p < 40 → Y.2 11 p = nI (sq m u v h (T + 1) p)) ∧ fr [16] [11, 12] X Y := by
  have hF := FU_gt
  obtain ⟨Y, y1, y2, y3, y4⟩ := sp0_l 40 0 FU X (by omega) (by omega) (fun p hp => by omega)
  obtain ⟨Z, z1, z2, z3, z4⟩ := spX_l i hT hz hnz T 0 FU Y (by omega) (by omega) (RC_of_fr r y4 (by decide) (by decide)) y2 y3
  exact ⟨Z, y1.trans z1, z2, z3, fr_tr y4 z4⟩
