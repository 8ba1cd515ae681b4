/-! the better move, as both sides look for it -/
abbrev Mv : Type := Option (Nat × Nat) × Int32 × Int32
def ccc (e : Nat → Nat → Nat) (a b f t : Nat) : Int32 := ((if e a t = 0 then (1 : Int32) else 0) + (if e b t = 0 then 1 else 0)) - ((if e a f = 1 then 1 else 0) + (if e b f = 1 then 1 else 0))
def sss (x y : Nat) : Int32 := (2 : Int32) * ((nI x - nI y) + 1)
def lx (c s C S : Int32) : Prop := c < C ∨ (c = C ∧ s < S)
noncomputable def inn (d : Nat → Nat) (e : Nat → Nat → Nat) (R : Int32) (l a b f : Nat) (B : Mv) : Nat → Mv
  | 0 => B
  | t + 1 => if t ≠ f ∧ nI (d t) < R ∧ (ccc e a b f t < (inn d e R l a b f B t).2.1 ∨ (ccc e a b f t = (inn d e R l a b f B t).2.1 ∧ sss (d t) (d f) < (inn d e R l a b f B t).2.2)) then (some (l, t), ccc e a b f t, sss (d t) (d f)) else inn d e R l a b f B t
noncomputable def out (d : Nat → Nat) (e : Nat → Nat → Nat) (R : Int32) (n : Nat) (u v : Nat → Nat) (h : Nat → Option Nat) : Nat → Mv
  | 0 => (none, 0, 0)
  | l + 1 => match h l with
    | none => out d e R n u v h l
    | some f => inn d e R l (u l) (v l) f (out d e R n u v h l) n
def eL (B : Mv) : Int32 := match B.1 with
  | none => -1
  | some q => nI q.1
def eH (B : Mv) : Int32 := match B.1 with
  | none => 0
  | some q => nI q.2
/-- what a found move is -/
theorem inn_or {d : Nat → Nat} {e : Nat → Nat → Nat} {R : Int32} {l a b f : Nat} {B : Mv} : ∀ {t : Nat}, inn d e R l a b f B t = B ∨ ∃ k, k < t ∧ (inn d e R l a b f B t).1 = some (l, k)
  | 0 => Or.inl rfl
  | t + 1 => by
    simp only [inn]
    split
    · exact Or.inr ⟨t, by omega, rfl⟩
    · rcases inn_or (d := d) (e := e) (R := R) (l := l) (a := a) (b := b) (f := f) (B := B) (t := t) with z | ⟨k, k1, k2⟩
      · exact Or.inl z
      · exact Or.inr ⟨k, by omega, k2⟩
theorem out_ok {d : Nat → Nat} {e : Nat → Nat → Nat} {R : Int32} {n : Nat} {u v : Nat → Nat} {h : Nat → Option Nat} : ∀ {m l t : Nat}, (out d e R n u v h m).1 = some (l, t) → l < m ∧ t < n ∧ ∃ k, h l = some k
  | 0, l, t, z => by simp [out] at z
  | m + 1, l, t, z => by
    simp only [out] at z
    cases c : h m with
    | none =>
      rw [c] at z
      have := out_ok (m := m) z
      exact ⟨by omega, this.2⟩
    | some f =>
      rw [c] at z
      simp only at z
      rcases inn_or (d := d) (e := e) (R := R) (l := m) (a := u m) (b := v m) (f := f) (B := out d e R n u v h m) (t := n) with y | ⟨k, k1, k2⟩
      · rw [y] at z
        have := out_ok (m := m) z
        exact ⟨by omega, this.2⟩
      · rw [k2] at z
        cases z
        exact ⟨by omega, k1, f, c⟩
/-- the move that is held lessens -/
def good (B : Mv) : Prop := match B.1 with
  | none => B.2.1 = 0 ∧ B.2.2 = 0
  | some _ => lx B.2.1 B.2.2 0 0
theorem lx_tr {a b c d e f : Int32} (h1 : lx a b c d) (h2 : lx c d e f) : lx a b e f := by
  unfold lx at *
  rcases h1 with h1 | ⟨h1, h1'⟩ <;> rcases h2 with h2 | ⟨h2, h2'⟩
  · exact Or.inl (Int32.lt_trans h1 h2)
  · exact Or.inl (h2 ▸ h1)
  · exact Or.inl (h1 ▸ h2)
  · exact Or.inr ⟨h1.trans h2, Int32.lt_trans h1' h2'⟩
theorem good_lx {B : Mv} (h : good B) {c s : Int32} (hl : lx c s B.2.1 B.2.2) : lx c s 0 0 := by
  unfold good at h
  cases e : B.1 with
  | none => rw [e] at h; rw [h.1, h.2] at hl; exact hl
  | some q => rw [e] at h; exact lx_tr hl h
theorem inn_good {d : Nat → Nat} {e : Nat → Nat → Nat} {R : Int32} {l a b f : Nat} {B : Mv} (h : good B) : ∀ {t : Nat}, good (inn d e R l a b f B t)
  | 0 => h
  | t + 1 => by
    simp only [inn]
    have ih := inn_good (d := d) (e := e) (R := R) (l := l) (a := a) (b := b) (f := f) h (t := t)
    split
    · rename_i hc
      exact good_lx ih hc.2.2
    · exact ih
theorem out_good {d : Nat → Nat} {e : Nat → Nat → Nat} {R : Int32} {n : Nat} {u v : Nat → Nat} {h : Nat → Option Nat} : ∀ {m : Nat}, good (out d e R n u v h m)
  | 0 => ⟨rfl, rfl⟩
  | m + 1 => by
    simp only [out]
    cases h m with
    | none => exact out_good
    | some f => exact inn_good out_good
/-- if no copies can vanish beyond those that did, no move of the line is taken -/
theorem ccc_prune {e : Nat → Nat → Nat} {a b f t : Nat} {C : Int32} (h : ¬ -((if e a f = 1 then (1 : Int32) else 0) + (if e b f = 1 then 1 else 0)) ≤ C) : ¬ ccc e a b f t < C ∧ ¬ ccc e a b f t = C := by
  have key : ∀ x y z w : Int32, (x = 0 ∨ x = 1) → (y = 0 ∨ y = 1) → (z = 0 ∨ z = 1) → (w = 0 ∨ w = 1) → C < -(z + w) → ¬ (x + y) - (z + w) < C ∧ ¬ (x + y) - (z + w) = C := by
    intro x y z w hx hy hz hw hC
    have h2 : -(z + w) ≤ (x + y) - (z + w) := by
      rcases hx with rfl | rfl <;> rcases hy with rfl | rfl <;> rcases hz with rfl | rfl <;> rcases hw with rfl | rfl <;> decide
    have h3 := Int32.lt_of_lt_of_le hC h2
    exact ⟨Int32.not_lt.mpr (Int32.le_of_lt h3), fun q => by rw [q] at h3; exact Int32.lt_irrefl h3⟩
  have b01' : ∀ p : Prop, ∀ [Decidable p], ((if p then (1 : Int32) else 0) = 0 ∨ (if p then (1 : Int32) else 0) = 1) := fun p _ => by split <;> simp
  exact key _ _ _ _ (b01' _) (b01' _) (b01' _) (b01' _) (Int32.not_le.mp h)
theorem inn_prune {d : Nat → Nat} {e : Nat → Nat → Nat} {R : Int32} {l a b f : Nat} {B : Mv} (h : ¬ -((if e a f = 1 then (1 : Int32) else 0) + (if e b f = 1 then 1 else 0)) ≤ B.2.1) : ∀ {t : Nat}, inn d e R l a b f B t = B
  | 0 => rfl
  | t + 1 => by
    simp only [inn]
    rw [inn_prune h (t := t), if_neg]
    rintro ⟨-, -, z | z⟩
    · exact (ccc_prune h).1 z
    · exact (ccc_prune h).2 z.1
/-- the class -/
def RB (B : Mv) (X : St) : Prop := X.1 9 = eL B ∧ (∀ l t, B.1 = some (l, t) → X.1 10 = nI t) ∧ X.1 11 = B.2.1 ∧ X.1 12 = B.2.2
theorem hasOne_ok {e : Nat → Nat → Nat} {X : St} {p k : Nat} (r : RE e X) (hp : p < 40) (hk : k < 8) (hb : e p k ≤ 1000) : fX4_hasOneLineAt (nI p) (nI k) X = some (if e p k = 1 then 1 else 0, X) := by
  unfold fX4_hasOneLineAt
  rw [ix40, gA_in (by omega) (by decide), ix_nI (by omega), r.2.2.1 p hp k hk]
  by_cases q : e p k = 1
  · rw [if_pos (show nI (e p k) = (1 : Int32) by rw [q]; rfl), if_pos q]; rfl
  · rw [if_neg (show ¬ nI (e p k) = (1 : Int32) from fun z => q ((nI_eq (b := 1) (by omega) (by decide)).mp z)), if_neg q]; rfl
theorem keep_ok {B : Mv} {X : St} {l t : Nat} {c s : Int32} (rb : RB B X) : ∃ Y, fX3_keepIfBetter (nI l) (nI t) c s X = some (0, Y) ∧ ((c < B.2.1 ∨ (c = B.2.1 ∧ s < B.2.2)) → RB (some (l, t), c, s) Y) ∧ (¬ (c < B.2.1 ∨ (c = B.2.1 ∧ s < B.2.2)) → RB B Y) ∧ fr [9, 10, 11, 12] [] X Y := by
  obtain ⟨h9, h10, h11, h12⟩ := id rb
  have take : RB (some (l, t), c, s) (sF (sF (sF (sF X 9 (nI l)) 10 (nI t)) 11 c) 12 s) := ⟨rfl, fun l' t' z => by cases z; rfl, rfl, rfl⟩
  have ft : fr [9, 10, 11, 12] [] X (sF (sF (sF (sF X 9 (nI l)) 10 (nI t)) 11 c) 12 s) := fr_F (by decide) (fr_F (by decide) (fr_F (by decide) (fr_F (by decide) fr_rf)))
  unfold fX3_keepIfBetter fX3_keepIfBetter_25 fX3_keepIfBetter_46
  rw [h11, h12]
  by_cases q1 : c < B.2.1
  · rw [if_pos q1]
    exact ⟨_, rfl, fun _ => take, fun z => absurd (Or.inl q1) z, ft⟩
  · rw [if_neg q1]
    by_cases q2 : c = B.2.1
    · rw [if_pos q2]
      by_cases q3 : B.2.2 ≤ s
      · rw [if_pos q3]
        refine ⟨X, rfl, fun z => ?_, fun _ => rb, fr_rf⟩
        rcases z with z | z
        · exact absurd z q1
        · exact absurd z.2 (Int32.not_lt.mpr q3)
      · rw [if_neg q3]
        exact ⟨_, rfl, fun _ => take, fun z => absurd (Or.inr ⟨q2, Int32.not_le.mp q3⟩) z, ft⟩
    · rw [if_neg q2]
      refine ⟨X, rfl, fun z => ?_, fun _ => rb, fr_rf⟩
      rcases z with z | z
      · exact absurd z q1
      · exact absurd z.1 q2
theorem weigh_l {n m : Nat} {u v : Nat → Nat} {h : Nat → Option Nat} {R : Int32} {l f : Nat} {B : Mv} (i : IN n m u v h) (hl : l < m) (hf : h l = some f) : ∀ (j t N : Nat) (X : St), t + j = n → j < N → RC n m u v h X → RB (inn (ld h m) (en u v h m) R l (u l) (v l) f B t) X → ∃ Y, fX3_weighMovesOf_85 N (nI l) R (nI f) (nI (u l)) (nI (v l)) ((if en u v h m (u l) f = 1 then (1 : Int32) else 0) + (if en u v h m (v l) f = 1 then 1 else 0)) (nI t) X = some (0, Y) ∧ RB (inn (ld h m) (en u v h m) R l (u l) (v l) f B n) Y ∧ fr [9, 10, 11, 12] [] X Y := by
  have hn := i.2.1
  have hm := i.2.2.1
  have hfn := i.2.2.2.2 l hl f hf
  obtain ⟨pu, pv, -⟩ := i.2.2.2.1 l hl
  intro j
  induction j with
  | zero =>
    intro t N X ht hN r rb
    obtain ⟨N, rfl⟩ : ∃ K, N = K + 1 := ⟨N - 1, by omega⟩
    have e : t = n := by omega
    subst e
    refine ⟨X, ?_, rb, fr_rf⟩
    show fX3_weighMovesOf_85_b _ _ _ _ _ _ _ _ _ = _
    unfold fX3_weighMovesOf_85_b
    rw [r.1.1, if_pos (Int32.le_refl _)]
  | succ j ih =>
    intro t N X ht hN r rb
    obtain ⟨N, rfl⟩ : ∃ K, N = K + 1 := ⟨N - 1, by omega⟩
    have hd := r.2.2.2.2.1
    have re := r.2.2.2.2.2
    have skip : ∀ Y, fr [9, 10, 11, 12] [] X Y → RB (inn (ld h m) (en u v h m) R l (u l) (v l) f B (t + 1)) Y → ∃ Z, fX3_weighMovesOf_85 N (nI l) R (nI f) (nI (u l)) (nI (v l)) ((if en u v h m (u l) f = 1 then (1 : Int32) else 0) + (if en u v h m (v l) f = 1 then 1 else 0)) (nI (t + 1)) Y = some (0, Z) ∧ RB (inn (ld h m) (en u v h m) R l (u l) (v l) f B n) Z ∧ fr [9, 10, 11, 12] [] X Z := by
      intro Y fY rY
      obtain ⟨Z, z1, z2, z3⟩ := ih (t + 1) N Y (by omega) (by omega) (RC_of_fr r fY (by decide) (by decide)) rY
      exact ⟨Z, z1, z2, fr_tr fY z3⟩
    show ∃ Y, fX3_weighMovesOf_85_b _ _ _ _ _ _ _ _ _ = _ ∧ _
    unfold fX3_weighMovesOf_85_b fX3_weighMovesOf_139 fX3_weighMovesOf_158 fX3_weighMovesOf_201
    rw [r.1.1, if_neg (nI_ge (by omega) (by omega)), nI_1]
    by_cases c1 : t = f
    · subst c1
      rw [if_pos rfl]
      refine skip X fr_rf ?_
      simp only [inn]
      rw [if_neg (fun z => z.1 rfl)]; exact rb
    · rw [if_neg (fun z => c1 ((nI_eq (by omega) (by omega)).mp z)), gA_in (by omega) (by decide), ix_nI (show t < 2 ^ 31 by omega), hd t (by omega)]
      by_cases c2 : nI (ld h m t) < R
      · rw [if_pos c2, Bd_eq (hasCopy_ok re pu (by omega))]
        simp only [Bd_eq (hasCopy_ok re pv (show t < 8 by omega)), Lt, gA_in (show t < 8 by omega) (by decide), gA_in (show f < 8 by omega) (by decide), ix_nI (show t < 2 ^ 31 by omega), ix_nI (show f < 2 ^ 31 by omega), hd t (show t < 8 by omega), hd f (show f < 8 by omega)]
        obtain ⟨Y, y1, y2, y3, y4⟩ := keep_ok (l := l) (t := t) (c := ccc (en u v h m) (u l) (v l) f t) (s := sss (ld h m t) (ld h m f)) rb
        have rY : RB (inn (ld h m) (en u v h m) R l (u l) (v l) f B (t + 1)) Y := by
          simp only [inn]
          by_cases z : (ccc (en u v h m) (u l) (v l) f t < (inn (ld h m) (en u v h m) R l (u l) (v l) f B t).2.1 ∨ (ccc (en u v h m) (u l) (v l) f t = (inn (ld h m) (en u v h m) R l (u l) (v l) f B t).2.1 ∧ sss (ld h m t) (ld h m f) < (inn (ld h m) (en u v h m) R l (u l) (v l) f B t).2.2))
          · rw [if_pos ⟨c1, c2, z⟩]; exact y2 z
          · rw [if_neg (fun w => z w.2.2)]; exact y3 z
        obtain ⟨Z, z1, z2, z3⟩ := skip Y y4 rY
        refine ⟨Z, ?_, z2, z3⟩
        have fin : ∀ x y : Int32, x = (if en u v h m (u l) t = 0 then (1 : Int32) else 0) → y = (if en u v h m (v l) t = 0 then (1 : Int32) else 0) → (Bd (fX3_keepIfBetter (nI l) (nI t) (x + y - ((if en u v h m (u l) f = 1 then (1 : Int32) else 0) + (if en u v h m (v l) f = 1 then 1 else 0))) (2 * (nI (ld h m t) - nI (ld h m f) + 1)) X) fun _ S4 => fX3_weighMovesOf_85 N (nI l) R (nI f) (nI (u l)) (nI (v l)) ((if en u v h m (u l) f = 1 then (1 : Int32) else 0) + (if en u v h m (v l) f = 1 then 1 else 0)) (nI (t + 1)) S4) = some (0, Z) := by
          intro x y hx hy
          subst hx hy
          have e1 : fX3_keepIfBetter (nI l) (nI t) ((if en u v h m (u l) t = 0 then (1 : Int32) else 0) + (if en u v h m (v l) t = 0 then (1 : Int32) else 0) - ((if en u v h m (u l) f = 1 then (1 : Int32) else 0) + (if en u v h m (v l) f = 1 then 1 else 0))) (2 * (nI (ld h m t) - nI (ld h m f) + 1)) X = some (0, Y) := y1
          rw [Bd_eq e1]; exact z1
        by_cases qa : 0 < en u v h m (u l) t
        · rw [if_pos qa, if_neg n10]
          by_cases qb : 0 < en u v h m (v l) t
          · simp only [if_pos qb, if_neg n10]
            exact fin 0 0 (by rw [if_neg (by omega)]) (by rw [if_neg (by omega)])
          · simp only [if_neg qb, if_pos]
            exact fin 0 1 (by rw [if_neg (by omega)]) (by rw [if_pos (by omega)])
        · rw [if_neg qa, if_pos rfl]
          by_cases qb : 0 < en u v h m (v l) t
          · simp only [if_pos qb, if_neg n10]
            exact fin 1 0 (by rw [if_pos (by omega)]) (by rw [if_neg (by omega)])
          · simp only [if_neg qb, if_pos]
            exact fin 1 1 (by rw [if_pos (by omega)]) (by rw [if_pos (by omega)])
      · rw [if_neg c2]
        refine skip X fr_rf ?_
        simp only [inn]
        rw [if_neg (fun z => c2 z.2.1)]; exact rb
theorem weigh_ok {n m : Nat} {u v : Nat → Nat} {h : Nat → Option Nat} {R : Int32} {l f : Nat} {B : Mv} {X : St} (i : IN n m u v h) (hl : l < m) (hf : h l = some f) (r : RC n m u v h X) (rb : RB B X) : ∃ Y, fX3_weighMovesOf (nI l) R X = some (0, Y) ∧ RB (inn (ld h m) (en u v h m) R l (u l) (v l) f B n) Y ∧ fr [9, 10, 11, 12] [] X Y := by
  have hn := i.2.1
  have hm := i.2.2.1
  have hF := FU_gt
  have hfn := i.2.2.2.2 l hl f hf
  obtain ⟨pu, pv, -⟩ := i.2.2.2.1 l hl
  have re := r.2.2.2.2.2
  have h3 : X.2 3 l = nI f := by rw [r.2.2.2.1 l hl, hf]; rfl
  have ub := fun p k => en_ub (u := u) (v := v) (h := h) (m := m) (p := p) (k := k)
  have o1 := hasOne_ok re pu (show f < 8 by omega) (by have := ub (u l) f; omega)
  have o2 := hasOne_ok re pv (show f < 8 by omega) (by have := ub (v l) f; omega)
  have fin : ∃ Y, (if -((if en u v h m (u l) f = 1 then (1 : Int32) else 0) + (if en u v h m (v l) f = 1 then 1 else 0)) ≤ X.1 11 then fX3_weighMovesOf_85 FU (nI l) R (nI f) (nI (u l)) (nI (v l)) ((if en u v h m (u l) f = 1 then (1 : Int32) else 0) + (if en u v h m (v l) f = 1 then 1 else 0)) 0 X else some (0, X)) = some (0, Y) ∧ RB (inn (ld h m) (en u v h m) R l (u l) (v l) f B n) Y ∧ fr [9, 10, 11, 12] [] X Y := by
    by_cases c : -((if en u v h m (u l) f = 1 then (1 : Int32) else 0) + (if en u v h m (v l) f = 1 then 1 else 0)) ≤ X.1 11
    · rw [if_pos c]
      exact weigh_l i hl hf n 0 FU X (by omega) (by omega) r rb
    · rw [if_neg c]
      rw [rb.2.2.1] at c
      exact ⟨X, rfl, by rw [inn_prune c]; exact rb, fr_rf⟩
  unfold fX3_weighMovesOf fX3_weighMovesOf_50 fX3_weighMovesOf_68
  simp only [Lt, gA_in (show l < 300 by omega) (by decide), ix_nI (show l < 2 ^ 31 by omega), h3, r.2.1 l hl, r.2.2.1 l hl, Bd_eq o1, Bd_eq o2]
  by_cases qa : en u v h m (u l) f = 1
  · by_cases qb : en u v h m (v l) f = 1
    · simp only [if_pos qa, if_pos qb, if_neg n10] at fin ⊢; exact fin
    · simp only [if_pos qa, if_neg qb, if_neg n10, if_pos] at fin ⊢; exact fin
  · by_cases qb : en u v h m (v l) f = 1
    · simp only [if_neg qa, if_pos qb, if_neg n10, if_pos] at fin ⊢; exact fin
    · simp only [if_neg qa, if_neg qb, if_pos] at fin ⊢; exact fin
theorem find_l {n m : Nat} {u v : Nat → Nat} {h : Nat → Option Nat} {R : Int32} (i : IN n m u v h) : ∀ (j l N : Nat) (X : St), l + j = m → j < N → RC n m u v h X → RB (out (ld h m) (en u v h m) R n u v h l) X → ∃ Y, fX3_findMove_22 N R (nI l) X = some (if (out (ld h m) (en u v h m) R n u v h m).1.isSome = true then 1 else 0, Y) ∧ RB (out (ld h m) (en u v h m) R n u v h m) Y ∧ fr [9, 10, 11, 12] [] X Y := by
  have hm := i.2.2.1
  intro j
  induction j with
  | zero =>
    intro l N X hl hN r rb
    obtain ⟨N, rfl⟩ : ∃ K, N = K + 1 := ⟨N - 1, by omega⟩
    have e : l = m := by omega
    subst e
    refine ⟨X, ?_, rb, fr_rf⟩
    show fX3_findMove_22_b _ _ _ _ = _
    unfold fX3_findMove_22_b
    rw [r.1.2.1, if_pos (Int32.le_refl _), rb.1]
    cases c : (out (ld h l) (en u v h l) R n u v h l).1 with
    | none =>
      have : eL (out (ld h l) (en u v h l) R n u v h l) = -1 := by unfold eL; rw [c]
      rw [this, if_pos rfl]; rfl
    | some q =>
      have : eL (out (ld h l) (en u v h l) R n u v h l) = nI q.1 := by unfold eL; rw [c]
      have hq := (out_ok (l := q.1) (t := q.2) c).1
      rw [this, if_neg (nI_nm1 (by omega))]; rfl
  | succ j ih =>
    intro l N X hl hN r rb
    obtain ⟨N, rfl⟩ : ∃ K, N = K + 1 := ⟨N - 1, by omega⟩
    show ∃ Y, fX3_findMove_22_b _ _ _ _ = _ ∧ _
    unfold fX3_findMove_22_b fX3_findMove_50
    rw [r.1.2.1, if_neg (nI_ge (by omega) (by omega)), Bd_eq (isLive_in i r (by omega)), nI_1]
    cases c : h l with
    | none =>
      have e1 : out (ld h m) (en u v h m) R n u v h (l + 1) = out (ld h m) (en u v h m) R n u v h l := by simp only [out]; rw [c]
      rw [if_pos (by rfl)]
      exact ih (l + 1) N X (by omega) (by omega) r (by rw [e1]; exact rb)
    | some f =>
      have e1 : out (ld h m) (en u v h m) R n u v h (l + 1) = inn (ld h m) (en u v h m) R l (u l) (v l) f (out (ld h m) (en u v h m) R n u v h l) n := by simp only [out]; rw [c]
      obtain ⟨Y, y1, y2, y3⟩ := weigh_ok (R := R) i (show l < m by omega) c r rb
      obtain ⟨Z, z1, z2, z3⟩ := ih (l + 1) N Y (by omega) (by omega) (RC_of_fr r y3 (by decide) (by decide)) (by rw [e1]; exact y2)
      refine ⟨Z, ?_, z2, fr_tr y3 z3⟩
      rw [if_neg (show ¬ (if (some f).isSome = true then (1 : Int32) else 0) = 0 by simp), Bd_eq y1]
      exact z1
theorem find_ok {n m : Nat} {u v : Nat → Nat} {h : Nat → Option Nat} {R : Int32} {X : St} (i : IN n m u v h) (r : RC n m u v h X) : ∃ Y, fX3_findMove R X = some (if (out (ld h m) (en u v h m) R n u v h m).1.isSome = true then 1 else 0, Y) ∧ RB (out (ld h m) (en u v h m) R n u v h m) Y ∧ fr [9, 10, 11, 12] [] X Y := by
  have hm := i.2.2.1
  have hF := FU_gt
  have f0 : fr [9, 10, 11, 12] [] X (sF (sF (sF (sF X 9 (-1)) 10 (-1)) 11 0) 12 0) := fr_F (by decide) (fr_F (by decide) (fr_F (by decide) (fr_F (by decide) fr_rf)))
  obtain ⟨Y, y1, y2, y3⟩ := find_l (R := R) i m 0 FU _ (by omega) (by omega) (RC_of_fr r f0 (by decide) (by decide)) ⟨rfl, (fun l t z => by cases z), rfl, rfl⟩
  exact ⟨Y, y1, y2, fr_tr f0 y3⟩
/-- the reference -/
theorem chgM_ok {n m : Nat} {u v : Nat → Nat} {h : Nat → Option Nat} {M : St} {p f t : Nat} (i : IN n m u v h) (r : RM 1000 n m u v h M) (hp : p < 40) (hf : f < 8) (ht : t < 8) : fX7_change (nI p) (nI f) (nI t) M = some ((if en u v h m p t = 0 then (1 : Int32) else 0) - (if en u v h m p f = 1 then 1 else 0), M) := by
  have hm := i.2.2.1
  have u1 := en_ub (u := u) (v := v) (h := h) (m := m) (p := p) (k := t)
  have u2 := en_ub (u := u) (v := v) (h := h) (m := m) (p := p) (k := f)
  have e0 : nI (en u v h m p t) = 0 ↔ en u v h m p t = 0 := by rw [← nI_0]; exact nI_eq (by omega) (by omega)
  have e1 : nI (en u v h m p f) = 1 ↔ en u v h m p f = 1 := nI_eq (b := 1) (by omega) (by omega)
  unfold fX7_change fX7_change_19 fX7_change_39
  simp only [ix8, gA_in (show 8 * p + t < 320 by omega) (by decide), gA_in (show 8 * p + f < 320 by omega) (by decide), ix_nI (show 8 * p + t < 2 ^ 31 by omega), ix_nI (show 8 * p + f < 2 ^ 31 by omega), r.2.2.2.2.2 p hp t ht, r.2.2.2.2.2 p hp f hf, e0, e1]
  by_cases a : en u v h m p t = 0 <;> by_cases b : en u v h m p f = 1 <;> simp only [a, b, if_true, if_false]
theorem sss_eq (x y : Nat) : (2 : Int32) * (nI x - nI y) + 2 = sss x y := by
  unfold sss
  rw [Int32.mul_add]; rfl
theorem ccc_eq {e : Nat → Nat → Nat} {a b f t : Nat} : ((if e a t = 0 then (1 : Int32) else 0) - (if e a f = 1 then 1 else 0)) + ((if e b t = 0 then (1 : Int32) else 0) - (if e b f = 1 then 1 else 0)) = ccc e a b f t := by
  unfold ccc
  by_cases h1 : e a t = 0 <;> by_cases h2 : e b t = 0 <;> by_cases h3 : e a f = 1 <;> by_cases h4 : e b f = 1 <;> simp only [h1, h2, h3, h4, if_true, if_false] <;> decide
theorem mvM_l {n m : Nat} {u v : Nat → Nat} {h : Nat → Option Nat} {R : Int32} {l f : Nat} {B : Mv} {M : St} {k18 : Int32 → Int32 → Int32 → Int32 → Int32 → Int32 → St → Rs} (i : IN n m u v h) (r : RM 1000 n m u v h M) (hl : l < m) (hf : h l = some f) (hB : good B) (hBl : ∀ q, B.1 = some q → q.1 < 1000) : ∀ (j t N : Nat), t + j = n → j < N → fX7_moves_30 k18 N R (eL (inn (ld h m) (en u v h m) R l (u l) (v l) f B t)) (eH (inn (ld h m) (en u v h m) R l (u l) (v l) f B t)) (inn (ld h m) (en u v h m) R l (u l) (v l) f B t).2.1 (inn (ld h m) (en u v h m) R l (u l) (v l) f B t).2.2 (nI l) (nI t) M = k18 R (eL (inn (ld h m) (en u v h m) R l (u l) (v l) f B n)) (eH (inn (ld h m) (en u v h m) R l (u l) (v l) f B n)) (inn (ld h m) (en u v h m) R l (u l) (v l) f B n).2.1 (inn (ld h m) (en u v h m) R l (u l) (v l) f B n).2.2 (nI (l + 1)) M := by
  have hn := i.2.1
  have hm := i.2.2.1
  have hfn := i.2.2.2.2 l hl f hf
  obtain ⟨pu, pv, -⟩ := i.2.2.2.1 l hl
  have h2l : M.2 2 l = nI f := by rw [r.2.2.2.1 l hl (by omega), hf]; rfl
  intro j
  induction j with
  | zero =>
    intro t N ht hN
    obtain ⟨N, rfl⟩ : ∃ K, N = K + 1 := ⟨N - 1, by omega⟩
    have e : t = n := by omega
    subst e
    show fX7_moves_30_b _ _ _ _ _ _ _ _ _ _ = _
    unfold fX7_moves_30_b fX7_moves_210
    rw [r.1.1, if_pos (Int32.le_refl _), nI_1]
  | succ j ih =>
    intro t N ht hN
    obtain ⟨N, rfl⟩ : ∃ K, N = K + 1 := ⟨N - 1, by omega⟩
    have hx := ih (t + 1) N (by omega) (by omega)
    have hg : good (inn (ld h m) (en u v h m) R l (u l) (v l) f B t) := inn_good hB
    have hql : ∀ q, (inn (ld h m) (en u v h m) R l (u l) (v l) f B t).1 = some q → q.1 < 1000 := fun q hq => by
      rcases inn_or (d := ld h m) (e := en u v h m) (R := R) (l := l) (a := u l) (b := v l) (f := f) (B := B) (t := t) with z | ⟨k, k1, k2⟩
      · rw [z] at hq; exact hBl q hq
      · rw [k2] at hq; cases hq; show l < 1000; omega
    rw [← hx]
    show fX7_moves_30_b _ _ _ _ _ _ _ _ _ _ = _
    unfold fX7_moves_30_b fX7_moves_149 fX7_moves_153 fX7_moves_154 fX7_moves_190 fX7_moves_204
    rw [r.1.1, if_neg (nI_ge (by omega) (by omega))]
    simp only [Lt, gA_in (show l < 300 by omega) (by decide), ix_nI (show l < 2 ^ 31 by omega), h2l, nI_1]
    rw [if_neg (nI_nm1 (by omega))]
    generalize hI : inn (ld h m) (en u v h m) R l (u l) (v l) f B t = I at hg hql ⊢
    have hstep : inn (ld h m) (en u v h m) R l (u l) (v l) f B (t + 1) = if t ≠ f ∧ nI (ld h m t) < R ∧ (ccc (en u v h m) (u l) (v l) f t < I.2.1 ∨ (ccc (en u v h m) (u l) (v l) f t = I.2.1 ∧ sss (ld h m t) (ld h m f) < I.2.2)) then (some (l, t), ccc (en u v h m) (u l) (v l) f t, sss (ld h m t) (ld h m f)) else I := by
      simp only [inn]; rw [hI]
    by_cases c1 : t = f
    · subst c1
      rw [if_pos rfl, hstep, if_neg (fun z => z.1 rfl)]
    · rw [if_neg (fun z => c1 ((nI_eq (by omega) (by omega)).mp z)), gA_in (by omega) (by decide), ix_nI (show t < 2 ^ 31 by omega), r.2.2.2.2.1 t (by omega)]
      by_cases c2 : nI (ld h m t) < R
      · rw [if_pos c2, r.2.1 l hl, Bd_eq (chgM_ok i r pu (by omega) (by omega)), r.2.2.1 l hl, Bd_eq (chgM_ok i r pv (by omega) (by omega)), gA_in (by omega) (by decide), gA_in (by omega) (by decide), ix_nI (show f < 2 ^ 31 by omega), r.2.2.2.2.1 t (by omega), r.2.2.2.2.1 f (by omega), ccc_eq, sss_eq]
        generalize hc : ccc (en u v h m) (u l) (v l) f t = c at hstep ⊢
        generalize hs : sss (ld h m t) (ld h m f) = s at hstep ⊢
        by_cases z : c < I.2.1 ∨ (c = I.2.1 ∧ s < I.2.2)
        · rw [if_pos ⟨c1, c2, z⟩] at hstep
          rw [hstep]
          have hless : lx c s 0 0 := good_lx hg z
          have body : (if eL I = -1 then fX7_moves_30 k18 N R (nI l) (nI t) c s (nI l) (nI (t + 1)) M else if I.2.1 < c then fX7_moves_30 k18 N R (eL I) (eH I) I.2.1 I.2.2 (nI l) (nI (t + 1)) M else if c = I.2.1 then (if s < I.2.2 then fX7_moves_30 k18 N R (nI l) (nI t) c s (nI l) (nI (t + 1)) M else fX7_moves_30 k18 N R (eL I) (eH I) I.2.1 I.2.2 (nI l) (nI (t + 1)) M) else fX7_moves_30 k18 N R (nI l) (nI t) c s (nI l) (nI (t + 1)) M) = fX7_moves_30 k18 N R (nI l) (nI t) c s (nI l) (nI (t + 1)) M := by
            by_cases q0 : eL I = -1
            · rw [if_pos q0]
            · rw [if_neg q0]
              rcases z with z | ⟨z1, z2⟩
              · rw [if_neg (Int32.not_lt.mpr (Int32.le_of_lt z)), if_neg (fun y => by rw [y] at z; exact Int32.lt_irrefl z)]
              · rw [if_neg (fun y => by rw [z1] at y; exact Int32.lt_irrefl y), if_pos z1, if_pos z2]
          rcases hless with q | ⟨q1, q2⟩
          · rw [if_pos q, if_neg n10]; exact body
          · rw [if_neg (show ¬ c < 0 from fun y => by rw [q1] at y; exact Int32.lt_irrefl y), if_pos q1, if_neg (Int32.not_le.mpr q2), if_neg n10]; exact body
        · rw [if_neg (fun y => z y.2.2)] at hstep
          rw [hstep]
          have body : lx c s 0 0 → (if eL I = -1 then fX7_moves_30 k18 N R (nI l) (nI t) c s (nI l) (nI (t + 1)) M else if I.2.1 < c then fX7_moves_30 k18 N R (eL I) (eH I) I.2.1 I.2.2 (nI l) (nI (t + 1)) M else if c = I.2.1 then (if s < I.2.2 then fX7_moves_30 k18 N R (nI l) (nI t) c s (nI l) (nI (t + 1)) M else fX7_moves_30 k18 N R (eL I) (eH I) I.2.1 I.2.2 (nI l) (nI (t + 1)) M) else fX7_moves_30 k18 N R (nI l) (nI t) c s (nI l) (nI (t + 1)) M) = fX7_moves_30 k18 N R (eL I) (eH I) I.2.1 I.2.2 (nI l) (nI (t + 1)) M := by
            intro hless
            cases e : I.1 with
            | none =>
              unfold good at hg
              rw [e] at hg
              exact absurd (show c < I.2.1 ∨ (c = I.2.1 ∧ s < I.2.2) by rw [hg.1, hg.2]; exact hless) z
            | some q =>
              have : ¬ eL I = -1 := by
                unfold eL; rw [e]
                exact nI_nm1 (by have := hql q e; omega)
              rw [if_neg this]
              by_cases y1 : I.2.1 < c
              · rw [if_pos y1]
              · rw [if_neg y1]
                by_cases y2 : c = I.2.1
                · rw [if_pos y2, if_neg (fun y => z (Or.inr ⟨y2, y⟩))]
                · exfalso
                  rcases Int32.lt_or_eq_of_le (Int32.not_lt.mp y1) with y | y
                  · exact z (Or.inl y)
                  · exact y2 y
          by_cases q : c < 0
          · rw [if_pos q, if_neg n10]; exact body (Or.inl q)
          · rw [if_neg q]
            by_cases q1 : c = 0
            · rw [if_pos q1]
              by_cases q2 : 0 ≤ s
              · rw [if_pos q2, if_pos trivial]
              · rw [if_neg q2, if_neg n10]; exact body (Or.inr ⟨q1, Int32.not_le.mp q2⟩)
            · rw [if_neg q1, if_pos trivial]
      · rw [if_neg c2, hstep, if_neg (fun z => c2 z.2.1)]
