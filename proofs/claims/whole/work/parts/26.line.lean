/-! a line comes; sums over points; counts -/
theorem n10 : ¬ (1 : Int32) = 0 := by decide
theorem ld_add {h : Nat → Option Nat} {m k : Nat} : ld (uph h m none) (m + 1) k = ld h m k := by
  unfold ld
  simp only [cnt, uph_s]
  rw [cnt_congr (P := fun l => uph h m none l == some k) (Q := fun l => h l == some k) (fun l hl => by simp only [uph_n (show l ≠ m by omega)])]
  simp
theorem c1_add {h : Nat → Option Nat} {w : Nat → Nat} {m k p a : Nat} : cnt (fun l => uph h m none l == some k && upN w m a l == p) (m + 1) = cnt (fun l => h l == some k && w l == p) m := by
  simp only [cnt, uph_s]
  rw [cnt_congr (P := fun l => uph h m none l == some k && upN w m a l == p) (Q := fun l => h l == some k && w l == p) (fun l hl => by simp only [uph_n (show l ≠ m by omega), upN_n (show l ≠ m by omega)])]
  simp
theorem en_add {u v : Nat → Nat} {h : Nat → Option Nat} {m p k a b : Nat} : en (upN u m a) (upN v m b) (uph h m none) (m + 1) p k = en u v h m p k := by
  unfold en
  rw [c1_add, c1_add]
theorem IN_add {n m : Nat} {u v : Nat → Nat} {h : Nat → Option Nat} {a b : Nat} (i : IN n m u v h) (hm : m < 300) (ha : a < 40) (hb : b < 40) (hab : a ≠ b) : IN n (m + 1) (upN u m a) (upN v m b) (uph h m none) := by
  refine ⟨i.1, i.2.1, by omega, fun l hl => ?_, fun l hl k hk => ?_⟩
  · by_cases e : l = m
    · subst e; rw [upN_s, upN_s]; exact ⟨ha, hb, hab⟩
    · rw [upN_n e, upN_n e]; exact i.2.2.2.1 l (by omega)
  · by_cases e : l = m
    · subst e; rw [uph_s] at hk; cases hk
    · rw [uph_n e] at hk; exact i.2.2.2.2 l (by omega) k hk
theorem addLine_ok {n m : Nat} {u v : Nat → Nat} {h : Nat → Option Nat} {X : St} {a b : Nat} (i : IN n m u v h) (r : RC n m u v h X) (hm : m < 300) : ∃ Y, fX4_addLine (nI a) (nI b) X = some (nI m, Y) ∧ RC n (m + 1) (upN u m a) (upN v m b) (uph h m none) Y ∧ fr [3] [1, 2, 3] X Y := by
  obtain ⟨⟨r2, r3, r4⟩, ru, rv, rh, rl, re⟩ := id r
  refine ⟨sF (sA (sA (sA X 1 m (nI a)) 2 m (nI b)) 3 m (-1 : Int32)) 3 (nI (m + 1)), ?_, ⟨⟨r2, rfl, ?_⟩, ?_, ?_, ?_, ?_, ?_⟩, fr_F (by decide) (fr_A (by decide) (fr_A (by decide) (fr_A (by decide) fr_rf)))⟩
  · unfold fX4_addLine
    simp only [Lt, LtS, r3, gA_in hm (by decide), ix_nI (show m < 2 ^ 31 by omega)]
    have : (sA (sA (sA X 1 m (nI a)) 2 m (nI b)) 3 m (-1 : Int32)).1 3 + 1 = nI (m + 1) := by show X.1 3 + 1 = _; rw [r3, nI_1]
    rw [this]
  · show X.1 4 = _
    rw [r4, sm_congr (f := ld (uph h m none) (m + 1)) (g := ld h m) (fun _ _ => ld_add)]
  · intro l hl
    show upd (X.2 1) m (nI a) l = _
    by_cases e : l = m
    · subst e; rw [pk_us, upN_s]
    · rw [pk_un e, upN_n e]; exact ru l (by omega)
  · intro l hl
    show upd (X.2 2) m (nI b) l = _
    by_cases e : l = m
    · subst e; rw [pk_us, upN_s]
    · rw [pk_un e, upN_n e]; exact rv l (by omega)
  · intro l hl
    show upd (X.2 3) m (-1 : Int32) l = _
    by_cases e : l = m
    · subst e; rw [pk_us, uph_s]; rfl
    · rw [pk_un e, uph_n e]; exact rh l (by omega)
  · intro k hk
    rw [ld_add]; exact rl k hk
  · exact RE_congr (fun p _ k _ => en_add) (RE_fr re rfl rfl rfl rfl)
theorem addM_ok {n m : Nat} {u v : Nat → Nat} {h : Nat → Option Nat} {M : St} {a b : Nat} (r : RM 1000 n m u v h M) (hm : m < 300) : RM m n (m + 1) (upN u m a) (upN v m b) (uph h m none) (sF (sA (sA M 0 m (nI a)) 1 m (nI b)) 1 (nI (m + 1))) := by
  obtain ⟨⟨r2, r3, r4⟩, ru, rv, rh, rl, re⟩ := id r
  refine ⟨⟨r2, rfl, ?_⟩, ?_, ?_, ?_, ?_, ?_⟩
  · show M.1 2 = _
    rw [r4, sm_congr (f := ld (uph h m none) (m + 1)) (g := ld h m) (fun _ _ => ld_add)]
  · intro l hl
    show upd (M.2 0) m (nI a) l = _
    by_cases e : l = m
    · subst e; rw [pk_us, upN_s]
    · rw [pk_un e, upN_n e]; exact ru l (by omega)
  · intro l hl
    show upd (M.2 1) m (nI b) l = _
    by_cases e : l = m
    · subst e; rw [pk_us, upN_s]
    · rw [pk_un e, upN_n e]; exact rv l (by omega)
  · intro l hl hx
    rw [uph_n hx]; exact rh l (by omega) (by omega)
  · intro k hk
    rw [ld_add]; exact rl k hk
  · intro p hp k hk
    rw [en_add]; exact re p hp k hk
theorem du_line (x y : Int32) : DU (fX6_line x y) (fX7_line x y) := by
  rintro X M ⟨n, m, u, v, h, w, ru, sl, le, i, r, q, c, b⟩
  have hm := i.2.2.1
  have same := Rl_same i r q c b
  unfold fX6_line fX7_line
  rcases out3 (x := x) (n := 40) (by decide) with hx | ⟨a, ha, rfl⟩
  · rw [Bd_eq (isPoint_out hx), Bd_eq (isPointM_out hx)]
    exact ⟨-1, X, M, rfl, rfl, same⟩
  rw [Bd_eq (isPoint_in ha), Bd_eq (isPointM_in ha), if_neg n10, if_neg n10]
  rcases out3 (x := y) (n := 40) (by decide) with hx | ⟨d, hd, rfl⟩
  · rw [Bd_eq (isPoint_out hx), Bd_eq (isPointM_out hx)]
    exact ⟨-1, X, M, rfl, rfl, same⟩
  rw [Bd_eq (isPoint_in hd), Bd_eq (isPointM_in hd), if_neg n10, if_neg n10]
  by_cases hab : a = d
  · subst hab
    rw [if_pos rfl, if_pos rfl]
    exact ⟨-1, X, M, rfl, rfl, same⟩
  have hne : ¬ nI a = nI d := fun z => hab ((nI_eq (by omega) (by omega)).mp z)
  rw [if_neg hne, if_neg hne, r.1.2.1, q.1.2.1]
  by_cases h3 : m = 300
  · subst h3
    rw [if_neg (by decide), if_pos (show nI 300 = (300 : Int32) from rfl)]
    exact ⟨-1, X, M, rfl, rfl, same⟩
  rw [if_pos (show nI m < (300 : Int32) from nI_lt (b := 300) (by omega) (by decide)), if_neg (show ¬ nI m = (300 : Int32) from fun z => h3 ((nI_eq (b := 300) (by omega) (by decide)).mp z)), gA_in (by omega) (by decide)]
  obtain ⟨X1, e1, r1, f1⟩ := addLine_ok (a := a) (b := d) i r (by omega)
  have q1 := addM_ok (a := a) (b := d) q (show m < 300 by omega)
  have i1 := IN_add i (show m < 300 by omega) ha hd hab
  rw [Bd_eq e1]
  simp only [LtS]
  have g1 : (sA M 0 (ix (nI m)) (nI a)).1 1 = nI m := q.1.2.1
  have g2 : sF (sA (sA M 0 (ix (nI m)) (nI a)) 1 (ix (nI m)) (nI d)) 1 ((sA (sA M 0 (ix (nI m)) (nI a)) 1 (ix (nI m)) (nI d)).1 1 + 1) = sF (sA (sA M 0 m (nI a)) 1 m (nI d)) 1 (nI (m + 1)) := by
    rw [ix_nI (show m < 2 ^ 31 by omega)]
    have : (sA (sA M 0 m (nI a)) 1 m (nI d)).1 1 = nI m := q.1.2.1
    rw [this, nI_1]
  rw [g1, gA_in (by omega) (by decide), g2]
  have g3 : (sF (sA (sA M 0 m (nI a)) 1 m (nI d)) 1 (nI (m + 1))).1 1 - 1 = nI m := by
    show nI (m + 1) - 1 = nI m
    exact nI_pred m
  rw [g3]
  generalize hM1 : sF (sA (sA M 0 m (nI a)) 1 m (nI d)) 1 (nI (m + 1)) = M1 at q1 ⊢
  have fM1 : fr [1] [0, 1] M M1 := by rw [← hM1]; exact fr_F (by decide) (fr_A (by decide) (fr_A (by decide) fr_rf))
  have cM1 : M1.1 6 = nI ru ∧ M1.1 4 = nI sl ∧ M1.1 5 = nI le := by
    rw [fM1.1 6 (by decide), fM1.1 4 (by decide), fM1.1 5 (by decide)]
    exact ⟨c.2.2.2.1.2, c.2.2.2.2.1.2, c.2.2.2.2.2.2⟩
  have cX1 : X1.1 6 = nI ru ∧ X1.1 7 = nI sl ∧ X1.1 8 = nI le := by
    rw [f1.1 6 (by decide), f1.1 7 (by decide), f1.1 8 (by decide)]
    exact ⟨c.2.2.2.1.1, c.2.2.2.2.1.1, c.2.2.2.2.2.1⟩
  obtain ⟨k, hk, hkn⟩ := chs_some (ru := nI ru) (le := nI le) (s := sl) (l := m) i1 c.1.2.2.1
  obtain ⟨X2, e2, r2, f2⟩ := dealLine_ok (l := m) (k := k) i1 r1 (by omega) uph_s (by rw [cX1.1, cX1.2.1, cX1.2.2]; exact hk) hkn
  obtain ⟨M2, e3, q2, f3⟩ := dealsM_ok (l := m) (k := k) i1 q1 (Or.inl rfl) (by omega) uph_s (by rw [cM1.1, cM1.2.1, cM1.2.2]; exact hk) hkn
  have i2 := IN_put (l := m) (k := k) i1 hkn
  have c2 : CF w ru sl le X2 M2 := CF_fr (CF_fr c f1 fM1 (by decide) (by decide)) f2 f3 (by decide) (by decide)
  have b2 : BX X2 := BX_fr (BX_fr b f1 (by decide)) f2 (by decide)
  obtain ⟨h', X3, M3, a1, a2, a3, a4, a5, a6, a7⟩ := win_ok (w := w) c.1.1 i2 r2 q2 c2.2.1.1 c2.2.1.2
  rw [Bd_eq e2, Bd_eq e3, Bd_eq a1, Bd_eq a2]
  exact ⟨nI k, X3, M3, rfl, rfl, Rl_mk a3 a4 a5 c2 b2 a6 a7 (by decide) (by decide) (by decide)⟩
/-- copies as the reference counts them -/
theorem copM_l {x n m : Nat} {u v : Nat → Nat} {h : Nat → Option Nat} {M : St} {p : Nat} (i : IN n m u v h) (r : RM x n m u v h M) (hp : p < 40) : ∀ (j q N : Nat), q + j = n → j < N → fX7_copiesOf_4 N (nI p) (nI (sm (fun k => if 0 < en u v h m p k then 1 else 0) q)) (nI q) M = some (nI (sm (fun k => if 0 < en u v h m p k then 1 else 0) n), M) := by
  have hn := i.2.1
  have hm := i.2.2.1
  intro j
  induction j with
  | zero =>
    intro q N hi hN
    obtain ⟨N, rfl⟩ : ∃ M, N = M + 1 := ⟨N - 1, by omega⟩
    show fX7_copiesOf_4_b _ _ _ _ _ = _
    unfold fX7_copiesOf_4_b
    have e : q = n := by omega
    subst e
    rw [r.1.1, if_pos (Int32.le_refl _)]
  | succ j ih =>
    intro q N hi hN
    obtain ⟨N, rfl⟩ : ∃ M, N = M + 1 := ⟨N - 1, by omega⟩
    have hx := ih (q + 1) N (by omega) (by omega)
    have ub := en_ub (u := u) (v := v) (h := h) (m := m) (p := p) (k := q)
    show fX7_copiesOf_4_b _ _ _ _ _ = _
    unfold fX7_copiesOf_4_b fX7_copiesOf_32
    simp only [Lt]
    rw [r.1.1, if_neg (nI_ge (by omega) (by omega)), ix8, gA_in (by omega) (by decide), ix_nI (by omega), r.2.2.2.2.2 p hp q (by omega), nI_1]
    simp only [sm] at hx
    by_cases z : 0 < en u v h m p q
    · rw [if_pos z] at hx
      rw [if_neg (nI_nle z (by omega)), nI_1]; exact hx
    · rw [if_neg z] at hx
      have z0 : en u v h m p q = 0 := by omega
      rw [z0, if_pos (by decide)]
      have : nI (sm (fun k => if 0 < en u v h m p k then 1 else 0) q) + 0 = nI (sm (fun k => if 0 < en u v h m p k then 1 else 0) q) := by simp
      rw [this]; exact hx
theorem copM_ok {x n m : Nat} {u v : Nat → Nat} {h : Nat → Option Nat} {M : St} {p : Nat} (i : IN n m u v h) (r : RM x n m u v h M) (hp : p < 40) : fX7_copiesOf (nI p) M = some (nI (cpy (en u v h m) p), M) := by
  have := copM_l i r hp n 0 FU (by omega) (by have := FU_gt; have := i.2.1; omega)
  unfold cpy
  rw [sm_ext (f := fun k => if 0 < en u v h m p k then 1 else 0) (a := n) (b := 8) i.2.1 (fun k h1 _ => by rw [en_z i h1]; rfl)]
  exact this
theorem cpy_ub {e : Nat → Nat → Nat} {p : Nat} : cpy e p ≤ 8 := by
  have := sm_ub (f := fun k => if 0 < e p k then 1 else 0) (b := 1) (n := 8) (fun k _ => by split <;> omega)
  unfold cpy; omega
theorem allM_l {x n m : Nat} {u v : Nat → Nat} {h : Nat → Option Nat} {M : St} (i : IN n m u v h) (r : RM x n m u v h M) : ∀ (j q N : Nat), q + j = 40 → j < N → fX7_all_4 N (nI (sm (cpy (en u v h m)) q)) (nI q) M = some (nI (sm (cpy (en u v h m)) 40), M) := by
  intro j
  induction j with
  | zero =>
    intro q N hi hN
    obtain ⟨N, rfl⟩ : ∃ M, N = M + 1 := ⟨N - 1, by omega⟩
    show fX7_all_4_b _ _ _ _ = _
    unfold fX7_all_4_b
    have e : q = 40 := by omega
    subst e
    rw [if_pos (by decide)]
  | succ j ih =>
    intro q N hi hN
    obtain ⟨N, rfl⟩ : ∃ M, N = M + 1 := ⟨N - 1, by omega⟩
    have hx := ih (q + 1) N (by omega) (by omega)
    show fX7_all_4_b _ _ _ _ = _
    unfold fX7_all_4_b
    simp only [Lt]
    rw [nl40, if_neg (nI_ge (by omega) (by omega)), Bd_eq (copM_ok i r (by omega)), nI_1, nI_add]
    exact hx
theorem du_all : DU fX6_all fX7_all := by
  rintro X M ⟨n, m, u, v, h, w, ru, sl, le, i, r, q, c, b⟩
  have := allM_l i q 40 0 FU (by omega) (by have := FU_gt; omega)
  unfold fX6_all
  rw [r.2.2.2.2.2.2.2.2]
  exact ⟨_, X, M, rfl, this, Rl_same i r q c b⟩
theorem pts_z {e : Nat → Nat → Nat} {x : Int32} {p : Nat} (h : bts x (e p)) : x = 0 ↔ cpy e p = 0 := by
  obtain ⟨b, b1, rfl, b3⟩ := h
  have e1 : nI b = 0 ↔ b = 0 := by rw [← nI_0]; exact nI_eq (by omega) (by omega)
  rw [e1]
  constructor
  · rintro rfl
    refine sm_0 (fun k hk => ?_)
    have := b3 k hk
    rw [Nat.zero_testBit] at this
    have := of_decide_eq_false this.symm
    rw [if_neg this]
  · intro z
    apply bt_ext b1 (by decide)
    intro k hk
    rw [b3 k hk, Nat.zero_testBit]
    apply decide_eq_false
    intro hp
    have := sm_le (f := fun k => if 0 < e p k then 1 else 0) (k := k) (n := 8) hk
    rw [if_pos hp] at this
    unfold cpy at z
    omega
def pts (e : Nat → Nat → Nat) (q : Nat) : Nat := sm (fun p => if 0 < cpy e p then 1 else 0) q
theorem ptsX_l {e : Nat → Nat → Nat} {X : St} (r : RE e X) : ∀ (j q N : Nat), q + j = 40 → j < N → fX4_pointsWithCopies_4 N (nI (pts e q)) (nI q) X = some (nI (pts e 40), X) := by
  intro j
  induction j with
  | zero =>
    intro q N hi hN
    obtain ⟨N, rfl⟩ : ∃ M, N = M + 1 := ⟨N - 1, by omega⟩
    show fX4_pointsWithCopies_4_b _ _ _ _ = _
    unfold fX4_pointsWithCopies_4_b
    have e : q = 40 := by omega
    subst e
    rw [if_pos (by decide)]
  | succ j ih =>
    intro q N hi hN
    obtain ⟨N, rfl⟩ : ∃ M, N = M + 1 := ⟨N - 1, by omega⟩
    have hx := ih (q + 1) N (by omega) (by omega)
    show fX4_pointsWithCopies_4_b _ _ _ _ = _
    unfold fX4_pointsWithCopies_4_b fX4_pointsWithCopies_22
    have hz := pts_z (r.2.1 q (by omega))
    rw [nl40, if_neg (nI_ge (by omega) (by omega)), gA_in (by omega) (by decide), ix_nI (by omega), nI_1, nI_1]
    simp only [pts, sm] at hx ⊢
    by_cases z : 0 < cpy e q
    · rw [if_pos z] at hx
      rw [if_neg (fun y => by have := hz.mp y; omega)]; exact hx
    · rw [if_neg z] at hx
      rw [if_pos (hz.mpr (by omega))]; exact hx
theorem ptsX_ok {e : Nat → Nat → Nat} {X : St} (r : RE e X) : fX4_pointsWithCopies X = some (nI (pts e 40), X) := ptsX_l r 40 0 FU (by omega) (by have := FU_gt; omega)
theorem ptsM_l {x n m : Nat} {u v : Nat → Nat} {h : Nat → Option Nat} {M : St} (i : IN n m u v h) (r : RM x n m u v h M) : ∀ (j q N : Nat), q + j = 40 → j < N → fX7_count_126 N (nI (pts (en u v h m) q)) (nI q) M = some (nI (pts (en u v h m) 40), M) := by
  intro j
  induction j with
  | zero =>
    intro q N hi hN
    obtain ⟨N, rfl⟩ : ∃ M, N = M + 1 := ⟨N - 1, by omega⟩
    show fX7_count_126_b _ _ _ _ = _
    unfold fX7_count_126_b
    have e : q = 40 := by omega
    subst e
    rw [if_pos (by decide)]
  | succ j ih =>
    intro q N hi hN
    obtain ⟨N, rfl⟩ : ∃ M, N = M + 1 := ⟨N - 1, by omega⟩
    have hx := ih (q + 1) N (by omega) (by omega)
    have ub := cpy_ub (e := en u v h m) (p := q)
    show fX7_count_126_b _ _ _ _ = _
    unfold fX7_count_126_b fX7_count_146
    simp only [Lt]
    rw [nl40, if_neg (nI_ge (by omega) (by omega)), Bd_eq (copM_ok i r (by omega)), nI_1, nI_1]
    simp only [pts, sm] at hx ⊢
    by_cases z : 0 < cpy (en u v h m) q
    · rw [if_pos z] at hx
      rw [if_neg (nI_nle z (by omega))]; exact hx
    · rw [if_neg z] at hx
      have z0 : cpy (en u v h m) q = 0 := by omega
      rw [z0, if_pos (by decide)]
      have : ∀ y : Nat, nI y + 0 = nI y := fun y => by simp
      rw [this]; exact hx
/-- the least load -/
def mn (f : Nat → Nat) (b : Nat) : Nat → Nat
  | 0 => b
  | n + 1 => if f n < mn f b n then f n else mn f b n
theorem mn_ub {f : Nat → Nat} {b : Nat} : ∀ {n : Nat}, mn f b n ≤ b
  | 0 => Nat.le_refl _
  | n + 1 => by simp only [mn]; have := mn_ub (f := f) (b := b) (n := n); split <;> omega
theorem mn_same {f : Nat → Nat} {a b : Nat} : ∀ {n : Nat}, (∀ k, k < n → f k ≤ a ∧ f k ≤ b) → 0 < n → mn f a n = mn f b n
  | 0, _, h => by omega
  | n + 1, h, _ => by
    simp only [mn]
    by_cases e : n = 0
    · subst e
      simp only [mn]
      have := h 0 (by omega)
      by_cases c1 : f 0 < a <;> by_cases c2 : f 0 < b <;> simp only [c1, c2, if_true, if_false] <;> omega
    · rw [mn_same (fun k hk => h k (by omega)) (by omega)]
theorem leastX_l {n b : Nat} {f : Nat → Nat} {X : St} (h2 : X.1 2 = nI n) (hn : n ≤ 8) (h4 : ∀ k, k < 8 → X.2 4 k = nI (f k)) (hb : b ≤ 3000) (hf : ∀ k, k < 8 → f k ≤ 3000) : ∀ (j i N : Nat), i + j = n → j < N → fX4_leastLoad_7 N (nI (mn f b i)) (nI i) X = some (nI (mn f b n), X) := by
  intro j
  induction j with
  | zero =>
    intro i N hi hN
    obtain ⟨N, rfl⟩ : ∃ M, N = M + 1 := ⟨N - 1, by omega⟩
    show fX4_leastLoad_7_b _ _ _ _ = _
    unfold fX4_leastLoad_7_b
    have e : i = n := by omega
    subst e
    rw [h2, if_pos (Int32.le_refl _)]
  | succ j ih =>
    intro i N hi hN
    obtain ⟨N, rfl⟩ : ∃ M, N = M + 1 := ⟨N - 1, by omega⟩
    have hx := ih (i + 1) N (by omega) (by omega)
    have hmu := mn_ub (f := f) (b := b) (n := i)
    have hfi := hf i (by omega)
    show fX4_leastLoad_7_b _ _ _ _ = _
    unfold fX4_leastLoad_7_b
    simp only [Lt]
    rw [h2, if_neg (nI_ge (by omega) (by omega)), gA_in (by omega) (by decide), ix_nI (by omega), h4 i (by omega), nI_1]
    simp only [mn] at hx
    by_cases q : f i < mn f b i
    · rw [if_pos q] at hx; rw [if_pos (nI_lt q (by omega))]; exact hx
    · rw [if_neg q] at hx; rw [if_neg (nI_nlt (by omega) (by omega))]; exact hx
theorem leastM_l {n b : Nat} {f : Nat → Nat} {X : St} (h2 : X.1 0 = nI n) (hn : n ≤ 8) (h4 : ∀ k, k < 8 → X.2 3 k = nI (f k)) (hb : b ≤ 3000) (hf : ∀ k, k < 8 → f k ≤ 3000) : ∀ (j i N : Nat), i + j = n → j < N → fX7_count_91 N (nI (mn f b i)) (nI i) X = some (nI (mn f b n), X) := by
  intro j
  induction j with
  | zero =>
    intro i N hi hN
    obtain ⟨N, rfl⟩ : ∃ M, N = M + 1 := ⟨N - 1, by omega⟩
    show fX7_count_91_b _ _ _ _ = _
    unfold fX7_count_91_b
    have e : i = n := by omega
    subst e
    rw [h2, if_pos (Int32.le_refl _)]
  | succ j ih =>
    intro i N hi hN
    obtain ⟨N, rfl⟩ : ∃ M, N = M + 1 := ⟨N - 1, by omega⟩
    have hx := ih (i + 1) N (by omega) (by omega)
    have hmu := mn_ub (f := f) (b := b) (n := i)
    have hfi := hf i (by omega)
    show fX7_count_91_b _ _ _ _ = _
    unfold fX7_count_91_b fX7_count_116
    simp only [Lt]
    rw [h2, if_neg (nI_ge (by omega) (by omega)), gA_in (by omega) (by decide), gA_in (by omega) (by decide), ix_nI (by omega), h4 i (by omega), nI_1]
    simp only [mn] at hx
    by_cases q : f i < mn f b i
    · rw [if_pos q] at hx; rw [if_neg (nI_ge q (by omega))]; exact hx
    · rw [if_neg q] at hx; rw [if_pos (nI_le (by omega) (by omega))]; exact hx
theorem du_count (x : Int32) : DU (fX6_count x) (fX7_count x) := by
  rintro X M ⟨n, m, u, v, h, w, ru, sl, le, i, r, q, c, b⟩
  have hm := i.2.2.1
  have h8 := i.2.1
  have h2 := i.1
  have same := Rl_same i r q c b
  have hF := FU_gt
  unfold fX6_count fX7_count
  by_cases q0 : x = 0
  · rw [if_pos q0, if_pos q0, r.1.1, q.1.1]; exact ⟨_, X, M, rfl, rfl, same⟩
  rw [if_neg q0, if_neg q0]
  by_cases q1 : x = 1
  · rw [if_pos q1, if_pos q1, r.1.2.1, q.1.2.1]; exact ⟨_, X, M, rfl, rfl, same⟩
  rw [if_neg q1, if_neg q1]
  by_cases q2 : x = 2
  · rw [if_pos q2, if_pos q2, r.1.2.2, q.1.2.2]; exact ⟨_, X, M, rfl, rfl, same⟩
  rw [if_neg q2, if_neg q2]
  by_cases q3 : x = 3
  · rw [if_pos q3, if_pos q3, c.2.2.1]; exact ⟨_, X, M, rfl, rfl, same⟩
  rw [if_neg q3, if_neg q3]
  by_cases q4 : x = 4
  · rw [if_pos q4, if_pos q4, Bd_eq (great_ok i r), Bd_eq (greatM_ok i q)]; exact ⟨_, X, M, rfl, rfl, same⟩
  rw [if_neg q4, if_neg q4]
  by_cases q5 : x = 5
  · rw [if_pos q5, if_pos q5]
    have hl := fun k => ld_ub (h := h) (m := m) (k := k)
    have hlv := liv_ub (h := h) (m := m)
    have a1 : fX4_leastLoad X = some (nI (mn (ld h m) (sm (ld h m) 8) n), X) := by
      unfold fX4_leastLoad
      simp only [Lt]
      rw [r.1.2.2]
      exact leastX_l (f := ld h m) (b := sm (ld h m) 8) r.1.1 h8 r.2.2.2.2.1 (by omega) (fun k _ => by have := hl k; omega) n 0 FU (by omega) (by omega)
    have a2 := leastM_l (b := 300) q.1.1 h8 q.2.2.2.2.1 (by omega) (fun k _ => by have := hl k; omega) n 0 FU (by omega) (by omega)
    rw [Bd_eq a1]
    refine ⟨_, X, M, rfl, a2.trans ?_, same⟩
    rw [mn_same (a := 300) (b := sm (ld h m) 8) (fun k hk => ⟨by have := hl k; omega, sm_le (by omega)⟩) (by omega)]
  rw [if_neg q5, if_neg q5]
  by_cases q6 : x = 6
  · rw [if_pos q6, if_pos q6, Bd_eq (ptsX_ok r.2.2.2.2.2)]
    exact ⟨_, X, M, rfl, ptsM_l i q 40 0 FU (by omega) (by omega), same⟩
  rw [if_neg q6, if_neg q6]
  by_cases q7 : x = 7
  · rw [if_pos q7, if_pos q7, c.2.2.2.1.1, c.2.2.2.1.2]; exact ⟨_, X, M, rfl, rfl, same⟩
  rw [if_neg q7, if_neg q7]
  by_cases q8 : x = 8
  · rw [if_pos q8, if_pos q8, c.2.2.2.2.1.1, c.2.2.2.2.1.2]; exact ⟨_, X, M, rfl, rfl, same⟩
  rw [if_neg q8, if_neg q8]
  by_cases q9 : x = 9
  · rw [if_pos q9, if_pos q9, c.2.2.2.2.2.1, c.2.2.2.2.2.2]; exact ⟨_, X, M, rfl, rfl, same⟩
  rw [if_neg q9, if_neg q9]
  by_cases q10 : x = 10
  · rw [if_pos q10, if_pos q10, c.2.1.1, c.2.1.2]; exact ⟨_, X, M, rfl, rfl, same⟩
  rw [if_neg q10, if_neg q10]
  exact ⟨_, X, M, rfl, rfl, same⟩
/-- the bits that the reference puts together -/
def bto (e : Nat → Nat) : Nat → Nat
  | 0 => 0
  | k + 1 => if 0 < e k then bto e k ||| 2 ^ k else bto e k
theorem bto_lt {e : Nat → Nat} : ∀ {k : Nat}, k ≤ 8 → bto e k < 256
  | 0, _ => by simp [bto]
  | k + 1, h => by
    simp only [bto]
    have := bto_lt (e := e) (k := k) (by omega)
    split
    · exact bt_orlt this (by omega)
    · exact this
theorem bto_bit {e : Nat → Nat} : ∀ {k : Nat}, k ≤ 8 → ∀ j, j < 8 → (bto e k).testBit j = decide (j < k ∧ 0 < e j)
  | 0, _, j, _ => by simp [bto]
  | k + 1, h, j, hj => by
    simp only [bto]
    have ih := bto_bit (e := e) (k := k) (by omega) j hj
    by_cases c : 0 < e k
    · rw [if_pos c, Nat.testBit_or, bt_p k (by omega) j hj, ih]
      by_cases z : j = k
      · subst z; simp [c]
      · have : (j < k + 1) = (j < k) := by simp; omega
        simp [z, this]
    · rw [if_neg c, ih]
      by_cases z : j = k
      · subst z; simp [c]
      · have : (j < k + 1) = (j < k) := by simp; omega
        simp [this]
theorem cobM_l {x n m : Nat} {u v : Nat → Nat} {h : Nat → Option Nat} {M : St} {p : Nat} (i : IN n m u v h) (r : RM x n m u v h M) (hp : p < 40) : ∀ (j q N : Nat), q + j = n → j < N → fX7_copies_13 N (nI p) (nI (bto (en u v h m p) q)) (nI q) M = some (nI (bto (en u v h m p) n), M) := by
  have hn := i.2.1
  have hm := i.2.2.1
  intro j
  induction j with
  | zero =>
    intro q N hi hN
    obtain ⟨N, rfl⟩ : ∃ M, N = M + 1 := ⟨N - 1, by omega⟩
    show fX7_copies_13_b _ _ _ _ _ = _
    unfold fX7_copies_13_b
    have e : q = n := by omega
    subst e
    rw [r.1.1, if_pos (Int32.le_refl _)]
  | succ j ih =>
    intro q N hi hN
    obtain ⟨N, rfl⟩ : ∃ M, N = M + 1 := ⟨N - 1, by omega⟩
    have hx := ih (q + 1) N (by omega) (by omega)
    have ub := en_ub (u := u) (v := v) (h := h) (m := m) (p := p) (k := q)
    have hlt := bto_lt (e := en u v h m p) (k := q) (by omega)
    show fX7_copies_13_b _ _ _ _ _ = _
    unfold fX7_copies_13_b fX7_copies_43
    simp only [Lt]
    rw [r.1.1, if_neg (nI_ge (by omega) (by omega)), ix8, gA_in (by omega) (by decide), ix_nI (by omega), r.2.2.2.2.2 p hp q (by omega), nI_1]
    simp only [bto] at hx
    by_cases z : 0 < en u v h m p q
    · rw [if_pos z] at hx
      rw [if_neg (nI_nle z (by omega)), bt_set _ hlt q (by omega)]; exact hx
    · rw [if_neg z] at hx
      have z0 : en u v h m p q = 0 := by omega
      rw [z0, if_pos (by decide)]
      have : ∀ y : Int32, y ||| 0 = y := fun y => by simp
      rw [this]; exact hx
theorem du_copies (x : Int32) : DU (fX6_copies x) (fX7_copies x) := by
  rintro X M ⟨n, m, u, v, h, w, ru, sl, le, i, r, q, c, b⟩
  have h8 := i.2.1
  unfold fX6_copies fX7_copies
  rcases out3 (x := x) (n := 40) (by decide) with hx | ⟨p, hp, rfl⟩
  · rw [Bd_eq (isPoint_out hx), Bd_eq (isPointM_out hx)]
    exact ⟨-1, X, M, rfl, rfl, Rl_same i r q c b⟩
  · rw [Bd_eq (isPoint_in hp), Bd_eq (isPointM_in hp), if_neg (by decide), if_neg (by decide), gA_in hp (by decide), ix_nI (by omega)]
    obtain ⟨z, z1, z2, z3⟩ := r.2.2.2.2.2.2.1 p hp
    have hM := cobM_l i q hp n 0 FU (by omega) (by have := FU_gt; omega)
    refine ⟨nI z, X, M, by rw [z2]; rfl, hM.trans ?_, Rl_same i r q c b⟩
    have : bto (en u v h m p) n = z := bt_ext (bto_lt h8) z1 (fun k hk => by
      rw [bto_bit h8 k hk, z3 k hk]
      by_cases hkn : k < n
      · simp [hkn]
      · rw [en_z i (by omega)]; simp)
    rw [this]
