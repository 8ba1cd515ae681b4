/-! both sides together -/
def CF (w ru sl le : Nat) (X M : St) : Prop := (w ≤ 300 ∧ ru ≤ 2 ∧ sl ≤ 100 ∧ le ≤ 100) ∧ (X.1 0 = nI w ∧ M.1 3 = nI w) ∧ X.1 1 = M.1 7 ∧ (X.1 6 = nI ru ∧ M.1 6 = nI ru) ∧ (X.1 7 = nI sl ∧ M.1 4 = nI sl) ∧ (X.1 8 = nI le ∧ M.1 5 = nI le)
def BX (X : St) : Prop := (∀ k, k < 3 → X.2 9 k = 0) ∧ ∀ p, p < 40 → X.2 10 p = 0
def Rl (X M : St) : Prop := ∃ (n m : Nat) (u v : Nat → Nat) (h : Nat → Option Nat) (w ru sl le : Nat), IN n m u v h ∧ RC n m u v h X ∧ RM 1000 n m u v h M ∧ CF w ru sl le X M ∧ BX X
def DU (F G : St → Rs) : Prop := ∀ X M, Rl X M → ∃ r X' M', F X = some (r, X') ∧ G M = some (r, M') ∧ Rl X' M'
theorem CF_fr {w ru sl le : Nat} {X M X' M' : St} {fs as fs' as' : List Nat} (c : CF w ru sl le X M) (fX : fr fs as X X') (fM : fr fs' as' M M') (h1 : ∀ k ∈ [0, 1, 6, 7, 8], k ∉ fs) (h2 : ∀ k ∈ [3, 4, 5, 6, 7], k ∉ fs') : CF w ru sl le X' M' := by
  unfold CF
  rw [fX.1 0 (h1 0 (by decide)), fX.1 1 (h1 1 (by decide)), fX.1 6 (h1 6 (by decide)), fX.1 7 (h1 7 (by decide)), fX.1 8 (h1 8 (by decide)), fM.1 3 (h2 3 (by decide)), fM.1 4 (h2 4 (by decide)), fM.1 5 (h2 5 (by decide)), fM.1 6 (h2 6 (by decide)), fM.1 7 (h2 7 (by decide))]
  exact c
theorem BX_fr {X X' : St} {fs as : List Nat} (b : BX X) (fX : fr fs as X X') (h : ∀ k ∈ [9, 10], k ∉ as) : BX X' := by
  unfold BX
  rw [fX.2 9 (h 9 (by decide)), fX.2 10 (h 10 (by decide))]
  exact b
theorem Rl_mk {n m : Nat} {u v : Nat → Nat} {h : Nat → Option Nat} {w ru sl le : Nat} {X M X' M' : St} {fs as fs' as' : List Nat} (i : IN n m u v h) (r : RC n m u v h X') (q : RM 1000 n m u v h M') (c : CF w ru sl le X M) (b : BX X) (fX : fr fs as X X') (fM : fr fs' as' M M') (h1 : ∀ k ∈ [0, 1, 6, 7, 8], k ∉ fs) (h2 : ∀ k ∈ [3, 4, 5, 6, 7], k ∉ fs') (h3 : ∀ k ∈ [9, 10], k ∉ as) : Rl X' M' := ⟨n, m, u, v, h, w, ru, sl, le, i, r, q, CF_fr c fX fM h1 h2, BX_fr b fX h3⟩
theorem isLiveM_out {M : St} {m : Nat} {x : Int32} (hm : m ≤ 300) (hX : M.1 1 = nI m) (hx : x < 0 ∨ nI m ≤ x) : fX7_isLive x M = some (0, M) := by
  unfold fX7_isLive
  rw [hX, Bd_eq (in_out (by omega) hx)]; rfl
theorem isLiveM_in {n m : Nat} {u v : Nat → Nat} {h : Nat → Option Nat} {M : St} {l : Nat} (i : IN n m u v h) (r : RM 1000 n m u v h M) (hl : l < m) : fX7_isLive (nI l) M = some (if (h l).isSome = true then 1 else 0, M) := by
  have hm := i.2.2.1
  have hn := i.2.1
  unfold fX7_isLive
  rw [r.1.2.1, Bd_eq (in_in (by omega) hl), if_neg (by decide), gA_in (by omega) (by decide), ix_nI (by omega), r.2.2.2.1 l hl (by omega)]
  cases e : h l with
  | none => rfl
  | some k =>
    have := i.2.2.2.2 l hl k e
    show (if nI k = (-1 : Int32) then fX7_isLive_28 M else fX7_isLive_29 1 M) = _
    rw [if_neg (nI_nm1 (by omega))]; rfl
theorem isPoint_in {p : Nat} {X : St} (h : p < 40) : fX6_isPoint (nI p) X = some (1, X) := by
  unfold fX6_isPoint
  rw [if_neg (nI_pos (by omega)), nl40, if_neg (nI_ge h (by decide))]; rfl
theorem isPoint_out {x : Int32} {X : St} (h : x < 0 ∨ nI 40 ≤ x) : fX6_isPoint x X = some (0, X) := by
  unfold fX6_isPoint
  by_cases q : x < 0
  · rw [if_pos q]; rfl
  · rw [if_neg q, nl40, if_pos (h.resolve_left q)]; rfl
theorem out3 {x : Int32} {n : Nat} (hn : n < 2 ^ 31) : (x < 0 ∨ nI n ≤ x) ∨ ∃ j, j < n ∧ x = nI j := by
  rcases pk_ix x hn with h | h | h
  · exact Or.inl (Or.inl h)
  · exact Or.inl (Or.inr h)
  · exact Or.inr h
theorem du_leave (x : Int32) : DU (fX6_leave x) (fX7_leave x) := by
  rintro X M ⟨n, m, u, v, h, w, ru, sl, le, i, r, q, c, b⟩
  have hm := i.2.2.1
  unfold fX6_leave fX7_leave
  rcases out3 (x := x) (n := m) (by omega) with hx | ⟨l, hl, rfl⟩
  · rw [Bd_eq (takeOff_out r.1.2.1 hx), Bd_eq (isLiveM_out hm q.1.2.1 hx)]
    exact ⟨0, X, M, rfl, rfl, Rl_mk i r q c b (fr_rf (fs := [])) (fr_rf (fs := [])) (by decide) (by decide) (as := []) (as' := []) (by decide)⟩
  · rw [Bd_eq (isLiveM_in i q hl)]
    cases e : h l with
    | none =>
      rw [Bd_eq (takeOff_none i r hl e)]
      exact ⟨0, X, M, rfl, rfl, Rl_mk i r q c b (fr_rf (fs := [])) (fr_rf (fs := [])) (by decide) (by decide) (as := []) (as' := []) (by decide)⟩
    | some k =>
      obtain ⟨X', e1, r1, f1⟩ := takeOff_ok i r hl e
      obtain ⟨M', e2, q2, f2⟩ := putsM_off i q hl e
      have hq : M.2 2 l = nI k := by rw [q.2.2.2.1 l hl (by omega), e]; rfl
      rw [Bd_eq e1]
      refine ⟨1, X', M', rfl, ?_, Rl_mk (IN_take i) r1 q2 c b f1 f2 (by decide) (by decide) (by decide)⟩
      rw [if_neg (show ¬ (if (some k).isSome = true then (1 : Int32) else 0) = 0 from by simp), gA_in (by omega) (by decide), ix_nI (by omega), hq, Bd_eq e2]; rfl
/-- the window on both sides -/
theorem win_l {n m : Nat} {u v : Nat → Nat} {w : Nat} (hw : 0 < w) (hw3 : w ≤ 300) : ∀ (j l N N' : Nat) (h : Nat → Option Nat) (X M : St), l + j = m → j < N → j < N' → IN n m u v h → RC n m u v h X → RM 1000 n m u v h M → X.1 0 = nI w → M.1 3 = nI w → ∃ h' X' M', fX6_keepWindow_10 N (nI l) X = some (0, X') ∧ fX7_shuts_2 N' (nI l) M = some (0, M') ∧ IN n m u v h' ∧ RC n m u v h' X' ∧ RM 1000 n m u v h' M' ∧ fr [4, 5] [3, 4, 5, 6, 7] X X' ∧ fr [2] [2, 3, 4] M M' := by
  intro j
  induction j with
  | zero =>
    intro l N N' h X M hl hN hN' i r q x0 m3
    obtain ⟨N, rfl⟩ : ∃ K, N = K + 1 := ⟨N - 1, by omega⟩
    obtain ⟨N', rfl⟩ : ∃ K, N' = K + 1 := ⟨N' - 1, by omega⟩
    have e : l = m := by omega
    subst e
    refine ⟨h, X, M, ?_, ?_, i, r, q, fr_rf, fr_rf⟩
    · show fX6_keepWindow_10_b _ _ _ = _
      unfold fX6_keepWindow_10_b
      rw [r.1.2.1, if_pos (Int32.le_refl _)]; rfl
    · show fX7_shuts_2_b _ _ _ = _
      unfold fX7_shuts_2_b
      rw [q.1.2.1, if_pos (Int32.le_refl _)]; rfl
  | succ j ih =>
    intro l N N' h X M hl hN hN' i r q x0 m3
    obtain ⟨N, rfl⟩ : ∃ K, N = K + 1 := ⟨N - 1, by omega⟩
    obtain ⟨N', rfl⟩ : ∃ K, N' = K + 1 := ⟨N' - 1, by omega⟩
    have hm := i.2.2.1
    have hn := i.2.1
    have hlv := liv_ub (h := h) (m := m)
    show ∃ h' X' M', fX6_keepWindow_10_b _ _ _ = _ ∧ fX7_shuts_2_b _ _ _ = _ ∧ _
    unfold fX6_keepWindow_10_b fX7_shuts_2_b
    rw [r.1.2.1, q.1.2.1, if_neg (nI_ge (by omega) (by omega)), if_neg (nI_ge (by omega) (by omega)), x0, m3, r.1.2.2, q.1.2.2, if_neg (nI_nle hw (by omega))]
    by_cases c : nI (sm (ld h m) 8) ≤ nI w
    · rw [if_pos c, if_pos c]
      exact ⟨h, X, M, rfl, rfl, i, r, q, fr_rf, fr_rf⟩
    · rw [if_neg c, if_neg c, gA_in (by omega) (by decide), gA_in (by omega) (by decide), ix_nI (by omega), q.2.2.2.1 l (by omega) (by omega)]
      unfold fX7_shuts_50
      rw [nI_1]
      cases e : h l with
      | none =>
        rw [Bd_eq (takeOff_none i r (by omega) e), if_pos (show eo none = -1 from rfl)]
        exact ih (l + 1) N N' h X M (by omega) (by omega) (by omega) i r q x0 m3
      | some k =>
        have hk := i.2.2.2.2 l (by omega) k e
        obtain ⟨X1, e1, r1, f1⟩ := takeOff_ok i r (by omega) e
        obtain ⟨M1, e2, q2, f2⟩ := putsM_off i q (by omega) e
        rw [Bd_eq e1, if_neg (show ¬ eo (some k) = -1 from nI_nm1 (by omega))]
        obtain ⟨h', X', M', a1, a2, a3, a4, a5, a6, a7⟩ := ih (l + 1) N N' (uph h l none) X1 M1 (by omega) (by omega) (by omega) (IN_take i) r1 q2 (by rw [f1.1 0 (by decide)]; exact x0) (by rw [f2.1 3 (by decide)]; exact m3)
        refine ⟨h', X', M', a1, ?_, a3, a4, a5, fr_tr f1 a6, fr_tr f2 a7⟩
        show Bd (fX7_puts (nI l) (nI k) (-1) M) _ = _
        rw [Bd_eq e2]; exact a2
theorem win_ok {n m : Nat} {u v : Nat → Nat} {h : Nat → Option Nat} {w : Nat} {X M : St} (hw3 : w ≤ 300) (i : IN n m u v h) (r : RC n m u v h X) (q : RM 1000 n m u v h M) (x0 : X.1 0 = nI w) (m3 : M.1 3 = nI w) : ∃ h' X' M', fX6_keepWindow X = some (0, X') ∧ fX7_shuts M = some (0, M') ∧ IN n m u v h' ∧ RC n m u v h' X' ∧ RM 1000 n m u v h' M' ∧ fr [4, 5] [3, 4, 5, 6, 7] X X' ∧ fr [2] [2, 3, 4] M M' := by
  have hm := i.2.2.1
  have hF := FU_gt
  unfold fX6_keepWindow fX7_shuts
  by_cases hw : w = 0
  · subst hw
    rw [x0, if_pos nI_0]
    refine ⟨h, X, M, rfl, ?_, i, r, q, fr_rf, fr_rf⟩
    obtain ⟨N, e⟩ : ∃ K, FU = K + 1 := ⟨FU - 1, by omega⟩
    rw [e]
    show fX7_shuts_2_b _ _ _ = _
    unfold fX7_shuts_2_b
    rw [m3]
    by_cases c : M.1 1 ≤ 0
    · rw [if_pos c]; rfl
    · rw [if_neg c, if_pos (by decide)]; rfl
  · rw [x0, if_neg (nI_ne0 (by omega) (by omega))]
    exact win_l (by omega) hw3 m 0 FU FU h X M (by omega) (by omega) (by omega) i r q x0 m3
theorem n300 : (300 : Int32) = nI 301 - 1 := by decide
theorem du_window (x : Int32) : DU (fX6_window x) (fX7_window x) := by
  rintro X M ⟨n, m, u, v, h, w, ru, sl, le, i, r, q, c, b⟩
  unfold fX6_window fX7_window
  rcases out3 (x := x) (n := 301) (by decide) with hx | ⟨w', hw, rfl⟩
  · rw [n300, Bd_eq (in_out (by decide) hx)]
    refine ⟨0, X, M, ?_, rfl, Rl_mk i r q c b (fr_rf (fs := [])) (fr_rf (fs := [])) (by decide) (by decide) (as := []) (as' := []) (by decide)⟩
    by_cases q0 : x < 0
    · rw [if_pos q0]; rfl
    · rw [if_neg q0, ← n300, if_neg (show ¬ x ≤ (300 : Int32) from Int32.not_le.mpr (lt_le_tr (a := 300) (b := 301) (by decide) (by decide) (hx.resolve_left q0)))]; rfl
  · rw [if_neg (nI_pos (by omega)), if_pos (show nI w' ≤ (300 : Int32) from nI_le (b := 300) (by omega) (by decide)), n300, Bd_eq (in_in (by decide) hw), if_neg (by decide)]
    simp only [LtS]
    obtain ⟨h', X', M', a1, a2, a3, a4, a5, a6, a7⟩ := win_ok (w := w') (X := sF X 0 (nI w')) (M := sF M 3 (nI w')) (by omega) i (RC_of_fr (fs := [0]) (as := []) r (fr_F (by decide) fr_rf) (by decide) (by decide)) (RM_fr (fs := [3]) (as := []) q (fr_F (by decide) fr_rf) (by decide) (by decide)) rfl rfl
    rw [Bd_eq a1, Bd_eq a2]
    refine ⟨1, X', M', rfl, rfl, n, m, u, v, h', w', ru, sl, le, a3, a4, a5, ?_, BX_fr (X := sF X 0 (nI w')) b a6 (by decide)⟩
    exact CF_fr (X := sF X 0 (nI w')) (M := sF M 3 (nI w')) ⟨⟨by omega, c.1.2⟩, ⟨rfl, rfl⟩, c.2.2.1, c.2.2.2.1, c.2.2.2.2.1, c.2.2.2.2.2⟩ a6 a7 (by decide) (by decide)
theorem n2l : (2 : Int32) = nI 3 - 1 := by decide
theorem du_rule (x : Int32) : DU (fX6_rule x) (fX7_rule x) := by
  rintro X M ⟨n, m, u, v, h, w, ru, sl, le, i, r, q, c, b⟩
  unfold fX6_rule fX7_rule
  rcases out3 (x := x) (n := 3) (by decide) with hx | ⟨w', hw, rfl⟩
  · rw [n2l, Bd_eq (in_out (by decide) hx)]
    refine ⟨0, X, M, ?_, rfl, Rl_mk i r q c b (fr_rf (fs := [])) (fr_rf (fs := [])) (by decide) (by decide) (as := []) (as' := []) (by decide)⟩
    by_cases q0 : x < 0
    · rw [if_pos q0]; rfl
    · rw [if_neg q0, ← n2l, if_neg (show ¬ x ≤ (2 : Int32) from Int32.not_le.mpr (lt_le_tr (a := 2) (b := 3) (by decide) (by decide) (hx.resolve_left q0)))]; rfl
  · rw [if_neg (nI_pos (by omega)), if_pos (show nI w' ≤ (2 : Int32) from nI_le (b := 2) (by omega) (by decide)), n2l, Bd_eq (in_in (by decide) hw), if_neg (by decide)]
    refine ⟨1, sF X 6 (nI w'), sF M 6 (nI w'), rfl, rfl, n, m, u, v, h, w, w', sl, le, i, RC_of_fr (fs := [6]) (as := []) r (fr_F (by decide) fr_rf) (by decide) (by decide), RM_fr (fs := [6]) (as := []) q (fr_F (by decide) fr_rf) (by decide) (by decide), ?_, b⟩
    exact ⟨⟨c.1.1, by omega, c.1.2.2⟩, c.2.1, c.2.2.1, ⟨rfl, rfl⟩, c.2.2.2.2.1, c.2.2.2.2.2⟩
theorem n100l : (100 : Int32) = nI 101 - 1 := by decide
theorem isWeight_in {j : Nat} {X : St} (h : j < 101) : fX6_isWeight (nI j) X = some (1, X) := by
  unfold fX6_isWeight
  rw [if_neg (nI_pos (by omega)), if_neg (show ¬ (100 : Int32) < nI j from nI_nlt (b := j) (a := 100) (by omega) (by decide))]; rfl
theorem isWeight_out {x : Int32} {X : St} (h : x < 0 ∨ nI 101 ≤ x) : fX6_isWeight x X = some (0, X) := by
  unfold fX6_isWeight
  by_cases q : x < 0
  · rw [if_pos q]; rfl
  · rw [if_neg q, if_pos (show (100 : Int32) < x from lt_le_tr (a := 100) (b := 101) (by decide) (by decide) (h.resolve_left q))]; rfl
theorem du_weights (x y : Int32) : DU (fX6_weights x y) (fX7_weights x y) := by
  rintro X M ⟨n, m, u, v, h, w, ru, sl, le, i, r, q, c, b⟩
  unfold fX6_weights fX7_weights
  have same : Rl X M := Rl_mk i r q c b (fr_rf (fs := [])) (fr_rf (fs := [])) (by decide) (by decide) (as := []) (as' := []) (by decide)
  rcases out3 (x := x) (n := 101) (by decide) with hx | ⟨a, ha, rfl⟩
  · rw [n100l, Bd_eq (in_out (by decide) hx), Bd_eq (isWeight_out hx)]
    exact ⟨0, X, M, rfl, rfl, same⟩
  · rw [n100l, Bd_eq (in_in (by decide) ha), Bd_eq (isWeight_in ha), if_neg (by decide), if_neg (by decide)]
    rcases out3 (x := y) (n := 101) (by decide) with hx | ⟨d, hd, rfl⟩
    · rw [Bd_eq (in_out (by decide) hx), Bd_eq (isWeight_out hx)]
      exact ⟨0, X, M, rfl, rfl, same⟩
    · rw [Bd_eq (in_in (by decide) hd), Bd_eq (isWeight_in hd), if_neg (by decide), if_neg (by decide)]
      refine ⟨1, sF (sF X 7 (nI a)) 8 (nI d), sF (sF M 4 (nI a)) 5 (nI d), rfl, rfl, n, m, u, v, h, w, ru, a, d, i, RC_of_fr (fs := [7, 8]) (as := []) r (fr_F (by decide) (fr_F (by decide) fr_rf)) (by decide) (by decide), RM_fr (fs := [4, 5]) (as := []) q (fr_F (by decide) (fr_F (by decide) fr_rf)) (by decide) (by decide), ?_, b⟩
      exact ⟨⟨c.1.1, c.1.2.1, by omega, by omega⟩, c.2.1, c.2.2.1, c.2.2.2.1, ⟨rfl, rfl⟩, ⟨rfl, rfl⟩⟩
theorem du_more : DU fX6_more fX7_more := by
  rintro X M ⟨n, m, u, v, h, w, ru, sl, le, i, r, q, c, b⟩
  have h8 := i.2.1
  unfold fX6_more fX7_more
  simp only [LtS]
  rw [r.1.1, q.1.1]
  by_cases e : n = 8
  · subst e
    rw [if_neg (by decide), if_pos (show nI 8 = (8 : Int32) from rfl)]
    exact ⟨-1, X, M, rfl, rfl, Rl_mk i r q c b (fr_rf (fs := [])) (fr_rf (fs := [])) (by decide) (by decide) (as := []) (as' := []) (by decide)⟩
  · rw [if_pos (show nI n < (8 : Int32) from nI_lt (b := 8) (by omega) (by decide)), if_neg (show ¬ nI n = (8 : Int32) from fun z => e ((nI_eq (b := 8) (by omega) (by decide)).mp z)), nI_1]
    have i2 : IN (n + 1) m u v h := ⟨by have := i.1; omega, by omega, i.2.2.1, i.2.2.2.1, fun l hl k hk => by have := i.2.2.2.2 l hl k hk; omega⟩
    refine ⟨nI (n + 1), sF X 2 (nI (n + 1)), sF M 0 (nI (n + 1)), rfl, rfl, ?_⟩
    exact Rl_mk (fs := [2]) (as := []) (fs' := [0]) (as' := []) i2 ⟨⟨rfl, r.1.2⟩, r.2.1, r.2.2.1, r.2.2.2.1, r.2.2.2.2.1, r.2.2.2.2.2⟩ ⟨⟨rfl, q.1.2⟩, q.2⟩ c b (fr_F (by decide) fr_rf) (fr_F (by decide) fr_rf) (by decide) (by decide) (by decide)
theorem Rl_same {n m : Nat} {u v : Nat → Nat} {h : Nat → Option Nat} {w ru sl le : Nat} {X M : St} (i : IN n m u v h) (r : RC n m u v h X) (q : RM 1000 n m u v h M) (c : CF w ru sl le X M) (b : BX X) : Rl X M := ⟨n, m, u, v, h, w, ru, sl, le, i, r, q, c, b⟩
theorem du_host (x : Int32) : DU (fX6_host x) (fX7_host x) := by
  rintro X M ⟨n, m, u, v, h, w, ru, sl, le, i, r, q, c, b⟩
  have hm := i.2.2.1
  unfold fX6_host fX7_host
  rw [q.1.2.1]
  rcases out3 (x := x) (n := m) (by omega) with hx | ⟨l, hl, rfl⟩
  · rw [Bd_eq (isLive_out r.1.2.1 hx), Bd_eq (in_out (by omega) hx)]
    exact ⟨-1, X, M, rfl, rfl, Rl_same i r q c b⟩
  · rw [Bd_eq (isLive_in i r hl), Bd_eq (in_in (by omega) hl), if_neg (show ¬ (1 : Int32) = 0 by decide), gA_in (by omega) (by decide), gA_in (by omega) (by decide), ix_nI (by omega), r.2.2.2.1 l hl, q.2.2.2.1 l hl (by omega)]
    cases e : h l with
    | none => exact ⟨-1, X, M, rfl, rfl, Rl_same i r q c b⟩
    | some k => exact ⟨nI k, X, M, rfl, rfl, Rl_same i r q c b⟩
theorem du_load (x : Int32) : DU (fX6_load x) (fX7_load x) := by
  rintro X M ⟨n, m, u, v, h, w, ru, sl, le, i, r, q, c, b⟩
  have h8 := i.2.1
  unfold fX6_load fX7_load
  rw [q.1.1]
  rcases out3 (x := x) (n := n) (by omega) with hx | ⟨k, hk, rfl⟩
  · rw [Bd_eq (hasHost_out r.1.1 hx), Bd_eq (in_out (by omega) hx)]
    exact ⟨-1, X, M, rfl, rfl, Rl_same i r q c b⟩
  · rw [Bd_eq (hasHost_in r.1.1 h8 hk), Bd_eq (in_in (by omega) hk), if_neg (by decide), if_neg (by decide), gA_in (by omega) (by decide), gA_in (by omega) (by decide), ix_nI (by omega), r.2.2.2.2.1 k (by omega), q.2.2.2.2.1 k (by omega)]
    exact ⟨nI (ld h m k), X, M, rfl, rfl, Rl_same i r q c b⟩
theorem du_degree (x : Int32) : DU (fX6_degree x) (fX7_degree x) := by
  rintro X M ⟨n, m, u, v, h, w, ru, sl, le, i, r, q, c, b⟩
  rcases out3 (x := x) (n := 40) (by decide) with hx | ⟨p, hp, rfl⟩
  · unfold fX6_degree fX7_degree
    rw [Bd_eq (isPoint_out hx), Bd_eq (isPointM_out hx)]
    exact ⟨-1, X, M, rfl, rfl, Rl_same i r q c b⟩
  · rw [degM_ok i q hp]
    unfold fX6_degree
    rw [Bd_eq (isPoint_in hp), if_neg (by decide), gA_in hp (by decide), ix_nI (by omega), r.2.2.2.2.2.1 p hp]
    exact ⟨nI (sm (en u v h m p) 8), X, M, rfl, rfl, Rl_same i r q c b⟩
theorem du_room : DU fX6_room fX7_room := by
  rintro X M ⟨n, m, u, v, h, w, ru, sl, le, i, r, q, c, b⟩
  unfold fX6_room fX7_room
  rw [Bd_eq (roomFor_ok r.1.1 ⟨i.1, i.2.1⟩), Bd_eq (roomForM_ok q.1.1 ⟨i.1, i.2.1⟩), r.1.2.2, q.1.2.2, c.2.2.2.2.1.1, c.2.2.2.2.1.2]
  exact ⟨_, X, M, rfl, rfl, Rl_same i r q c b⟩
