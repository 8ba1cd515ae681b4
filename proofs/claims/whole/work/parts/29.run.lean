/-! a run on the reference's side; parts, letters -/
theorem m36_l {f : Nat → Nat} {k25 : Int32 → Int32 → St → Rs} {v1 v2 : Int32} : ∀ (j q N : Nat) (M : St), q + j = 40 → j < N → (∀ p, p < 40 → M.2 8 p = nI (f p)) → (∀ p, p < q → M.2 9 p = nI (f p)) → ∃ Y, fX7_runs_36 k25 N v1 v2 (nI q) M = fX7_runs_62 k25 FU v1 v2 0 Y ∧ (∀ p, p < 40 → Y.2 9 p = nI (f p)) ∧ fr [] [9] M Y := by
  intro j
  induction j with
  | zero =>
    intro q N M hq hN h8 h9
    obtain ⟨N, rfl⟩ : ∃ K, N = K + 1 := ⟨N - 1, by omega⟩
    have e : q = 40 := by omega
    subst e
    refine ⟨M, ?_, h9, fr_rf⟩
    show fX7_runs_36_b _ _ _ _ _ _ = _
    unfold fX7_runs_36_b
    rw [if_pos (by decide)]
  | succ j ih =>
    intro q N M hq hN h8 h9
    obtain ⟨N, rfl⟩ : ∃ K, N = K + 1 := ⟨N - 1, by omega⟩
    obtain ⟨Y, y1, y2, y3⟩ := ih (q + 1) N (sA M 9 q (M.2 8 q)) (by omega) (by omega) h8 (fun p hp => by
      rw [sAs]
      by_cases e : p = q
      · subst e; rw [pk_us]; exact h8 p (by omega)
      · rw [pk_un e]; exact h9 p (by omega))
    refine ⟨Y, ?_, y2, fr_tr (fr_A (by decide) fr_rf) y3⟩
    show fX7_runs_36_b _ _ _ _ _ _ = _
    unfold fX7_runs_36_b
    rw [nl40, if_neg (nI_ge (by omega) (by omega)), gA_in (by omega) (by decide), gA_in (by omega) (by decide), ix_nI (by omega), nI_1]
    exact y1
theorem m62_l {n m : Nat} {u v : Nat → Nat} {h : Nat → Option Nat} {f : Nat → Nat} {k25 : Int32 → Int32 → St → Rs} {v1 v2 : Int32} (i : IN n m u v h) (hf : ∀ j, j < 40 → f j < 40) : ∀ (j l N : Nat) (M : St), l + j = m → j < N → RM 1000 n m u v h M → (∀ p, p < 40 → M.2 8 p = nI (f p)) → (∀ p, p < 40 → M.2 9 p = nI (rnd f u v h l p)) → ∃ Y, fX7_runs_62 k25 N v1 v2 (nI l) M = fX7_runs_185 k25 FU v1 v2 0 Y ∧ (∀ p, p < 40 → Y.2 9 p = nI (rnd f u v h m p)) ∧ fr [] [9] M Y := by
  have hm := i.2.2.1
  have hn := i.2.1
  intro j
  induction j with
  | zero =>
    intro l N M hl hN r h8 h9
    obtain ⟨N, rfl⟩ : ∃ K, N = K + 1 := ⟨N - 1, by omega⟩
    have e : l = m := by omega
    subst e
    refine ⟨M, ?_, h9, fr_rf⟩
    show fX7_runs_62_b _ _ _ _ _ _ = _
    unfold fX7_runs_62_b
    rw [r.1.2.1, if_pos (Int32.le_refl _)]
  | succ j ih =>
    intro l N M hl hN r h8 h9
    obtain ⟨N, rfl⟩ : ∃ K, N = K + 1 := ⟨N - 1, by omega⟩
    obtain ⟨pu, pv, puv⟩ := i.2.2.2.1 l (by omega)
    have hu0 : ∀ S : St, S.2 0 = M.2 0 → S.2 0 l = nI (u l) := fun S e => by rw [e]; exact r.2.1 l (by omega)
    have hv0 : ∀ S : St, S.2 1 = M.2 1 → S.2 1 l = nI (v l) := fun S e => by rw [e]; exact r.2.2.1 l (by omega)
    have g40 : ∀ p, p < 40 → rnd f u v h l p < 40 := fun p hp => Nat.lt_of_le_of_lt rnd_le (hf p hp)
    show ∃ Y, fX7_runs_62_b _ _ _ _ _ _ = _ ∧ _
    unfold fX7_runs_62_b
    rw [r.1.2.1, if_neg (nI_ge (by omega) (by omega))]
    simp only [gA_in (show l < 300 by omega) (by decide), ix_nI (show l < 2 ^ 31 by omega), r.2.1 l (show l < m by omega), r.2.2.1 l (show l < m by omega), r.2.2.2.1 l (show l < m by omega) (show l ≠ 1000 by omega), gA_in pu (by decide), gA_in pv (by decide), ix_nI (show u l < 2 ^ 31 by omega), ix_nI (show v l < 2 ^ 31 by omega), h8 _ pv, h9 _ pu]
    cases e : h l with
    | none =>
      have e1 : rnd f u v h (l + 1) = rnd f u v h l := by simp only [rnd]; rw [if_neg (by rw [e]; decide)]
      rw [if_pos (show eo none = -1 from rfl)]
      unfold fX7_runs_177
      rw [nI_1]
      exact ih (l + 1) N M (by omega) (by omega) r h8 (by rw [e1]; exact h9)
    | some k =>
      have hk := i.2.2.2.2 l (by omega) k e
      have e1 : rnd f u v h (l + 1) = lo (lo (rnd f u v h l) (u l) (f (v l))) (v l) (f (u l)) := by simp only [rnd]; rw [if_pos (by rw [e]; rfl)]
      rw [if_neg (show ¬ eo (some k) = -1 from nI_nm1 (by omega))]
      -- the second half
      have half : ∀ M1 : St, fr [] [9] M M1 → (∀ p, p < 40 → M1.2 9 p = nI (lo (rnd f u v h l) (u l) (f (v l)) p)) → ∃ Y, fX7_runs_130 k25 (fX7_runs_62 k25 N) v1 v2 (nI l) M1 = fX7_runs_185 k25 FU v1 v2 0 Y ∧ (∀ p, p < 40 → Y.2 9 p = nI (rnd f u v h m p)) ∧ fr [] [9] M Y := by
        intro M1 fM h9'
        have r1 := RM_fr r fM (by decide) (by decide)
        have h8' : ∀ p, p < 40 → M1.2 8 p = nI (f p) := fun p hp => by rw [fM.2 8 (by decide)]; exact h8 p hp
        unfold fX7_runs_130 fX7_runs_177
        rw [nI_1]
        simp only [LtS, gA_in (show l < 300 by omega) (by decide), ix_nI (show l < 2 ^ 31 by omega), r1.2.1 l (show l < m by omega), r1.2.2.1 l (show l < m by omega), gA_in pu (by decide), gA_in pv (by decide), ix_nI (show u l < 2 ^ 31 by omega), ix_nI (show v l < 2 ^ 31 by omega), h8' _ pu, h9' _ pv]
        have b1 : lo (rnd f u v h l) (u l) (f (v l)) (v l) < 40 := Nat.lt_of_le_of_lt lo_le (g40 _ pv)
        have b2 := hf _ pu
        by_cases c : f (u l) < lo (rnd f u v h l) (u l) (f (v l)) (v l)
        · rw [if_neg (nI_ge c (by omega))]
          have fM2 : fr [] [9] M (sA M1 9 (v l) (nI (f (u l)))) := fr_A (by decide) fM
          obtain ⟨Y, y1, y2, y3⟩ := ih (l + 1) N (sA M1 9 (v l) (nI (f (u l)))) (by omega) (by omega) (RM_fr r fM2 (by decide) (by decide)) (fun p hp => by rw [fM2.2 8 (by decide)]; exact h8 p hp) (fun p hp => by
            rw [sAs, e1]
            show _ = nI (if p = v l ∧ _ then _ else _)
            by_cases z : p = v l
            · subst z; rw [pk_us, if_pos ⟨rfl, c⟩]
            · rw [pk_un z, if_neg (fun y => z y.1)]; exact h9' p hp)
          exact ⟨Y, y1, y2, fr_tr fM2 y3⟩
        · rw [if_pos (nI_le (by omega) (by omega))]
          obtain ⟨Y, y1, y2, y3⟩ := ih (l + 1) N M1 (by omega) (by omega) r1 h8' (fun p hp => by
            rw [e1]
            show _ = nI (if p = v l ∧ _ then _ else _)
            rw [if_neg (fun y => c y.2)]; exact h9' p hp)
          exact ⟨Y, y1, y2, fr_tr fM y3⟩
      have b1 := g40 _ pu
      have b2 := hf _ pv
      by_cases c : f (v l) < rnd f u v h l (u l)
      · rw [if_neg (nI_ge c (by omega))]
        exact half (sA M 9 (u l) (nI (f (v l)))) (fr_A (by decide) fr_rf) (fun p hp => by
          rw [sAs]
          show _ = nI (if p = u l ∧ _ then _ else _)
          by_cases z : p = u l
          · subst z; rw [pk_us, if_pos ⟨rfl, c⟩]
          · rw [pk_un z, if_neg (fun y => z y.1)]; exact h9 p hp)
      · rw [if_pos (nI_le (by omega) (by omega))]
        exact half M fr_rf (fun p hp => by
          show _ = nI (if p = u l ∧ _ then _ else _)
          rw [if_neg (fun y => c y.2)]; exact h9 p hp)
theorem m185_l {f g : Nat → Nat} {k25 : Int32 → Int32 → St → Rs} {v1 : Int32} (hf : ∀ j, j < 40 → f j < 40) (hg : ∀ j, j < 40 → g j < 40) : ∀ (j q N : Nat) (M : St), q + j = 40 → j < N → (∀ p, p < 40 → M.2 9 p = nI (g p)) → (∀ p, p < q → M.2 8 p = nI (g p)) → (∀ p, q ≤ p → p < 40 → M.2 8 p = nI (f p)) → ∃ Y, fX7_runs_185 k25 N v1 (flg (dif f g q)) (nI q) M = k25 v1 (flg (dif f g 40)) Y ∧ (∀ p, p < 40 → Y.2 8 p = nI (g p)) ∧ fr [] [8] M Y := by
  intro j
  induction j with
  | zero =>
    intro q N M hq hN h9 h8 h8'
    obtain ⟨N, rfl⟩ : ∃ K, N = K + 1 := ⟨N - 1, by omega⟩
    have e : q = 40 := by omega
    subst e
    refine ⟨M, ?_, h8, fr_rf⟩
    show fX7_runs_185_b _ _ _ _ _ _ = _
    unfold fX7_runs_185_b
    rw [if_pos (by decide)]
  | succ j ih =>
    intro q N M hq hN h9 h8 h8'
    obtain ⟨N, rfl⟩ : ∃ K, N = K + 1 := ⟨N - 1, by omega⟩
    obtain ⟨Y, y1, y2, y3⟩ := ih (q + 1) N (sA M 8 q (nI (g q))) (by omega) (by omega) h9 (fun p hp => by
      rw [sAs]
      by_cases e : p = q
      · subst e; rw [pk_us]
      · rw [pk_un e]; exact h8 p (by omega)) (fun p h1 h2 => by
      rw [sAs, pk_un (by omega)]; exact h8' p (by omega) h2)
    refine ⟨Y, ?_, y2, fr_tr (fr_A (by decide) fr_rf) y3⟩
    show fX7_runs_185_b _ _ _ _ _ _ = _
    unfold fX7_runs_185_b fX7_runs_210 fX7_runs_215
    have b1 := hf q (by omega)
    have b2 := hg q (by omega)
    rw [nl40, if_neg (nI_ge (by omega) (by omega))]
    simp only [LtS, gA_in (show q < 40 by omega) (by decide), ix_nI (show q < 2 ^ 31 by omega), h9 q (show q < 40 by omega), h8' q (Nat.le_refl _) (show q < 40 by omega), nI_1]
    have hd : dif f g (q + 1) = dif f g q + (if decide (g q ≠ f q) = true then 1 else 0) := rfl
    by_cases c : dif f g q = 0
    · rw [if_pos (show flg (dif f g q) = 0 by rw [c]; rfl)]
      by_cases c2 : g q = f q
      · have : flg (dif f g (q + 1)) = 0 := by rw [hd, c, if_neg (by simp [c2])]; rfl
        rw [this] at y1
        rw [if_pos (by rw [c2])]; exact y1
      · have : flg (dif f g (q + 1)) = 1 := by rw [hd, c, if_pos (decide_eq_true c2)]; rfl
        rw [this] at y1
        rw [if_neg (fun z => c2 ((nI_eq (by omega) (by omega)).mp z))]; exact y1
    · have h1 : flg (dif f g q) = 1 := by unfold flg; rw [if_neg c]
      have : flg (dif f g (q + 1)) = 1 := by unfold flg; rw [hd, if_neg (by omega)]
      rw [this] at y1
      rw [h1, if_neg n10]; exact y1
theorem spM_l {n m : Nat} {u v : Nat → Nat} {h : Nat → Option Nat} {T : Nat} (i : IN n m u v h) (hT : T ≤ 40) (hz : dif (sq m u v h T) (sq m u v h (T + 1)) 40 = 0) (hnz : ∀ t, t < T → ¬ dif (sq m u v h t) (sq m u v h (t + 1)) 40 = 0) : ∀ (j t N : Nat) (M : St), t + j = T → j + 1 < N → RM 1000 n m u v h M → (∀ p, p < 40 → M.2 8 p = nI (sq m u v h t p)) → ∃ Y, fX7_runs_25 N (nI t) 1 M = some (nI (T + 1), Y) ∧ (∀ p, p < 40 → Y.2 8 p = nI (sq m u v h (T + 1) p)) ∧ fr [] [8, 9] M Y := by
  have hF := FU_gt
  have hm := i.2.2.1
  have one : ∀ (t N : Nat) (M : St), RM 1000 n m u v h M → (∀ p, p < 40 → M.2 8 p = nI (sq m u v h t p)) → ∃ Y, fX7_runs_25 (N + 1) (nI t) 1 M = fX7_runs_25 N (nI (t + 1)) (flg (dif (sq m u v h t) (sq m u v h (t + 1)) 40)) Y ∧ (∀ p, p < 40 → Y.2 8 p = nI (sq m u v h (t + 1) p)) ∧ fr [] [8, 9] M Y := by
    intro t N M r h8
    obtain ⟨Y1, a1, a2, a3⟩ := m36_l (f := sq m u v h t) (k25 := fX7_runs_25 N) (v1 := nI (t + 1)) (v2 := 0) 40 0 FU M (by omega) (by omega) h8 (fun p hp => by omega)
    have h81 : ∀ p, p < 40 → Y1.2 8 p = nI (sq m u v h t p) := fun p hp => by rw [a3.2 8 (by decide)]; exact h8 p hp
    obtain ⟨Y2, b1, b2, b3⟩ := m62_l (k25 := fX7_runs_25 N) (v1 := nI (t + 1)) (v2 := 0) i (fun p hp => sq_lt hp) m 0 FU Y1 (by omega) (by omega) (RM_fr r a3 (by decide) (by decide)) h81 a2
    have h82 : ∀ p, p < 40 → Y2.2 8 p = nI (sq m u v h t p) := fun p hp => by rw [b3.2 8 (by decide)]; exact h81 p hp
    obtain ⟨Y3, c1, c2, c3⟩ := m185_l (f := sq m u v h t) (g := sq m u v h (t + 1)) (k25 := fX7_runs_25 N) (v1 := nI (t + 1)) (fun p hp => sq_lt hp) (fun p hp => sq_lt hp) 40 0 FU Y2 (by omega) (by omega) b2 (fun p hp => by omega) (fun p _ hp => h82 p hp)
    refine ⟨Y3, ?_, c2, fr_tr (fr_mo a3 (by decide) (by decide)) (fr_tr (fr_mo b3 (by decide) (by decide)) (fr_mo c3 (by decide) (by decide)))⟩
    show fX7_runs_25_b _ _ _ _ = _
    unfold fX7_runs_25_b
    rw [if_neg n10, nI_1]
    exact a1.trans (b1.trans c1)
  intro j
  induction j with
  | zero =>
    intro t N M ht hN r h8
    obtain ⟨N, rfl⟩ : ∃ K, N = K + 2 := ⟨N - 2, by omega⟩
    have e : t = T := by omega
    subst e
    obtain ⟨Y, y1, y2, y3⟩ := one t (N + 1) M r h8
    refine ⟨Y, y1.trans ?_, y2, y3⟩
    show fX7_runs_25_b _ _ _ _ = _
    unfold fX7_runs_25_b
    rw [hz, if_pos (show flg 0 = 0 from rfl)]
  | succ j ih =>
    intro t N M ht hN r h8
    obtain ⟨N, rfl⟩ : ∃ K, N = K + 1 := ⟨N - 1, by omega⟩
    obtain ⟨Y, y1, y2, y3⟩ := one t N M r h8
    obtain ⟨Z, z1, z2, z3⟩ := ih (t + 1) N Y (by omega) (by omega) (RM_fr r y3 (by decide) (by decide)) y2
    refine ⟨Z, y1.trans ?_, z2, fr_tr y3 z3⟩
    have : flg (dif (sq m u v h t) (sq m u v h (t + 1)) 40) = 1 := by unfold flg; rw [if_neg (hnz t (by omega))]
    rw [this]; exact z1
theorem spM0_l : ∀ (j q N : Nat) (M : St), q + j = 40 → j < N → (∀ p, p < q → M.2 8 p = nI p) → ∃ Y, fX7_runs_2 N (nI q) M = fX7_runs_25 FU 0 1 Y ∧ (∀ p, p < 40 → Y.2 8 p = nI p) ∧ fr [] [8, 9] M Y := by
  intro j
  induction j with
  | zero =>
    intro q N X hq hN h11
    obtain ⟨N, rfl⟩ : ∃ K, N = K + 1 := ⟨N - 1, by omega⟩
    have e : q = 40 := by omega
    subst e
    refine ⟨X, ?_, h11, fr_rf⟩
    show fX7_runs_2_b _ _ _ = _
    unfold fX7_runs_2_b
    rw [if_pos (by decide)]
  | succ j ih =>
    intro q N X hq hN h11
    obtain ⟨N, rfl⟩ : ∃ K, N = K + 1 := ⟨N - 1, by omega⟩
    obtain ⟨Y, y1, y3, y4⟩ := ih (q + 1) N (sA X 8 q (nI q)) (by omega) (by omega) (fun p hp => by
      rw [sAs]
      by_cases e : p = q
      · subst e; rw [pk_us]
      · rw [pk_un e]; exact h11 p (by omega))
    refine ⟨Y, ?_, y3, fr_tr (fr_A (by decide) fr_rf) y4⟩
    show fX7_runs_2_b _ _ _ = _
    unfold fX7_runs_2_b
    rw [nl40, if_neg (nI_ge (by omega) (by omega)), gA_in (by omega) (by decide), ix_nI (by omega), nI_1]
    exact y1
theorem spM_ok {n m : Nat} {u v : Nat → Nat} {h : Nat → Option Nat} {T : Nat} {M : St} (i : IN n m u v h) (r : RM 1000 n m u v h M) (hT : T ≤ 40) (hz : dif (sq m u v h T) (sq m u v h (T + 1)) 40 = 0) (hnz : ∀ t, t < T → ¬ dif (sq m u v h t) (sq m u v h (t + 1)) 40 = 0) : ∃ Y, fX7_runs M = some (nI (T + 1), Y) ∧ (∀ p, p < 40 → Y.2 8 p = nI (sq m u v h (T + 1) p)) ∧ fr [] [8, 9] M Y := by
  have hF := FU_gt
  obtain ⟨Y, y1, y3, y4⟩ := spM0_l 40 0 FU M (by omega) (by omega) (fun p hp => by omega)
  obtain ⟨Z, z1, z3, z4⟩ := spM_l i hT hz hnz T 0 FU Y (by omega) (by omega) (RM_fr r y4 (by decide) (by decide)) y3
  exact ⟨Z, y1.trans z1, z3, fr_tr y4 z4⟩
theorem du_part (x : Int32) : DU (fX6_part x) (fX7_part x) := by
  rintro X M ⟨n, m, u, v, h, w, ru, sl, le, i, r, q, c, b⟩
  unfold fX6_part fX7_part
  rcases out3 (x := x) (n := 40) (by decide) with hx | ⟨p, hp, rfl⟩
  · rw [Bd_eq (isPoint_out hx), Bd_eq (isPointM_out hx)]
    exact ⟨-1, X, M, rfl, rfl, Rl_same i r q c b⟩
  · rw [Bd_eq (isPoint_in hp), Bd_eq (isPointM_in hp), if_neg n10, if_neg n10]
    obtain ⟨T, t1, t2, t3⟩ := sq_end (h := h) (fun l hl => ⟨(i.2.2.2.1 l hl).1, (i.2.2.2.1 l hl).2.1⟩)
    obtain ⟨X', a1, a2, a3, a4⟩ := spX_ok i r t1 t2 t3
    obtain ⟨M', b1, b2, b3⟩ := spM_ok i q t1 t2 t3
    rw [Bd_eq a1, Bd_eq b1, gA_in hp (by decide), gA_in hp (by decide), ix_nI (by omega), a3 p hp, b2 p hp]
    exact ⟨_, X', M', rfl, rfl, Rl_mk i (RC_of_fr r a4 (by decide) (by decide)) (RM_fr q b3 (by decide) (by decide)) c b a4 b3 (by decide) (by decide) (by decide)⟩
/-- parts and letters -/
def prt (e : Nat → Nat → Nat) (f : Nat → Nat) (q : Nat) : Nat := sm (fun p => if 0 < cpy e p ∧ f p = p then 1 else 0) q
def ltr (e : Nat → Nat → Nat) (q : Nat) : Nat := sm (fun p => if 1 < cpy e p then 2 * (cpy e p - 1) else 0) q
theorem deg_cpy {e : Nat → Nat → Nat} {p : Nat} : 0 < sm (e p) 8 ↔ 0 < cpy e p := by
  constructor
  · intro h
    refine Classical.byContradiction fun c => ?_
    have : sm (e p) 8 = 0 := sm_0 (fun k hk => by
      refine Classical.byContradiction fun z => c ?_
      have := sm_le (f := fun k => if 0 < e p k then 1 else 0) (k := k) (n := 8) hk
      rw [if_pos (show 0 < e p k by omega)] at this
      exact this)
    omega
  · intro h
    refine Classical.byContradiction fun c => ?_
    have : cpy e p = 0 := sm_0 (fun k hk => by
      have := sm_le (f := e p) (k := k) (n := 8) hk
      rw [if_neg (by omega)])
    omega
theorem ltr_eq {e : Nat → Nat → Nat} : ∀ {q : Nat}, ltr e q + 2 * pts e q = 2 * sm (cpy e) q
  | 0 => rfl
  | q + 1 => by
    have ih := ltr_eq (e := e) (q := q)
    unfold ltr pts at ih ⊢
    simp only [sm]
    by_cases c : 1 < cpy e q
    · rw [if_pos c, if_pos (show 0 < cpy e q by omega)]; omega
    · by_cases d : 0 < cpy e q
      · rw [if_neg c, if_pos d]; omega
      · rw [if_neg c, if_neg d]; omega
theorem prtX_l {e : Nat → Nat → Nat} {f : Nat → Nat} {X : St} (r : RE e X) (hf : ∀ p, p < 40 → f p < 40) (h11 : ∀ p, p < 40 → X.2 11 p = nI (f p)) (hb : ∀ p, p < 40 → ∀ k, k < 8 → e p k ≤ 1000) : ∀ (j q N : Nat), q + j = 40 → j < N → fX5_partsWithLines_4 N (nI (prt e f q)) (nI q) X = some (nI (prt e f 40), X) := by
  intro j
  induction j with
  | zero =>
    intro q N hi hN
    obtain ⟨N, rfl⟩ : ∃ M, N = M + 1 := ⟨N - 1, by omega⟩
    show fX5_partsWithLines_4_b _ _ _ _ = _
    unfold fX5_partsWithLines_4_b
    have e : q = 40 := by omega
    subst e
    rw [if_pos (by decide)]
  | succ j ih =>
    intro q N hi hN
    obtain ⟨N, rfl⟩ : ∃ M, N = M + 1 := ⟨N - 1, by omega⟩
    have hx := ih (q + 1) N (by omega) (by omega)
    have hfq := hf q (by omega)
    have hub := sm_ub (f := e q) (b := 1000) (n := 8) (fun k hk => hb q (by omega) k hk)
    have hdc := deg_cpy (e := e) (p := q)
    show fX5_partsWithLines_4_b _ _ _ _ = _
    unfold fX5_partsWithLines_4_b fX5_partsWithLines_35
    rw [nl40, if_neg (nI_ge (by omega) (by omega)), gA_in (by omega) (by decide), gA_in (by omega) (by decide), ix_nI (by omega), nI_1, nI_1, h11 q (by omega), r.1 q (by omega)]
    have hs : prt e f (q + 1) = prt e f q + (if 0 < cpy e q ∧ f q = q then 1 else 0) := rfl
    rw [hs] at hx
    by_cases z : f q = q
    · rw [if_pos (by rw [z])]
      by_cases y : 0 < cpy e q
      · rw [if_pos ⟨y, z⟩] at hx
        rw [if_neg (nI_nle (hdc.mpr y) (by omega))]; exact hx
      · rw [if_neg (fun t => y t.1)] at hx
        have : sm (e q) 8 = 0 := by
          have := mt hdc.mp y; omega
        rw [this, if_pos (by decide)]; exact hx
    · rw [if_neg (fun t => z t.2)] at hx
      rw [if_neg (fun t => z ((nI_eq (by omega) (by omega)).mp t))]; exact hx
theorem runM_l {n m : Nat} {u v : Nat → Nat} {h : Nat → Option Nat} {f : Nat → Nat} {M : St} {v1 v2 : Int32} (i : IN n m u v h) (r : RM 1000 n m u v h M) (hf : ∀ p, p < 40 → f p < 40) (h8 : ∀ p, p < 40 → M.2 8 p = nI (f p)) : ∀ (j q N : Nat), q + j = 40 → j < N → fX7_run_24 N v1 v2 (nI (ltr (en u v h m) q)) (nI (prt (en u v h m) f q)) (nI q) M = some (if v1 = 0 then v2 else if v1 = 1 then v2 * nI (ltr (en u v h m) 40) else nI (prt (en u v h m) f 40), M) := by
  intro j
  induction j with
  | zero =>
    intro q N hi hN
    obtain ⟨N, rfl⟩ : ∃ M, N = M + 1 := ⟨N - 1, by omega⟩
    show fX7_run_24_b _ _ _ _ _ _ _ = _
    unfold fX7_run_24_b fX7_run_112
    have e : q = 40 := by omega
    subst e
    rw [if_pos (by decide)]
    by_cases c0 : v1 = 0
    · rw [if_pos c0, if_pos c0]
    · rw [if_neg c0, if_neg c0]
      by_cases c1 : v1 = 1
      · rw [if_pos c1, if_pos c1]
      · rw [if_neg c1, if_neg c1]
  | succ j ih =>
    intro q N hi hN
    obtain ⟨N, rfl⟩ : ∃ M, N = M + 1 := ⟨N - 1, by omega⟩
    have hx := ih (q + 1) N (by omega) (by omega)
    have hfq := hf q (by omega)
    have hub := cpy_ub (e := en u v h m) (p := q)
    show fX7_run_24_b _ _ _ _ _ _ _ = _
    unfold fX7_run_24_b fX7_run_56 fX7_run_81 fX7_run_82
    simp only [Lt]
    rw [nl40, if_neg (nI_ge (by omega) (by omega)), Bd_eq (copM_ok i r (by omega))]
    have z0 : ∀ y : Nat, nI y + 0 = nI y := fun y => by simp
    have e1 : (1 : Int32) = nI 1 := rfl
    have e2 : (2 : Int32) = nI 2 := rfl
    simp only [nI_1, z0, gA_in (show q < 40 by omega) (by decide), ix_nI (show q < 2 ^ 31 by omega), h8 q (show q < 40 by omega)]
    simp only [ltr, prt, sm] at hx ⊢
    by_cases y : 0 < cpy (en u v h m) q
    · have hy : ¬ nI (cpy (en u v h m) q) ≤ 0 := nI_nle y (by omega)
      simp only [if_neg hy]
      have tail : (if nI (f q) = nI q then (1 : Nat) else 0) = if 0 < cpy (en u v h m) q ∧ f q = q then 1 else 0 := by
        by_cases z : f q = q
        · rw [if_pos (by rw [z]), if_pos ⟨y, z⟩]
        · rw [if_neg (fun t => z ((nI_eq (by omega) (by omega)).mp t)), if_neg (fun t => z t.2)]
      by_cases c : 1 < cpy (en u v h m) q
      · rw [if_neg (show ¬ nI (cpy (en u v h m) q) ≤ (1 : Int32) from nI_ge (b := cpy (en u v h m) q) (a := 1) c (by omega))]
        rw [if_pos c] at hx
        have ea : (2 : Int32) * (nI (cpy (en u v h m) q) - 1) = nI (2 * (cpy (en u v h m) q - 1)) := by
          rw [nI_m1 (by omega), e2, pk_mul]
        rw [ea, nI_add]
        by_cases z : f q = q
        · rw [if_pos ⟨y, z⟩] at hx
          rw [if_pos (by rw [z])]; exact hx
        · rw [if_neg (fun t => z t.2)] at hx
          rw [if_neg (fun t => z ((nI_eq (by omega) (by omega)).mp t))]; exact hx
      · rw [if_pos (show nI (cpy (en u v h m) q) ≤ (1 : Int32) from nI_le (a := cpy (en u v h m) q) (b := 1) (by omega) (by decide))]
        rw [if_neg c] at hx
        by_cases z : f q = q
        · rw [if_pos ⟨y, z⟩] at hx
          rw [if_pos (by rw [z])]; exact hx
        · rw [if_neg (fun t => z t.2)] at hx
          rw [if_neg (fun t => z ((nI_eq (by omega) (by omega)).mp t))]; exact hx
    · rw [if_neg (show ¬ 1 < cpy (en u v h m) q by omega), if_neg (fun t => y t.1)] at hx
      have y0 : cpy (en u v h m) q = 0 := by omega
      rw [y0, if_pos (by decide), if_pos (by decide)]; exact hx
theorem du_run (x : Int32) : DU (fX6_run x) (fX7_run x) := by
  rintro X M ⟨n, m, u, v, h, w, ru, sl, le, i, r, q, c, b⟩
  have hF := FU_gt
  have hm := i.2.2.1
  unfold fX6_run fX7_run
  rcases out3 (x := x) (n := 3) (by decide) with hx | ⟨a, ha, rfl⟩
  · rw [n2l, Bd_eq (in_out (by decide) hx)]
    refine ⟨-1, X, M, ?_, rfl, Rl_same i r q c b⟩
    by_cases q0 : x < 0
    · rw [if_pos q0]; rfl
    · rw [if_neg q0, ← n2l, if_neg (show ¬ x ≤ (2 : Int32) from Int32.not_le.mpr (lt_le_tr (a := 2) (b := 3) (by decide) (by decide) (hx.resolve_left q0)))]; rfl
  · rw [if_neg (nI_pos (by omega)), if_pos (show nI a ≤ (2 : Int32) from nI_le (b := 2) (by omega) (by decide)), n2l, Bd_eq (in_in (by decide) ha), if_neg n10]
    obtain ⟨T, t1, t2, t3⟩ := sq_end (h := h) (fun l hl => ⟨(i.2.2.2.1 l hl).1, (i.2.2.2.1 l hl).2.1⟩)
    obtain ⟨X', a1, a2, a3, a4⟩ := spX_ok i r t1 t2 t3
    obtain ⟨M', b1, b2, b3⟩ := spM_ok i q t1 t2 t3
    have rX := RC_of_fr r a4 (by decide) (by decide)
    have rM := RM_fr q b3 (by decide) (by decide)
    have same := Rl_mk i rX rM c b a4 b3 (by decide) (by decide) (by decide)
    have hM := runM_l (v1 := nI a) (v2 := nI (T + 1)) i rM (fun p hp => sq_lt hp) b2 40 0 FU (by omega) (by omega)
    rw [Bd_eq a1, Bd_eq b1]
    have hM' : fX7_run_24 FU (nI a) (nI (T + 1)) 0 0 0 M' = _ := hM
    rw [hM']
    by_cases q0 : nI a = 0
    · rw [if_pos q0, if_pos q0, a2]
      exact ⟨_, X', M', rfl, rfl, same⟩
    · rw [if_neg q0, if_neg q0]
      by_cases q1 : nI a = 1
      · rw [if_pos q1, if_pos q1]
        have hl : fX5_letters X' = some (nI (T + 1) * nI (ltr (en u v h m) 40), X') := by
          unfold fX5_letters
          rw [Bd_eq (ptsX_ok rX.2.2.2.2.2)]
          simp only [Lt]
          have e2 : (2 : Int32) = nI 2 := rfl
          have hl := ltr_eq (e := en u v h m) (q := 40)
          rw [a2, rX.2.2.2.2.2.2.2.2, pk_sub (by omega), e2, pk_mul, pk_mul, pk_mul]
          have : (T + 1) * 2 * (sm (cpy (en u v h m)) 40 - pts (en u v h m) 40) = (T + 1) * ltr (en u v h m) 40 := by
            have e3 : 2 * (sm (cpy (en u v h m)) 40 - pts (en u v h m) 40) = ltr (en u v h m) 40 := by omega
            rw [Nat.mul_assoc, e3]
          rw [this]
        rw [Bd_eq hl]
        exact ⟨_, X', M', rfl, rfl, same⟩
      · rw [if_neg q1, if_neg q1]
        have hp : fX5_partsWithLines X' = some (nI (prt (en u v h m) (sq m u v h (T + 1)) 40), X') := prtX_l rX.2.2.2.2.2 (fun p hp => sq_lt hp) a3 (fun p _ k _ => by have := en_ub (u := u) (v := v) (h := h) (m := m) (p := p) (k := k); omega) 40 0 FU (by omega) (by omega)
        rw [Bd_eq hp]
        exact ⟨_, X', M', rfl, rfl, same⟩
