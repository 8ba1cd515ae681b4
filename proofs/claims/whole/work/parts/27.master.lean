/-! masters -/
def lm (c : Nat → Nat) (o : Nat → Int32) : Nat → Option Nat
  | 0 => none
  | k + 1 => match lm c o k with
    | none => if 0 < c k then some k else none
    | some b => if 0 < c k ∧ o k < o b then some k else some b
theorem lm_lt {c : Nat → Nat} {o : Nat → Int32} : ∀ {n b : Nat}, lm c o n = some b → b < n
  | 0, b, h => by simp [lm] at h
  | n + 1, b, h => by
    simp only [lm] at h
    cases e : lm c o n with
    | none =>
      rw [e] at h
      simp only at h
      split at h
      · cases h; omega
      · cases h
    | some d =>
      have := lm_lt e
      rw [e] at h
      simp only at h
      split at h
      · cases h; omega
      · cases h; omega
theorem lmX_l {e : Nat → Nat → Nat} {n p : Nat} {X : St} (r : RE e X) (h2 : X.1 2 = nI n) (hn : n ≤ 8) (hp : p < 40) : ∀ (j q N : Nat), q + j = n → j < N → fX2_leastMasterFor_4 N (nI p) (eo (lm (e p) (X.2 13) q)) (nI q) X = some (eo (lm (e p) (X.2 13) n), X) := by
  intro j
  induction j with
  | zero =>
    intro q N hi hN
    obtain ⟨N, rfl⟩ : ∃ M, N = M + 1 := ⟨N - 1, by omega⟩
    show fX2_leastMasterFor_4_b _ _ _ _ _ = _
    unfold fX2_leastMasterFor_4_b
    have e : q = n := by omega
    subst e
    rw [h2, if_pos (Int32.le_refl _)]
  | succ j ih =>
    intro q N hi hN
    obtain ⟨N, rfl⟩ : ∃ M, N = M + 1 := ⟨N - 1, by omega⟩
    have hx := ih (q + 1) N (by omega) (by omega)
    show fX2_leastMasterFor_4_b _ _ _ _ _ = _
    unfold fX2_leastMasterFor_4_b fX2_leastMasterFor_47 fX2_leastMasterFor_49
    rw [h2, if_neg (nI_ge (by omega) (by omega)), Bd_eq (hasCopy_ok r hp (by omega)), nI_1]
    simp only [lm] at hx
    by_cases z : 0 < e p q
    · rw [if_pos z, if_neg n10]
      cases c : lm (e p) (X.2 13) q with
      | none =>
        rw [c] at hx
        simp only [if_pos z] at hx
        rw [if_pos (show eo none = -1 from rfl)]; exact hx
      | some b =>
        have hb := lm_lt c
        rw [c] at hx
        simp only at hx
        rw [if_neg (show ¬ eo (some b) = -1 from nI_nm1 (by omega)), gA_in (by omega) (by decide)]
        show gA (inb (nI b) 8) (if X.2 13 (ix (nI b)) ≤ X.2 13 (ix (nI q)) then _ else _) = _
        rw [gA_in (by omega) (by decide), ix_nI (by omega), ix_nI (by omega)]
        by_cases d : X.2 13 b ≤ X.2 13 q
        · rw [if_neg (fun y => Int32.not_lt.mpr d y.2)] at hx
          rw [if_pos d]; exact hx
        · rw [if_pos ⟨z, Int32.not_le.mp d⟩] at hx
          rw [if_neg d]; exact hx
    · rw [if_neg z, if_pos rfl]
      cases c : lm (e p) (X.2 13) q with
      | none =>
        rw [c] at hx
        simp only [if_neg z] at hx
        exact hx
      | some b =>
        rw [c] at hx
        simp only at hx
        rw [if_neg (fun y => z y.1)] at hx
        exact hx
theorem lm_congr {c : Nat → Nat} {o o' : Nat → Int32} : ∀ {n : Nat}, (∀ k, k < n → o' k = o k) → lm c o' n = lm c o n
  | 0, _ => rfl
  | n + 1, h => by
    simp only [lm]
    rw [lm_congr (fun k hk => h k (by omega))]
    cases e : lm c o n with
    | none => rfl
    | some b =>
      have := lm_lt e
      simp only
      rw [h n (by omega), h b (by omega)]
theorem lmM_l {x n m : Nat} {u v : Nat → Nat} {h : Nat → Option Nat} {M : St} {p P : Nat} {k34 : Int32 → Int32 → Int32 → St → Rs} (i : IN n m u v h) (r : RM x n m u v h M) (hp : p < 40) : ∀ (j q N : Nat), q + j = n → j < N → fX7_master_44 k34 N (nI P) (eo (lm (en u v h m p) (M.2 10) q)) (nI p) (nI q) M = match lm (en u v h m p) (M.2 10) n with
      | none => k34 (nI P) (-1) (nI (p + 1)) M
      | some b => k34 (nI P) (nI b) (nI (p + 1)) (sA M 10 b (M.2 10 b + 1)) := by
  have hn := i.2.1
  have hm := i.2.2.1
  intro j
  induction j with
  | zero =>
    intro q N hi hN
    obtain ⟨N, rfl⟩ : ∃ M, N = M + 1 := ⟨N - 1, by omega⟩
    show fX7_master_44_b _ _ _ _ _ _ _ = _
    unfold fX7_master_44_b fX7_master_113
    have e : q = n := by omega
    subst e
    rw [r.1.1, if_pos (Int32.le_refl _), nI_1]
    cases c : lm (en u v h m p) (M.2 10) q with
    | none => rfl
    | some b =>
      have hb := lm_lt c
      rw [if_neg (show ¬ eo (some b) = -1 from nI_nm1 (by omega))]
      show gA (inb (nI b) 8) (gA (inb (nI b) 8) (k34 (nI P) (nI b) (nI (p + 1)) (sA M 10 (ix (nI b)) (M.2 10 (ix (nI b)) + 1)))) = _
      rw [gA_in (by omega) (by decide), gA_in (by omega) (by decide), ix_nI (by omega)]
  | succ j ih =>
    intro q N hi hN
    obtain ⟨N, rfl⟩ : ∃ M, N = M + 1 := ⟨N - 1, by omega⟩
    have hx := ih (q + 1) N (by omega) (by omega)
    have ub := en_ub (u := u) (v := v) (h := h) (m := m) (p := p) (k := q)
    rw [← hx]
    show fX7_master_44_b _ _ _ _ _ _ _ = _
    unfold fX7_master_44_b fX7_master_89 fX7_master_92
    rw [r.1.1, if_neg (nI_ge (by omega) (by omega)), ix8, gA_in (by omega) (by decide), ix_nI (show 8 * p + q < 2 ^ 31 by omega), r.2.2.2.2.2 p hp q (by omega), nI_1]
    simp only [lm]
    by_cases z : 0 < en u v h m p q
    · rw [if_neg (nI_nle z (by omega))]
      cases c : lm (en u v h m p) (M.2 10) q with
      | none =>
        simp only [if_pos z]
        rw [if_pos (show eo none = -1 from rfl)]; rfl
      | some b =>
        have hb := lm_lt c
        simp only
        rw [if_neg (show ¬ eo (some b) = -1 from nI_nm1 (by omega)), gA_in (by omega) (by decide)]
        show gA (inb (nI b) 8) (if M.2 10 (ix (nI b)) ≤ M.2 10 (ix (nI q)) then _ else _) = _
        rw [gA_in (by omega) (by decide), ix_nI (by omega), ix_nI (by omega)]
        by_cases d : M.2 10 b ≤ M.2 10 q
        · rw [if_pos d, if_neg (show ¬ (0 < en u v h m p q ∧ M.2 10 q < M.2 10 b) from fun y => Int32.not_lt.mpr d y.2)]
        · rw [if_neg d, if_pos (show 0 < en u v h m p q ∧ M.2 10 q < M.2 10 b from ⟨z, Int32.not_le.mp d⟩)]; rfl
    · have z0 : en u v h m p q = 0 := by omega
      rw [z0, if_pos (by decide)]
      cases c : lm (en u v h m p) (M.2 10) q with
      | none => rfl
      | some b =>
        simp only
        rw [if_neg (fun y => absurd y.1 (by omega))]
theorem mast_l {n m : Nat} {u v : Nat → Nat} {h : Nat → Option Nat} {P : Nat} (i : IN n m u v h) (hP : P < 40) : ∀ (j q N N' : Nat) (X M : St) (b : Int32), q + j = P + 1 → j < N → j < N' → RC n m u v h X → RM 1000 n m u v h M → (∀ k, k < 8 → X.2 13 k = M.2 10 k) → ∃ r X' M', fX2_masterOf_12 N (nI P) b (nI q) X = some (r, X') ∧ fX7_master_34 N' (nI P) b (nI q) M = some (r, M') ∧ fr [] [13] X X' ∧ fr [] [10] M M' := by
  have hn := i.2.1
  intro j
  induction j with
  | zero =>
    intro q N N' X M b hq hN hN' r s hk
    obtain ⟨N, rfl⟩ : ∃ K, N = K + 1 := ⟨N - 1, by omega⟩
    obtain ⟨N', rfl⟩ : ∃ K, N' = K + 1 := ⟨N' - 1, by omega⟩
    refine ⟨b, X, M, ?_, ?_, fr_rf, fr_rf⟩
    · show fX2_masterOf_12_b _ _ _ _ _ = _
      unfold fX2_masterOf_12_b
      rw [if_pos (nI_lt (by omega) (by omega))]
    · show fX7_master_34_b _ _ _ _ _ = _
      unfold fX7_master_34_b
      rw [if_pos (nI_lt (by omega) (by omega))]
  | succ j ih =>
    intro q N N' X M b hq hN hN' r s hk
    obtain ⟨N, rfl⟩ : ∃ K, N = K + 1 := ⟨N - 1, by omega⟩
    obtain ⟨N', rfl⟩ : ∃ K, N' = K + 1 := ⟨N' - 1, by omega⟩
    have hF := FU_gt
    show ∃ r X' M', fX2_masterOf_12_b _ _ _ _ _ = _ ∧ fX7_master_34_b _ _ _ _ _ = _ ∧ _
    unfold fX2_masterOf_12_b fX7_master_34_b fX2_masterOf_38
    rw [if_neg (nI_nlt (by omega) (by omega)), if_neg (nI_nlt (by omega) (by omega))]
    have eX : fX2_leastMasterFor (nI q) X = some (eo (lm (en u v h m q) (X.2 13) n), X) := lmX_l r.2.2.2.2.2 r.1.1 hn (by omega) n 0 FU (by omega) (by omega)
    have eM := lmM_l (P := P) (k34 := fX7_master_34 N') i s (show q < 40 by omega) n 0 FU (by omega) (by omega)
    have eq : lm (en u v h m q) (X.2 13) n = lm (en u v h m q) (M.2 10) n := lm_congr (fun k hk2 => hk k (by omega))
    rw [Bd_eq eX, eq]
    rw [show fX7_master_44 (fX7_master_34 N') FU (nI P) (-1) (nI q) 0 M = _ from eM]
    cases c : lm (en u v h m q) (M.2 10) n with
    | none =>
      rw [if_pos (show eo none = -1 from rfl), nI_1]
      exact ih (q + 1) N N' X M (-1) (by omega) (by omega) (by omega) r s hk
    | some d =>
      have hd := lm_lt c
      rw [if_neg (show ¬ eo (some d) = -1 from nI_nm1 (by omega)), nI_1]
      have fX : fr [] [13] X (sA X 13 d (X.2 13 d + 1)) := fr_A (by decide) fr_rf
      have fM : fr [] [10] M (sA M 10 d (M.2 10 d + 1)) := fr_A (by decide) fr_rf
      obtain ⟨r', X', M', a1, a2, a3, a4⟩ := ih (q + 1) N N' (sA X 13 d (X.2 13 d + 1)) (sA M 10 d (M.2 10 d + 1)) (nI d) (by omega) (by omega) (by omega) (RC_of_fr r fX (by decide) (by decide)) (RM_fr s fM (by decide) (by decide)) (fun k hk2 => by
        rw [sAs, sAs]
        by_cases z : k = d
        · subst z; rw [pk_us, pk_us, hk k hk2]
        · rw [pk_un z, pk_un z]; exact hk k hk2)
      refine ⟨r', X', M', ?_, a2, fr_tr fX a3, fr_tr fM a4⟩
      show gA (inb (nI d) 8) (gA (inb (nI d) 8) (fX2_masterOf_12 N (nI P) (nI d) (nI (q + 1)) (sA X 13 (ix (nI d)) (X.2 13 (ix (nI d)) + 1)))) = _
      rw [gA_in (by omega) (by decide), gA_in (by omega) (by decide), ix_nI (by omega)]
      exact a1
theorem fill_l : ∀ (j q N : Nat) (X : St), q + j = 8 → j < N → (∀ k, k < q → X.2 13 k = 0) → ∃ Y, fJ7_fill_53178_5 N 0 (nI q) 8 X = some (0, Y) ∧ (∀ k, k < 8 → Y.2 13 k = 0) ∧ fr [] [13] X Y := by
  intro j
  induction j with
  | zero =>
    intro q N X hq hN hk
    obtain ⟨N, rfl⟩ : ∃ K, N = K + 1 := ⟨N - 1, by omega⟩
    have e : q = 8 := by omega
    subst e
    refine ⟨X, ?_, hk, fr_rf⟩
    show fJ7_fill_53178_5_b _ _ _ _ _ = _
    unfold fJ7_fill_53178_5_b
    rw [if_pos (by decide)]
  | succ j ih =>
    intro q N X hq hN hk
    obtain ⟨N, rfl⟩ : ∃ K, N = K + 1 := ⟨N - 1, by omega⟩
    obtain ⟨Y, a1, a2, a3⟩ := ih (q + 1) N (sA X 13 q 0) (by omega) (by omega) (fun k hk2 => by
      rw [sAs]
      by_cases z : k = q
      · subst z; rw [pk_us]
      · rw [pk_un z]; exact hk k (by omega))
    refine ⟨Y, ?_, a2, fr_tr (fr_A (by decide) fr_rf) a3⟩
    show fJ7_fill_53178_5_b _ _ _ _ _ = _
    unfold fJ7_fill_53178_5_b
    rw [nl8, if_neg (nI_ge (by omega) (by decide)), gA_in (by omega) (by decide), ix_nI (by omega), nI_1]
    exact a1
theorem fillM_l {P : Nat} : ∀ (j q N : Nat) (M : St), q + j = 8 → j < N → (∀ k, k < q → M.2 10 k = 0) → ∃ Y, fX7_master_11 N (nI P) (nI q) M = fX7_master_34 FU (nI P) (-1) 0 Y ∧ (∀ k, k < 8 → Y.2 10 k = 0) ∧ fr [] [10] M Y := by
  intro j
  induction j with
  | zero =>
    intro q N X hq hN hk
    obtain ⟨N, rfl⟩ : ∃ K, N = K + 1 := ⟨N - 1, by omega⟩
    have e : q = 8 := by omega
    subst e
    refine ⟨X, ?_, hk, fr_rf⟩
    show fX7_master_11_b _ _ _ _ = _
    unfold fX7_master_11_b
    rw [if_pos (by decide)]
  | succ j ih =>
    intro q N X hq hN hk
    obtain ⟨N, rfl⟩ : ∃ K, N = K + 1 := ⟨N - 1, by omega⟩
    obtain ⟨Y, a1, a2, a3⟩ := ih (q + 1) N (sA X 10 q 0) (by omega) (by omega) (fun k hk2 => by
      rw [sAs]
      by_cases z : k = q
      · subst z; rw [pk_us]
      · rw [pk_un z]; exact hk k (by omega))
    refine ⟨Y, ?_, a2, fr_tr (fr_A (by decide) fr_rf) a3⟩
    show fX7_master_11_b _ _ _ _ = _
    unfold fX7_master_11_b
    rw [nl8, if_neg (nI_ge (by omega) (by decide)), gA_in (by omega) (by decide), ix_nI (by omega), nI_1]
    exact a1
theorem du_master (x : Int32) : DU (fX6_master x) (fX7_master x) := by
  rintro X M ⟨n, m, u, v, h, w, ru, sl, le, i, r, q, c, b⟩
  have hF := FU_gt
  unfold fX6_master fX7_master
  rcases out3 (x := x) (n := 40) (by decide) with hx | ⟨p, hp, rfl⟩
  · rw [Bd_eq (isPoint_out hx), Bd_eq (isPointM_out hx)]
    exact ⟨-1, X, M, rfl, rfl, Rl_same i r q c b⟩
  · rw [Bd_eq (isPoint_in hp), Bd_eq (isPointM_in hp), if_neg n10, if_neg n10]
    obtain ⟨X1, e1, z1, f1⟩ := fill_l 8 0 FU X (by omega) (by omega) (fun k hk => by omega)
    obtain ⟨M1, e2, z2, f2⟩ := fillM_l (P := p) 8 0 FU M (by omega) (by omega) (fun k hk => by omega)
    obtain ⟨r', X2, M2, a1, a2, a3, a4⟩ := mast_l (P := p) i hp (p + 1) 0 FU FU X1 M1 (-1) (by omega) (by omega) (by omega) (RC_of_fr r f1 (by decide) (by decide)) (RM_fr q f2 (by decide) (by decide)) (fun k hk => by rw [z1 k hk, z2 k hk])
    have fX := fr_tr f1 a3
    have fM := fr_tr f2 a4
    refine ⟨r', X2, M2, ?_, ?_, Rl_mk i (RC_of_fr r fX (by decide) (by decide)) (RM_fr q fM (by decide) (by decide)) c b fX fM (by decide) (by decide) (by decide)⟩
    · unfold fX2_masterOf
      rw [Bd_eq (F := Bd (fJ7_fill_53178 0 X) _) (r := r') (S := X2) (by
        rw [Bd_eq (show fJ7_fill_53178 0 X = some (0, X1) from e1)]
        exact a1)]
      rfl
    · exact e2.trans a2
