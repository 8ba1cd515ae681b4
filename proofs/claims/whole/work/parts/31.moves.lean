/-! moves made, on both sides -/
theorem mvO_l {n m : Nat} {u v : Nat → Nat} {h : Nat → Option Nat} {R : Int32} {M : St} (i : IN n m u v h) (r : RM 1000 n m u v h M) : ∀ (j l N : Nat), l + j = m → j < N → fX7_moves_18 N R (eL (out (ld h m) (en u v h m) R n u v h l)) (eH (out (ld h m) (en u v h m) R n u v h l)) (out (ld h m) (en u v h m) R n u v h l).2.1 (out (ld h m) (en u v h m) R n u v h l).2.2 (nI l) M = if eL (out (ld h m) (en u v h m) R n u v h m) = -1 then some (0, M) else gA (inb (eL (out (ld h m) (en u v h m) R n u v h m)) 300) (Bd (fX7_puts (eL (out (ld h m) (en u v h m) R n u v h m)) (M.2 2 (ix (eL (out (ld h m) (en u v h m) R n u v h m)))) (-1) M) fun _ S2 => Bd (fX7_puts (eL (out (ld h m) (en u v h m) R n u v h m)) (eH (out (ld h m) (en u v h m) R n u v h m)) 1 S2) fun _ S4 => some (1, S4)) := by
  have hm := i.2.2.1
  have hn := i.2.1
  have hF := FU_gt
  have hn2 := i.1
  intro j
  induction j with
  | zero =>
    intro l N hl hN
    obtain ⟨N, rfl⟩ : ∃ K, N = K + 1 := ⟨N - 1, by omega⟩
    have e : l = m := by omega
    subst e
    show fX7_moves_18_b _ _ _ _ _ _ _ _ = _
    unfold fX7_moves_18_b
    rw [r.1.2.1, if_pos (Int32.le_refl _)]; rfl
  | succ j ih =>
    intro l N hl hN
    obtain ⟨N, rfl⟩ : ∃ K, N = K + 1 := ⟨N - 1, by omega⟩
    have hx := ih (l + 1) N (by omega) (by omega)
    rw [← hx]
    show fX7_moves_18_b _ _ _ _ _ _ _ _ = _
    unfold fX7_moves_18_b
    rw [r.1.2.1, if_neg (nI_ge (by omega) (by omega))]
    cases c : h l with
    | none =>
      have e1 : out (ld h m) (en u v h m) R n u v h (l + 1) = out (ld h m) (en u v h m) R n u v h l := by simp only [out]; rw [c]
      rw [e1]
      obtain ⟨K, eK⟩ : ∃ K, FU = K + 1 := ⟨FU - 1, by omega⟩
      rw [eK]
      show fX7_moves_30_b _ _ _ _ _ _ _ _ _ _ = _
      unfold fX7_moves_30_b fX7_moves_210
      rw [r.1.1, if_neg (show ¬ nI n ≤ (0 : Int32) from nI_nle (by omega) (by omega)), gA_in (by omega) (by decide), ix_nI (by omega), r.2.2.2.1 l (by omega) (by omega), c, if_pos (show eo none = -1 from rfl), nI_1]
    | some f =>
      have e1 : out (ld h m) (en u v h m) R n u v h (l + 1) = inn (ld h m) (en u v h m) R l (u l) (v l) f (out (ld h m) (en u v h m) R n u v h l) n := by simp only [out]; rw [c]
      rw [e1]
      exact mvM_l (R := R) (B := out (ld h m) (en u v h m) R n u v h l) i r (show l < m by omega) c out_good (fun q hq => by have := (out_ok (l := q.1) (t := q.2) hq).1; omega) n 0 FU (by omega) (by omega)
theorem uph_uph {h : Nat → Option Nat} {l : Nat} {x y : Option Nat} : uph (uph h l x) l y l = y := uph_s
theorem mv_step {n m : Nat} {u v : Nat → Nat} {h : Nat → Option Nat} {X M : St} (i : IN n m u v h) (r : RC n m u v h X) (q : RM 1000 n m u v h M) (hs : X.1 7 = M.1 4) : ∃ (k : Int32) (h' : Nat → Option Nat) (X' M' : St), fX6_makeBetterMove X = some (k, X') ∧ fX7_moves M = some (k, M') ∧ IN n m u v h' ∧ RC n m u v h' X' ∧ RM 1000 n m u v h' M' ∧ fr [4, 5, 9, 10, 11, 12] [3, 4, 5, 6, 7] X X' ∧ fr [2] [2, 3, 4] M M' := by
  have hm := i.2.2.1
  have hF := FU_gt
  unfold fX6_makeBetterMove fX7_moves
  have hroom : fX7_room M = some (rmf n (M.1 4) (nI (sm (ld h m) 8)), M) := by
    unfold fX7_room
    rw [Bd_eq (roomForM_ok q.1.1 ⟨i.1, i.2.1⟩), q.1.2.2]
  rw [Bd_eq (roomFor_ok r.1.1 ⟨i.1, i.2.1⟩), Bd_eq hroom, r.1.2.2, hs]
  obtain ⟨X1, a1, a2, a3⟩ := find_ok (R := rmf n (M.1 4) (nI (sm (ld h m) 8))) i r
  have r1 := RC_of_fr r a3 (by decide) (by decide)
  have hM := mvO_l (R := rmf n (M.1 4) (nI (sm (ld h m) 8))) i q m 0 FU (by omega) (by omega)
  have hM' : fX7_moves_18 FU (rmf n (M.1 4) (nI (sm (ld h m) 8))) (-1) 0 0 0 0 M = _ := hM
  rw [Bd_eq a1, hM']
  have hok := fun l t => out_ok (d := ld h m) (e := en u v h m) (R := rmf n (M.1 4) (nI (sm (ld h m) 8))) (n := n) (u := u) (v := v) (h := h) (m := m) (l := l) (t := t)
  generalize out (ld h m) (en u v h m) (rmf n (M.1 4) (nI (sm (ld h m) 8))) n u v h m = B at a2 hok ⊢
  have fX1 := fr_mo (fs' := [4, 5, 9, 10, 11, 12]) (as' := [3, 4, 5, 6, 7]) a3 (by decide) (by decide)
  cases c : B.1 with
  | none =>
    have e1 : eL B = -1 := by unfold eL; rw [c]
    rw [if_neg (show ¬ (none : Option (Nat × Nat)).isSome = true by decide), if_pos rfl, if_pos e1]
    exact ⟨0, h, X1, M, rfl, rfl, i, r1, q, fX1, fr_rf⟩
  | some lt =>
    obtain ⟨l, t⟩ := lt
    obtain ⟨hl, ht, k, hk⟩ := hok l t c
    have e1 : eL B = nI l := by unfold eL; rw [c]
    have e2 : eH B = nI t := by unfold eH; rw [c]
    have h9 : X1.1 9 = nI l := by rw [a2.1, e1]
    have h10 : X1.1 10 = nI t := a2.2.1 l t c
    obtain ⟨X2, b1, b2, b3⟩ := takeOff_ok i r1 hl hk
    obtain ⟨M2, c1, c2, c3⟩ := putsM_off i q hl hk
    obtain ⟨X3, d1, d2, d3⟩ := putOn_ok (l := l) (k := t) (IN_take i) b2 hl uph_s ht
    obtain ⟨M3, g1, g2, g3⟩ := putsM_on (l := l) (k := t) (IN_take i) c2 (Or.inr (by omega)) hl uph_s ht
    refine ⟨1, _, X3, M3, ?_, ?_, IN_put (IN_take i) ht, d2, g2, ?_, fr_tr c3 g3⟩
    · rw [if_neg (show ¬ (if (some (l, t)).isSome = true then (1 : Int32) else 0) = 0 by simp), h9, Bd_eq b1, b3.1 9 (by decide), b3.1 10 (by decide), h9, h10, Bd_eq d1]; rfl
    · rw [e1, e2, if_neg (nI_nm1 (by omega)), gA_in (by omega) (by decide), ix_nI (by omega), q.2.2.2.1 l hl (by omega), hk]
      show Bd (fX7_puts (nI l) (nI k) (-1) M) _ = _
      rw [Bd_eq c1, Bd_eq g1]
    · exact fr_tr fX1 (fr_tr (fr_mo b3 (by decide) (by decide)) (fr_mo d3 (by decide) (by decide)))
theorem bet_l {n m : Nat} {u v : Nat → Nat} {a : Nat} (ha : a ≤ 50) : ∀ (j k N N' : Nat) (h : Nat → Option Nat) (X M : St), k + j = a → j < N → j < N' → IN n m u v h → RC n m u v h X → RM 1000 n m u v h M → X.1 7 = M.1 4 → X.1 1 = M.1 7 → ∃ (z : Int32) (h' : Nat → Option Nat) (X' M' : St), fX6_better_14 N (nI a) (nI k) X = some (z, X') ∧ fX7_better_14 N' (nI a) (nI k) M = some (z, M') ∧ IN n m u v h' ∧ RC n m u v h' X' ∧ RM 1000 n m u v h' M' ∧ X'.1 1 = M'.1 7 ∧ fr [1, 4, 5, 9, 10, 11, 12] [3, 4, 5, 6, 7] X X' ∧ fr [2, 7] [2, 3, 4] M M' := by
  have fin : ∀ (k : Nat) (h : Nat → Option Nat) (X M : St), IN n m u v h → RC n m u v h X → RM 1000 n m u v h M → X.1 1 = M.1 7 → ∃ (z : Int32) (h' : Nat → Option Nat) (X' M' : St), fX6_better_32 (nI k) X = some (z, X') ∧ fX7_better_32 (nI k) M = some (z, M') ∧ IN n m u v h' ∧ RC n m u v h' X' ∧ RM 1000 n m u v h' M' ∧ X'.1 1 = M'.1 7 ∧ fr [1, 4, 5, 9, 10, 11, 12] [3, 4, 5, 6, 7] X X' ∧ fr [2, 7] [2, 3, 4] M M' := by
    intro k h X M i r q e
    refine ⟨nI k, h, sF X 1 (X.1 1 + nI k), sF M 7 (M.1 7 + nI k), rfl, rfl, i, RC_of_fr (fs := [1]) (as := []) r (fr_F (by decide) fr_rf) (by decide) (by decide), RM_fr (fs := [7]) (as := []) q (fr_F (by decide) fr_rf) (by decide) (by decide), ?_, fr_F (by decide) fr_rf, fr_F (by decide) fr_rf⟩
    rw [sFs, sFs, e]
  intro j
  induction j with
  | zero =>
    intro k N N' h X M hk hN hN' i r q e4 e7
    obtain ⟨N, rfl⟩ : ∃ K, N = K + 1 := ⟨N - 1, by omega⟩
    obtain ⟨N', rfl⟩ : ∃ K, N' = K + 1 := ⟨N' - 1, by omega⟩
    show ∃ z h' X' M', fX6_better_14_b _ _ _ _ = _ ∧ fX7_better_14_b _ _ _ _ = _ ∧ _
    unfold fX6_better_14_b fX7_better_14_b
    have e : k = a := by omega
    subst e
    rw [if_pos (Int32.le_refl _), if_pos (Int32.le_refl _)]
    exact fin k h X M i r q e7
  | succ j ih =>
    intro k N N' h X M hk hN hN' i r q e4 e7
    obtain ⟨N, rfl⟩ : ∃ K, N = K + 1 := ⟨N - 1, by omega⟩
    obtain ⟨N', rfl⟩ : ∃ K, N' = K + 1 := ⟨N' - 1, by omega⟩
    show ∃ z h' X' M', fX6_better_14_b _ _ _ _ = _ ∧ fX7_better_14_b _ _ _ _ = _ ∧ _
    unfold fX6_better_14_b fX7_better_14_b
    rw [if_neg (nI_ge (by omega) (by omega)), if_neg (nI_ge (by omega) (by omega))]
    obtain ⟨y, h1, X1, M1, a1, a2, a3, a4, a5, a6, a7⟩ := mv_step i r q e4
    rw [Bd_eq a1, Bd_eq a2, nI_1]
    have e71 : X1.1 1 = M1.1 7 := by rw [a6.1 1 (by decide), a7.1 7 (by decide)]; exact e7
    have e41 : X1.1 7 = M1.1 4 := by rw [a6.1 7 (by decide), a7.1 4 (by decide)]; exact e4
    have f1 := fr_mo (fs' := [1, 4, 5, 9, 10, 11, 12]) (as' := [3, 4, 5, 6, 7]) a6 (by decide) (by decide)
    have f2 := fr_mo (fs' := [2, 7]) (as' := [2, 3, 4]) a7 (by decide) (by decide)
    by_cases y0 : y = 0
    · rw [if_pos y0, if_pos y0]
      obtain ⟨z, h2, X2, M2, b1, b2, b3, b4, b5, b6, b7, b8⟩ := fin k h1 X1 M1 a3 a4 a5 e71
      exact ⟨z, h2, X2, M2, b1, b2, b3, b4, b5, b6, fr_tr f1 b7, fr_tr f2 b8⟩
    · rw [if_neg y0, if_neg y0]
      obtain ⟨z, h2, X2, M2, b1, b2, b3, b4, b5, b6, b7, b8⟩ := ih (k + 1) N N' h1 X1 M1 (by omega) (by omega) (by omega) a3 a4 a5 e41 e71
      exact ⟨z, h2, X2, M2, b1, b2, b3, b4, b5, b6, fr_tr f1 b7, fr_tr f2 b8⟩
theorem n50l : (50 : Int32) = nI 51 - 1 := by decide
theorem du_better (x : Int32) : DU (fX6_better x) (fX7_better x) := by
  rintro X M ⟨n, m, u, v, h, w, ru, sl, le, i, r, q, c, b⟩
  have hF := FU_gt
  unfold fX6_better fX7_better
  rcases out3 (x := x) (n := 51) (by decide) with hx | ⟨a, ha, rfl⟩
  · rw [n50l, Bd_eq (in_out (by decide) hx)]
    refine ⟨-1, X, M, ?_, rfl, Rl_same i r q c b⟩
    by_cases q0 : x < 0
    · rw [if_pos q0]; rfl
    · rw [if_neg q0, ← n50l, if_neg (show ¬ x ≤ (50 : Int32) from Int32.not_le.mpr (lt_le_tr (a := 50) (b := 51) (by decide) (by decide) (hx.resolve_left q0)))]; rfl
  · rw [if_neg (nI_pos (by omega)), if_pos (show nI a ≤ (50 : Int32) from nI_le (b := 50) (by omega) (by decide)), n50l, Bd_eq (in_in (by decide) ha), if_neg n10]
    obtain ⟨z, h', X', M', a1, a2, a3, a4, a5, a6, a7, a8⟩ := bet_l (show a ≤ 50 by omega) a 0 FU FU h X M (by omega) (by omega) (by omega) i r q (by rw [c.2.2.2.2.1.1, c.2.2.2.2.1.2]) c.2.2.1
    refine ⟨z, X', M', a1, a2, n, m, u, v, h', w, ru, sl, le, a3, a4, a5, ?_, BX_fr b a7 (by decide)⟩
    unfold CF
    rw [a7.1 0 (by decide), a7.1 6 (by decide), a7.1 7 (by decide), a7.1 8 (by decide), a8.1 3 (by decide), a8.1 4 (by decide), a8.1 5 (by decide), a8.1 6 (by decide)]
    exact ⟨c.1, c.2.1, a6, c.2.2.2⟩
