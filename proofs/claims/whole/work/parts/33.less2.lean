/-! a host goes, second half: what the reference's rows are then; the lines are dealt anew -/
def sft (k t : Nat) : Nat := if t < k then t else t + 1
theorem drp_eq {k t : Nat} {o : Option Nat} : (drp k o == some t) = ((if o = some k then none else o) == some (sft k t)) := by
  cases o with
  | none => rfl
  | some j =>
    by_cases c1 : j = k
    · subst c1
      have : drp j (some j) = none := by show (if j = j then none else _) = _; rw [if_pos rfl]
      rw [this, if_pos rfl]; rfl
    · rw [if_neg (fun z => c1 (Option.some.inj z))]
      by_cases c2 : k < j
      · have : drp k (some j) = some (j - 1) := by
          show (if j = k then none else if k < j then some (j - 1) else some j) = _
          rw [if_neg c1, if_pos c2]
        rw [this]
        unfold sft
        by_cases d : t < k
        · rw [if_pos d]
          have a1 : (some (j - 1) == some t) = false := by simp; omega
          have a2 : (some j == some t) = false := by simp; omega
          rw [a1, a2]
        · rw [if_neg d]
          by_cases g : j = t + 1
          · subst g; simp
          · have a1 : (some (j - 1) == some t) = false := by simp; omega
            have a2 : (some j == some (t + 1)) = false := by simp; omega
            rw [a1, a2]
      · have : drp k (some j) = some j := by
          show (if j = k then none else if k < j then some (j - 1) else some j) = _
          rw [if_neg c1, if_neg c2]
        rw [this]
        unfold sft
        by_cases d : t < k
        · rw [if_pos d]
        · rw [if_neg d]
          have a1 : (some j == some t) = false := by simp; omega
          have a2 : (some j == some (t + 1)) = false := by simp; omega
          rw [a1, a2]
theorem hcu_b {k m l t : Nat} {h : Nat → Option Nat} (hl : l < m) : (hcu k m h l == some t) = (hcn k m h l == some (sft k t)) := by
  have e1 : hcu k m h l = drp k (h l) := by unfold hcu; rw [if_pos hl]
  have e2 : hcn k m h l = if h l = some k then none else h l := by
    unfold hcn
    by_cases c : h l = some k
    · rw [if_pos ⟨hl, c⟩, if_pos c]
    · rw [if_neg (fun z => c z.2), if_neg c]
  rw [e1, e2]; exact drp_eq
theorem ld_hcu {k m t : Nat} {h : Nat → Option Nat} : ld (hcu k m h) m t = ld (hcn k m h) m (sft k t) := cnt_congr (fun l hl => hcu_b hl)
theorem en_hcu {k m p t : Nat} {u v : Nat → Nat} {h : Nat → Option Nat} : en u v (hcu k m h) m p t = en u v (hcn k m h) m p (sft k t) := by
  unfold en
  rw [cnt_congr (P := fun l => hcu k m h l == some t && u l == p) (Q := fun l => hcn k m h l == some (sft k t) && u l == p) (fun l hl => by simp only [hcu_b hl]), cnt_congr (P := fun l => hcu k m h l == some t && v l == p) (Q := fun l => hcn k m h l == some (sft k t) && v l == p) (fun l hl => by simp only [hcu_b hl])]
theorem ld_hcn {k m : Nat} {h : Nat → Option Nat} : ld (hcn k m h) m k = 0 := cnt_zero (fun l hl => by
  unfold hcn
  by_cases c : h l = some k
  · rw [if_pos ⟨hl, c⟩]; rfl
  · rw [if_neg (fun z => c z.2)]; simp [c])
theorem sm_sft {f : Nat → Nat} {k : Nat} : ∀ {n : Nat}, k ≤ n → sm (fun t => f (sft k t)) n + f k = sm f (n + 1)
  | 0, h => by
    have : k = 0 := by omega
    subst this; simp [sm]
  | n + 1, h => by
    by_cases c : k = n + 1
    · subst c
      have e : sm (fun t => f (sft (n + 1) t)) (n + 1) = sm f (n + 1) := sm_congr (fun t ht => by unfold sft; rw [if_pos ht])
      rw [e]; rfl
    · have ih := sm_sft (f := f) (k := k) (n := n) (by omega)
      have e1 : sm (fun t => f (sft k t)) (n + 1) = sm (fun t => f (sft k t)) n + f (n + 1) := by
        show sm _ n + f (sft k n) = _
        unfold sft
        rw [if_neg (by omega)]
      have e2 : sm f (n + 1 + 1) = sm f (n + 1) + f (n + 1) := rfl
      omega
theorem liv_hcu {n m : Nat} {u v : Nat → Nat} {h : Nat → Option Nat} {k : Nat} (i : IN n m u v (hcn k m h)) (hk : k < n) : sm (ld (hcu k m h) m) 8 = sm (ld (hcn k m h) m) 8 := by
  have h8 := i.2.1
  have e1 : sm (ld (hcu k m h) m) 8 = sm (fun t => ld (hcn k m h) m (sft k t)) 8 := sm_congr (fun t _ => ld_hcu)
  have e2 := sm_sft (f := ld (hcn k m h) m) (k := k) (n := 8) (by omega)
  have e3 : sm (ld (hcn k m h) m) (8 + 1) = sm (ld (hcn k m h) m) 8 + ld (hcn k m h) m 8 := rfl
  have e4 := ld_hcn (k := k) (m := m) (h := h)
  have e5 := ld_z i (k := 8) (by omega)
  omega
theorem hcu_0 {k : Nat} {h : Nat → Option Nat} : hcu k 0 h = h := by
  funext j; unfold hcu; rw [if_neg (by omega)]
theorem hcn_0 {k : Nat} {h : Nat → Option Nat} : hcn k 0 h = h := by
  funext j; unfold hcn; rw [if_neg (fun z => by omega)]
theorem lesM_ok {n m : Nat} {u v : Nat → Nat} {h : Nat → Option Nat} {k : Nat} {M : St} (i : IN n m u v h) (q : RM 1000 n m u v h M) (hk : k < n) : ∃ Y, fX7_less_28 FU (nI k) 0 0 M = fX7_less_242 FU (nI (cnt (anw k h) m)) 0 Y ∧ RM 1000 (n - 1) m u v (hcu k m h) Y ∧ (∀ a, a < m → Y.2 5 a = if anw k h a = true then 1 else 0) ∧ fr [0, 2] [2, 3, 4, 5] M Y := by
  have hF := FU_gt
  have hm := i.2.2.1
  have h8 := i.2.1
  have h2 := i.1
  obtain ⟨A, a1, a2, a3, a4, a5⟩ := lesA_l (k := k) i hk m 0 FU M (by omega) (by omega) (by rw [hcn_0]; exact i) (by rw [hcn_0]; exact q) (fun a ha => by omega)
  obtain ⟨B, b1, b2, b3⟩ := lesB_l (v2 := nI (cnt (anw k h) m)) i hk m 0 FU A (by omega) (by omega) a3.1.2.1 (fun a ha => by omega) (fun a _ ha => a3.2.2.2.1 a ha (by omega))
  obtain ⟨C, c1, c2, c3, c4⟩ := lesD_l (v2 := nI (cnt (anw k h) m)) (k := k) (B.2 3) (fun q s => B.2 4 (8 * q + s)) (7 - k) k FU B (by omega) (by omega) (by omega) (fun s _ => by rw [if_neg (fun z => by omega)]) (fun q _ s _ => by rw [if_neg (fun z => by omega)])
  obtain ⟨D, d1, d2, d3⟩ := lesE_l (v2 := nI (cnt (anw k h) m)) (fun q s => C.2 4 (8 * q + s)) 40 0 FU C (by omega) (by omega) (fun q _ s _ => by rw [if_neg (fun z => by omega)])
  have fD : fr [0, 2] [2, 3, 4, 5] M D := fr_tr (fr_mo a5 (by decide) (by decide)) (fr_tr (fr_mo b3 (by decide) (by decide)) (fr_tr (fr_mo c4 (by decide) (by decide)) (fr_mo d3 (by decide) (by decide))))
  have f0 : ∀ x, D.1 x = A.1 x := fun x => by rw [d3.1 x (by simp), c4.1 x (by simp), b3.1 x (by simp)]
  refine ⟨sF D 0 (D.1 0 - 1), ?_, ⟨⟨?_, ?_, ?_⟩, ?_, ?_, ?_, ?_, ?_⟩, ?_, fr_F (by decide) fD⟩
  · exact a1.trans (b1.trans (c1.trans d1))
  · rw [sFs, f0, a3.1.1, nI_m1 (by omega)]
  · rw [sFn (by decide), f0]; exact a3.1.2.1
  · rw [sFn (by decide), f0, a3.1.2.2, liv_hcu a2 hk]
  · intro l hl
    show D.2 0 l = _
    rw [d3.2 0 (by decide), c4.2 0 (by decide), b3.2 0 (by decide)]; exact a3.2.1 l hl
  · intro l hl
    show D.2 1 l = _
    rw [d3.2 1 (by decide), c4.2 1 (by decide), b3.2 1 (by decide)]; exact a3.2.2.1 l hl
  · intro l hl _
    show D.2 2 l = _
    rw [d3.2 2 (by decide), c4.2 2 (by decide), b2 l hl]
    unfold hcu; rw [if_pos hl]
  · intro s hs
    show D.2 3 s = _
    rw [d3.2 3 (by decide), c2 s hs, ld_hcu, b3.2 3 (by decide)]
    unfold sft
    by_cases e : s = 7
    · subst e
      rw [if_pos rfl, if_neg (by omega), ld_z a2 (by omega)]; rfl
    · rw [if_neg e]
      by_cases g : k ≤ s
      · rw [if_pos g, if_neg (by omega)]; exact a3.2.2.2.2.1 (s + 1) (by omega)
      · rw [if_neg g, if_pos (by omega)]; exact a3.2.2.2.2.1 s hs
  · intro p hp s hs
    show D.2 4 (8 * p + s) = _
    rw [d2 p hp s hs, en_hcu, c3 p hp s hs, b3.2 4 (by decide)]
    unfold sft
    by_cases e : s = 7
    · subst e
      rw [if_pos rfl, if_neg (by omega), en_z a2 (by omega)]; rfl
    · rw [if_neg e]
      by_cases g : k ≤ s
      · rw [if_pos ⟨g, by omega⟩, if_neg (by omega)]; exact a3.2.2.2.2.2 p hp (s + 1) (by omega)
      · rw [if_neg (fun z => g z.1), if_pos (by omega)]; exact a3.2.2.2.2.2 p hp s hs
  · intro a ha
    show D.2 5 a = _
    rw [d3.2 5 (by decide), c4.2 5 (by decide), b3.2 5 (by decide)]; exact a4 a ha
/-- the lines are dealt anew, on both sides -/
theorem anew_l {n m : Nat} {u v : Nat → Nat} {P : Nat → Bool} {ru le : Int32} {sl : Nat} (hsl : sl ≤ 100) : ∀ (j l N N' : Nat) (h : Nat → Option Nat) (X M : St), l + j = m → cnt P m < N + cnt P l → j < N' → IN n m u v h → RC n m u v h X → RM 1000 n m u v h M → (X.1 6 = ru ∧ X.1 7 = nI sl ∧ X.1 8 = le) → (M.1 6 = ru ∧ M.1 4 = nI sl ∧ M.1 5 = le) → (∀ a, a < m → P a = true → X.2 0 (cnt P a) = nI a) → (∀ a, a < m → M.2 5 a = if P a = true then 1 else 0) → (∀ a, l ≤ a → a < m → P a = true → h a = none) → ∃ h' X' M', fX6_less_39 N (nI (cnt P m)) (nI (cnt P l)) X = some (nI (cnt P m), X') ∧ fX7_less_242 N' (nI (cnt P m)) (nI l) M = some (nI (cnt P m), M') ∧ IN n m u v h' ∧ RC n m u v h' X' ∧ RM 1000 n m u v h' M' ∧ fr [4, 5] [3, 4, 5, 6, 7] X X' ∧ fr [2] [2, 3, 4] M M' := by
  intro j
  induction j with
  | zero =>
    intro l N N' h X M hl hN hN' i r q cX cM hW hA hh
    have e : l = m := by omega
    subst e
    obtain ⟨N, rfl⟩ : ∃ K, N = K + 1 := ⟨N - 1, by omega⟩
    obtain ⟨N', rfl⟩ : ∃ K, N' = K + 1 := ⟨N' - 1, by omega⟩
    refine ⟨h, X, M, ?_, ?_, i, r, q, fr_rf, fr_rf⟩
    · show fX6_less_39_b _ _ _ _ = _
      unfold fX6_less_39_b fX6_less_73
      rw [if_pos (Int32.le_refl _)]
    · show fX7_less_242_b _ _ _ _ = _
      unfold fX7_less_242_b
      rw [q.1.2.1, if_pos (Int32.le_refl _)]
  | succ j ih =>
    intro l N N' h X M hl hN hN' i r q cX cM hW hA hh
    have hm := i.2.2.1
    have hcm := cnt_le (P := P) (m := m)
    obtain ⟨N', rfl⟩ : ∃ K, N' = K + 1 := ⟨N' - 1, by omega⟩
    by_cases c : P l = true
    · have hc1 : cnt P (l + 1) = cnt P l + 1 := by simp only [cnt]; rw [c]; simp
      have hc2 : cnt P (l + 1) ≤ cnt P m := by
        have : ∀ b, l + 1 ≤ b → cnt P (l + 1) ≤ cnt P b := by
          intro b
          induction b with
          | zero => intro h; omega
          | succ b ihb =>
            intro h
            by_cases z : l + 1 = b + 1
            · rw [z]; exact Nat.le_refl _
            · have := ihb (by omega)
              simp only [cnt] at this ⊢
              omega
        exact this m (by omega)
      obtain ⟨N, rfl⟩ : ∃ K, N = K + 1 := ⟨N - 1, by omega⟩
      have h0 : h l = none := hh l (Nat.le_refl _) (by omega) c
      obtain ⟨k, hk, hkn⟩ := chs_some (ru := ru) (le := le) (s := sl) (l := l) i hsl
      obtain ⟨X1, a1, a2, a3⟩ := dealLine_ok (l := l) (k := k) i r (by omega) h0 (by rw [cX.1, cX.2.1, cX.2.2]; exact hk) hkn
      obtain ⟨M1, b1, b2, b3⟩ := dealsM_ok (l := l) (k := k) i q (Or.inr (by omega)) (by omega) h0 (by rw [cM.1, cM.2.1, cM.2.2]; exact hk) hkn
      obtain ⟨h', X', M', z1, z2, z3, z4, z5, z6, z7⟩ := ih (l + 1) N N' (uph h l (some k)) X1 M1 (by omega) (by omega) (by omega) (IN_put i hkn) a2 b2 (by rw [a3.1 6 (by decide), a3.1 7 (by decide), a3.1 8 (by decide)]; exact cX) (by rw [b3.1 6 (by decide), b3.1 4 (by decide), b3.1 5 (by decide)]; exact cM) (by rw [a3.2 0 (by decide)]; exact hW) (by rw [b3.2 5 (by decide)]; exact hA) (fun a h1 h2 h3 => by rw [uph_n (by omega)]; exact hh a (by omega) h2 h3)
      refine ⟨h', X', M', ?_, ?_, z3, z4, z5, fr_tr a3 z6, fr_tr b3 z7⟩
      · show fX6_less_39_b _ _ _ _ = _
        unfold fX6_less_39_b
        rw [if_neg (nI_ge (by omega) (by omega)), nl300, if_neg (nI_ge (by omega) (by omega)), gA_in (by omega) (by decide), ix_nI (by omega), hW l (by omega) c, Bd_eq a1, nI_1, ← hc1]
        exact z1
      · show fX7_less_242_b _ _ _ _ = _
        unfold fX7_less_242_b fX7_less_265
        rw [q.1.2.1, if_neg (nI_ge (by omega) (by omega)), gA_in (by omega) (by decide), ix_nI (by omega), hA l (by omega), if_pos c, if_neg n10, Bd_eq b1, nI_1]
        exact z2
    · have hc1 : cnt P (l + 1) = cnt P l := by simp only [cnt]; rw [if_neg c]; rfl
      obtain ⟨h', X', M', z1, z2, z3, z4, z5, z6, z7⟩ := ih (l + 1) N N' h X M (by omega) (by omega) (by omega) i r q cX cM hW hA (fun a h1 h2 h3 => hh a (by omega) h2 h3)
      rw [hc1] at z1
      refine ⟨h', X', M', z1, ?_, z3, z4, z5, z6, z7⟩
      show fX7_less_242_b _ _ _ _ = _
      unfold fX7_less_242_b fX7_less_265
      rw [q.1.2.1, if_neg (nI_ge (by omega) (by omega)), gA_in (by omega) (by decide), ix_nI (by omega), hA l (by omega), if_neg c, if_pos rfl, nI_1]
      exact z2
theorem du_less (x : Int32) : DU (fX6_less x) (fX7_less x) := by
  rintro X M ⟨n, m, u, v, h, w, ru, sl, le, i, r, q, c, b⟩
  have hF := FU_gt
  have hm := i.2.2.1
  have h8 := i.2.1
  have h2 := i.1
  unfold fX6_less fX7_less
  rw [q.1.1]
  rcases out3 (x := x) (n := n) (by omega) with hx | ⟨k, hk, rfl⟩
  · rw [Bd_eq (hasHost_out r.1.1 hx), Bd_eq (in_out (by omega) hx)]
    exact ⟨-1, X, M, rfl, rfl, Rl_same i r q c b⟩
  · rw [Bd_eq (hasHost_in r.1.1 h8 hk), Bd_eq (in_in (by omega) hk), if_neg n10, if_neg n10, r.1.1, q.1.1]
    by_cases e : n = 2
    · subst e
      rw [if_neg (by decide), if_pos (show nI 2 = (2 : Int32) from rfl)]
      exact ⟨-1, X, M, rfl, rfl, Rl_same i r q c b⟩
    · rw [if_pos (show (2 : Int32) < nI n from nI_lt (a := 2) (by omega) (by omega)), if_neg (show ¬ nI n = (2 : Int32) from fun z => e ((nI_eq (b := 2) (by omega) (by decide)).mp z))]
      obtain ⟨X1, a1, a2, a3, a4, a5⟩ := drop_l (k := k) i hk m 0 FU X (by omega) (by omega) (by rw [hcu_0]; exact i) (by rw [hcu_0]; exact r) (fun a ha => by omega)
      obtain ⟨M1, b1, b2, b3, b4⟩ := lesM_ok (k := k) i q hk
      have c1 : CF w ru sl le X1 M1 := CF_fr c a5 b4 (by decide) (by decide)
      have bx1 : BX X1 := BX_fr b a5 (by decide)
      obtain ⟨h', X2, M2, z1, z2, z3, z4, z5, z6, z7⟩ := anew_l (P := anw k h) (ru := nI ru) (le := nI le) (sl := sl) c.1.2.2.1 m 0 FU FU (hcu k m h) X1 M1 (by omega) (by have := cnt_le (P := anw k h) (m := m); omega) (by omega) (IN_drop i hk (by omega)) a3 b2 ⟨c1.2.2.2.1.1, c1.2.2.2.2.1.1, c1.2.2.2.2.2.1⟩ ⟨c1.2.2.2.1.2, c1.2.2.2.2.1.2, c1.2.2.2.2.2.2⟩ a4 b3 (fun a _ ha hp => by
        unfold hcu
        rw [if_pos ha]
        have : h a = some k := by unfold anw at hp; simpa using hp
        rw [this]
        show (if k = k then none else _) = _
        rw [if_pos rfl])
      have hd : fX4_dropHost (nI k) X = some (nI (cnt (anw k h) m), X1) := a1
      rw [Bd_eq hd]
      exact ⟨nI (cnt (anw k h) m), X2, M2, z1, b1.trans z2, Rl_mk z3 z4 z5 c1 bx1 z6 z7 (by decide) (by decide) (by decide)⟩
