/-! the class's search of the best dealing -/
def BS (n sz R : Nat) (X : St) : Prop := X.1 2 = nI n ∧ X.1 13 = nI sz ∧ X.1 14 = nI R
def LR (X : St) : Nat → List (Nat × Nat) → Prop
  | _, [] => True
  | dep, q :: L => (∃ a, a < 300 ∧ X.2 8 dep = nI a ∧ X.2 1 a = nI q.1 ∧ X.2 2 a = nI q.2) ∧ LR X (dep + 1) L
def RS (d : Nat → Nat) (e : Nat → Nat → Nat) (X : St) : Prop := (∀ t, t < 3 → X.2 9 t = nI (d t)) ∧ ∀ p, p < 40 → bts (X.2 10 p) (e p)
theorem LR_fr {X Y : St} (h1 : Y.2 1 = X.2 1) (h2 : Y.2 2 = X.2 2) (h8 : Y.2 8 = X.2 8) : ∀ {dep : Nat} {L : List (Nat × Nat)}, LR X dep L → LR Y dep L
  | _, [], _ => trivial
  | dep, q :: L, h => by
    obtain ⟨⟨a, a1, a2, a3, a4⟩, hr⟩ := h
    exact ⟨⟨a, a1, by rw [h8]; exact a2, by rw [h1]; exact a3, by rw [h2]; exact a4⟩, LR_fr h1 h2 h8 hr⟩
theorem bts_congr {x : Int32} {e f : Nat → Nat} (h : ∀ k, k < 8 → (0 < f k ↔ 0 < e k)) (r : bts x e) : bts x f := by
  obtain ⟨b, b1, b2, b3⟩ := r
  exact ⟨b, b1, b2, fun k hk => by rw [b3 k hk]; exact decide_eq_decide.mpr (h k hk).symm⟩
theorem bt_or : ∀ b, b < 256 → ∀ k, k < 8 → ((nI b ||| ((1 : Int32) <<< ((nI k) &&& 31))) = nI b ↔ b.testBit k = true) := by decide +kernel
theorem bts_nw {x : Int32} {e : Nat → Nat → Nat} {p t : Nat} (h : bts x (e p)) (ht : t < 8) : (x ||| ((1 : Int32) <<< ((nI t) &&& 31)) = x ∧ nw e p t = 0) ∨ (¬ x ||| ((1 : Int32) <<< ((nI t) &&& 31)) = x ∧ nw e p t = 1) := by
  obtain ⟨b, b1, rfl, b3⟩ := h
  rw [bt_or b b1 t ht, b3 t ht]
  unfold nw
  by_cases c : 0 < e p t
  · exact Or.inl ⟨decide_eq_true c, if_pos c⟩
  · exact Or.inr ⟨fun z => c (of_decide_eq_true z), if_neg c⟩
theorem upd_back {f : Nat → Int32} {t : Nat} : upd (upd f t (f t + 1)) t (upd f t (f t + 1) t - 1) = f := by
  funext s
  by_cases c : s = t
  · subst c; rw [pk_us, pk_us, Int32.add_sub_cancel]
  · rw [pk_un c, pk_un c]
theorem upd_back2 {f : Nat → Int32} {a b : Nat} {x y : Int32} (hab : a ≠ b) : upd (upd (upd (upd f a x) b y) a (f a)) b (f b) = f := by
  funext s
  by_cases c : s = b
  · subst c; rw [pk_us]
  · rw [pk_un c]
    by_cases c2 : s = a
    · subst c2; rw [pk_us]
    · rw [pk_un c2, pk_un c, pk_un c2]
/-- what a search does -/
def SR (n R : Nat) (L : List (Nat × Nat)) (d : Nat → Nat) (e : Nat → Nat → Nat) (c w : Nat) (X : St) (Z : Rs) : Prop := ∃ Y w', Z = some (0, Y) ∧ Y.1 15 = nI w' ∧ w' ≤ w ∧ (w' = w ∨ Rch n R L d e c w') ∧ (∀ r, Rch n R L d e c r → w' ≤ r) ∧ fr [15] [] X Y
theorem try_ok {n sz R : Nat} {kr : Int32 → Int32 → Int32 → St → Rs} {L : List (Nat × Nat)} {q : Nat × Nat} {d : Nat → Nat} {e : Nat → Nat → Nat} {dep c used w t : Nat} {X : St} (hn : n ≤ 3) (ht : t < n) (hdep : dep < 8) (bs : BS n sz R X) (hw : X.1 15 = nI w) (lr : LR X dep (q :: L)) (rs : RS d e X) (hq : q.1 < 40 ∧ q.2 < 40 ∧ q.1 ≠ q.2)
    (ih : ∀ Y, BS n sz R Y → Y.1 15 = nI w → LR Y (dep + 1) L → RS (upL d t) (bmp (bmp e q.1 t) q.2 t) Y → SR n R L (upL d t) (bmp (bmp e q.1 t) q.2 t) (c + (nw e q.1 t + nw e q.2 t)) w Y (kr (nI (dep + 1)) (nI (c + (nw e q.1 t + nw e q.2 t))) (nI used) Y)) :
    SR n R L (upL d t) (bmp (bmp e q.1 t) q.2 t) (c + (nw e q.1 t + nw e q.2 t)) w X (fX0_tryHost_s kr (nI dep) (nI c) (nI t) (nI used) X) := by
  obtain ⟨⟨a, a1, a2, a3, a4⟩, lr'⟩ := id lr
  obtain ⟨q1, q2, q3⟩ := hq
  have r1 := rs.2 q.1 q1
  have r2 := rs.2 q.2 q2
  generalize hS : sA (sA (sA X 10 q.1 ((X.2 10 q.1) ||| ((1 : Int32) <<< ((nI t) &&& 31)))) 10 q.2 ((X.2 10 q.2) ||| ((1 : Int32) <<< ((nI t) &&& 31)))) 9 t (X.2 9 t + 1) = S8
  have g9 : S8.2 9 = upd (X.2 9) t (X.2 9 t + 1) := by rw [← hS]; rfl
  have g10 : S8.2 10 = upd (upd (X.2 10) q.1 ((X.2 10 q.1) ||| ((1 : Int32) <<< ((nI t) &&& 31)))) q.2 ((X.2 10 q.2) ||| ((1 : Int32) <<< ((nI t) &&& 31))) := by rw [← hS]; rfl
  have gF : S8.1 = X.1 := by rw [← hS]; rfl
  have gA' : ∀ j, j ≠ 9 → j ≠ 10 → S8.2 j = X.2 j := fun j h1 h2 => by rw [← hS, sAn h1, sAn h2, sAn h2]
  have rs8 : RS (upL d t) (bmp (bmp e q.1 t) q.2 t) S8 := by
    refine ⟨fun s hs => ?_, fun p hp => ?_⟩
    · rw [g9]
      unfold upL
      by_cases c1 : s = t
      · subst c1; rw [pk_us, if_pos rfl, rs.1 s hs, nI_1]
      · rw [pk_un c1, if_neg c1]; exact rs.1 s hs
    · rw [g10]
      by_cases c2 : p = q.2
      · subst c2
        rw [pk_us]
        exact bts_set (by omega) (bts_congr (fun k _ => by rw [bmp_n (fun z => q3 z.1.symm)]) r2)
      · rw [pk_un c2]
        by_cases c1 : p = q.1
        · subst c1
          rw [pk_us]
          exact bts_congr (fun k _ => by rw [bmp_n (fun z => c2 z.1)]) (bts_set (by omega) r1)
        · rw [pk_un c1]
          exact bts_congr (fun k _ => by rw [bmp_n (fun z => c2 z.1), bmp_n (fun z => c1 z.1)]) (rs.2 p hp)
  obtain ⟨Y, w', y1, y2, y3, y4, y5, y6⟩ := ih S8 ⟨by rw [gF]; exact bs.1, by rw [gF]; exact bs.2.1, by rw [gF]; exact bs.2.2⟩ (by rw [gF]; exact hw) (LR_fr (gA' 1 (by decide) (by decide)) (gA' 2 (by decide) (by decide)) (gA' 8 (by decide) (by decide)) lr') rs8
  refine ⟨sA (sA (sA Y 9 t (Y.2 9 t - 1)) 10 q.1 (X.2 10 q.1)) 10 q.2 (X.2 10 q.2), w', ?_, y2, y3, y4, y5, ?_⟩
  · generalize hS6 : sA (sA X 10 q.1 ((X.2 10 q.1) ||| ((1 : Int32) <<< ((nI t) &&& 31)))) 10 q.2 ((X.2 10 q.2) ||| ((1 : Int32) <<< ((nI t) &&& 31))) = S6 at hS
    have s1 : S6.2 10 q.1 = (X.2 10 q.1) ||| ((1 : Int32) <<< ((nI t) &&& 31)) := by
      rw [← hS6, sAs, pk_un q3, sAs, pk_us]
    have s2 : S6.2 10 q.2 = (X.2 10 q.2) ||| ((1 : Int32) <<< ((nI t) &&& 31)) := by
      rw [← hS6, sAs, pk_us]
    have s9 : S6.2 9 t = X.2 9 t := by rw [← hS6]; rfl
    have main : ∀ z1 z2 : Int32, z1 + z2 = nI (nw e q.1 t + nw e q.2 t) → fX0_tryHost_110 kr (nI dep) (nI c) (nI t) (nI used) (nI q.1) (nI q.2) (X.2 10 q.1) (X.2 10 q.2) z2 z1 S6 = some (0, sA (sA (sA Y 9 t (Y.2 9 t - 1)) 10 q.1 (X.2 10 q.1)) 10 q.2 (X.2 10 q.2)) := by
      intro z1 z2 hz
      unfold fX0_tryHost_110
      simp only [Lt, LtS, hz, gA_in q1 (by decide), gA_in q2 (by decide), ix_nI (show q.1 < 2 ^ 31 by omega), ix_nI (show q.2 < 2 ^ 31 by omega), gA_in (show t < 3 by omega) (by decide), ix_nI (show t < 2 ^ 31 by omega), nI_1, nI_add]
      rw [s9, hS, Bd_eq y1]
    unfold fX0_tryHost_s fX0_tryHost_93
    simp only [Lt, LtS, gA_in (show dep < 8 by omega) (by decide), ix_nI (show dep < 2 ^ 31 by omega), a2, gA_in a1 (by decide), ix_nI (show a < 2 ^ 31 by omega), a3, a4, gA_in q1 (by decide), gA_in q2 (by decide), ix_nI (show q.1 < 2 ^ 31 by omega), ix_nI (show q.2 < 2 ^ 31 by omega)]
    rw [hS6, s1, s2]
    rcases bts_nw r1 (show t < 8 by omega) with ⟨k1, n1⟩ | ⟨k1, n1⟩ <;> rcases bts_nw r2 (show t < 8 by omega) with ⟨k2, n2⟩ | ⟨k2, n2⟩
    · rw [if_pos k1, if_pos k2]; exact main 0 0 (by rw [n1, n2]; rfl)
    · rw [if_pos k1, if_neg k2]; exact main 0 1 (by rw [n1, n2]; rfl)
    · rw [if_neg k1, if_pos k2]; exact main 1 0 (by rw [n1, n2]; rfl)
    · rw [if_neg k1, if_neg k2]; exact main 1 1 (by rw [n1, n2]; rfl)
  · refine ⟨fun k hk => ?_, fun j _ => ?_⟩
    · show Y.1 k = X.1 k
      rw [y6.1 k hk, gF]
    · by_cases c9 : j = 9
      · subst c9
        show upd (Y.2 9) t (Y.2 9 t - 1) = X.2 9
        rw [y6.2 9 (by simp), g9]
        exact upd_back
      · by_cases c10 : j = 10
        · subst c10
          show upd (upd (Y.2 10) q.1 (X.2 10 q.1)) q.2 (X.2 10 q.2) = X.2 10
          rw [y6.2 10 (by simp), g10]
          exact upd_back2 q3
        · rw [sAn c10, sAn c10, sAn c9, y6.2 j (by simp)]
          exact gA' j c9 c10
theorem loop_ok {n sz R : Nat} {kr : Int32 → Int32 → Int32 → Int32 → St → Rs} {L : List (Nat × Nat)} {q : Nat × Nat} {d : Nat → Nat} {e : Nat → Nat → Nat} {dep c used w hs : Nat} {X : St} (hn : n ≤ 3) (hhs : hs ≤ n) (hus : used ≤ 3) (hd : ∀ t, t < 3 → d t ≤ 1000) (hR : R ≤ 100000) (bs : BS n sz R X) (rs : RS d e X)
    (hk : ∀ t Y w1, t < hs → d t < R → fr [15] [] X Y → Y.1 15 = nI w1 → w1 ≤ w → SR n R L (upL d t) (bmp (bmp e q.1 t) q.2 t) (c + (nw e q.1 t + nw e q.2 t)) w1 Y (kr (nI dep) (nI c) (nI t) (nI (if used < t + 1 then t + 1 else used)) Y)) :
    ∀ (j s N w1 : Nat) (Y : St), s + j = hs → j < N → fr [15] [] X Y → Y.1 15 = nI w1 → w1 ≤ w → (w1 = w ∨ Rch n R (q :: L) d e c w1) → (∀ t, t < s → d t < R → ∀ r, Rch n R L (upL d t) (bmp (bmp e q.1 t) q.2 t) (c + (nw e q.1 t + nw e q.2 t)) r → w1 ≤ r) →
      ∃ Z w', fX0_dealFrom_49 kr N (nI dep) (nI c) (nI used) (nI hs) (nI s) Y = some (0, Z) ∧ Z.1 15 = nI w' ∧ w' ≤ w ∧ (w' = w ∨ Rch n R (q :: L) d e c w') ∧ (∀ t, t < hs → d t < R → ∀ r, Rch n R L (upL d t) (bmp (bmp e q.1 t) q.2 t) (c + (nw e q.1 t + nw e q.2 t)) r → w' ≤ r) ∧ fr [15] [] X Z := by
  intro j
  induction j with
  | zero =>
    intro s N w1 Y hs' hN fY hw1 hle hor hall
    obtain ⟨N, rfl⟩ : ∃ K, N = K + 1 := ⟨N - 1, by omega⟩
    have e : s = hs := by omega
    subst e
    refine ⟨Y, w1, ?_, hw1, hle, hor, hall, fY⟩
    show fX0_dealFrom_49_b _ _ _ _ _ _ _ _ = _
    unfold fX0_dealFrom_49_b
    rw [if_pos (Int32.le_refl _)]
  | succ j ih =>
    intro s N w1 Y hs' hN fY hw1 hle hor hall
    obtain ⟨N, rfl⟩ : ∃ K, N = K + 1 := ⟨N - 1, by omega⟩
    have hds := hd s (by omega)
    have h9 : Y.2 9 s = nI (d s) := by rw [fY.2 9 (by simp)]; exact rs.1 s (by omega)
    have h14 : Y.1 14 = nI R := by rw [fY.1 14 (by decide)]; exact bs.2.2
    show ∃ Z w', fX0_dealFrom_49_b _ _ _ _ _ _ _ _ = _ ∧ _
    unfold fX0_dealFrom_49_b fX0_dealFrom_86
    rw [if_neg (nI_ge (by omega) (by omega)), gA_in (by omega) (by decide), ix_nI (by omega), h9, h14, nI_1]
    by_cases c1 : d s < R
    · rw [if_neg (nI_ge c1 (by omega))]
      obtain ⟨Z, w', z1, z2, z3, z4, z5, z6⟩ := hk s Y w1 (by omega) c1 fY hw1 hle
      have em : (if nI used < nI (s + 1) then nI (s + 1) else nI used) = nI (if used < s + 1 then s + 1 else used) := by
        by_cases z : used < s + 1
        · rw [if_pos z, if_pos (nI_lt z (by omega))]
        · rw [if_neg z, if_neg (nI_nlt (by omega) (by omega))]
      rw [em, Bd_eq z1]
      refine ih (s + 1) N w' Z (by omega) (by omega) (fr_tr fY z6) z2 (by omega) ?_ ?_
      · rcases z4 with z | z
        · rw [z]; exact hor
        · exact Or.inr ⟨s, by omega, c1, z⟩
      · intro t ht hdt r hr
        by_cases c2 : t = s
        · subst c2; exact z5 r hr
        · exact Nat.le_trans z3 (hall t (by omega) hdt r hr)
    · rw [if_pos (nI_le (by omega) (by omega))]
      refine ih (s + 1) N w1 Y (by omega) (by omega) fY hw1 hle hor ?_
      intro t ht hdt r hr
      by_cases c2 : t = s
      · subst c2; exact absurd hdt c1
      · exact hall t (by omega) hdt r hr
theorem df_ok {n sz R : Nat} (hn2 : 2 ≤ n) (hn : n ≤ 3) (hsz : sz ≤ 8) (hR : R ≤ 100000) : ∀ (L : List (Nat × Nat)) (F dep c used w : Nat) (d : Nat → Nat) (e : Nat → Nat → Nat) (X : St), L.length < F → dep + L.length = sz → c + 2 * L.length ≤ 100 → w ≤ 100 → used ≤ n → (∀ t, used ≤ t → d t = 0 ∧ ∀ p, e p t = 0) → (∀ t, t < 3 → d t + L.length ≤ 1000) → BS n sz R X → X.1 15 = nI w → LR X dep L → RS d e X → (∀ q ∈ L, q.1 < 40 ∧ q.2 < 40 ∧ q.1 ≠ q.2) → SR n R L d e c w X (fX0_dealFrom F (nI dep) (nI c) (nI used) X)
  | [], F, dep, c, used, w, d, e, X, hF, hdep, hc, hw, hu, hun, hd, bs, h15, lr, rs, hq => by
    obtain ⟨F, rfl⟩ : ∃ K, F = K + 1 := ⟨F - 1, by omega⟩
    simp only [List.length_nil] at hdep hc
    show SR n R [] d e c w X (fX0_dealFrom_s _ _ _ _ _)
    unfold fX0_dealFrom_s
    rw [h15, bs.2.1]
    by_cases c1 : c < w
    · rw [if_pos (nI_lt c1 (by omega)), if_neg (nI_nlt (by omega) (by omega))]
      exact ⟨sF X 15 (nI c), c, rfl, rfl, by omega, Or.inr rfl, fun r hr => by simp only [Rch] at hr; omega, fr_F (by decide) fr_rf⟩
    · rw [if_neg (nI_nlt (by omega) (by omega))]
      exact ⟨X, w, rfl, h15, Nat.le_refl _, Or.inl rfl, fun r hr => by simp only [Rch] at hr; omega, fr_rf⟩
  | q :: L, F, dep, c, used, w, d, e, X, hF, hdep, hc, hw, hu, hun, hd, bs, h15, lr, rs, hq => by
    have hFU := FU_gt
    obtain ⟨F, rfl⟩ : ∃ K, F = K + 1 := ⟨F - 1, by omega⟩
    simp only [List.length_cons] at hF hdep hc hd
    show SR n R (q :: L) d e c w X (fX0_dealFrom_s _ _ _ _ _)
    unfold fX0_dealFrom_s
    rw [h15, bs.2.1, bs.1]
    by_cases c1 : c < w
    · rw [if_pos (nI_lt c1 (by omega)), if_pos (nI_lt (by omega) (by omega))]
      have e3 : (if (3 : Int32) < nI n then (3 : Int32) else nI n) = nI n := if_neg (nI_nlt (a := 3) (b := n) hn (by decide))
      have ehs : (if (if (3 : Int32) < nI n then (3 : Int32) else nI n) < nI used + 1 then (if (3 : Int32) < nI n then (3 : Int32) else nI n) else nI used + 1) = nI (if n < used + 1 then n else used + 1) := by
        rw [e3, nI_1]
        by_cases z : n < used + 1
        · rw [if_pos z, if_pos (nI_lt z (by omega))]
        · rw [if_neg z, if_neg (nI_nlt (by omega) (by omega))]
      simp only [Lt]
      rw [ehs]
      have hq0 := hq q List.mem_cons_self
      have hqL : ∀ p ∈ L, p.1 < 40 ∧ p.2 < 40 ∧ p.1 ≠ p.2 := fun p hp => hq p (List.mem_cons_of_mem _ hp)
      have hk : ∀ t Y w1, t < (if n < used + 1 then n else used + 1) → d t < R → fr [15] [] X Y → Y.1 15 = nI w1 → w1 ≤ w → SR n R L (upL d t) (bmp (bmp e q.1 t) q.2 t) (c + (nw e q.1 t + nw e q.2 t)) w1 Y (fX0_tryHost_s (fX0_dealFrom F) (nI dep) (nI c) (nI t) (nI (if used < t + 1 then t + 1 else used)) Y) := by
        intro t Y w1 ht hdt fY hw1 hle
        have htn : t < n := by split at ht <;> omega
        have htu : t ≤ used := by split at ht <;> omega
        refine try_ok (sz := sz) (q := q) hn htn (by omega) ⟨by rw [fY.1 2 (by decide)]; exact bs.1, by rw [fY.1 13 (by decide)]; exact bs.2.1, by rw [fY.1 14 (by decide)]; exact bs.2.2⟩ hw1 (LR_fr (fY.2 1 (by simp)) (fY.2 2 (by simp)) (fY.2 8 (by simp)) lr) ⟨by rw [fY.2 9 (by simp)]; exact rs.1, by rw [fY.2 10 (by simp)]; exact rs.2⟩ hq0 ?_
        intro Z bZ wZ lZ rZ
        have n1 := nw_le (e := e) (p := q.1) (t := t)
        have n2 := nw_le (e := e) (p := q.2) (t := t)
        refine df_ok hn2 hn hsz hR L F (dep + 1) _ _ w1 _ _ Z (by omega) (by omega) (by omega) (by omega) (by split <;> omega) ?_ ?_ bZ wZ lZ rZ hqL
        · intro s hs
          have hs1 : used ≤ s ∧ s ≠ t := by split at hs <;> omega
          refine ⟨?_, fun p => ?_⟩
          · unfold upL; rw [if_neg hs1.2]; exact (hun s hs1.1).1
          · rw [bmp_n (fun z => hs1.2 z.2), bmp_n (fun z => hs1.2 z.2)]; exact (hun s hs1.1).2 p
        · intro s hs
          have := hd s hs
          unfold upL
          split
          · rename_i z; subst z; omega
          · omega
      obtain ⟨Z, w', z1, z2, z3, z4, z5, z6⟩ := loop_ok (kr := fX0_tryHost_s (fX0_dealFrom F)) (L := L) (q := q) (dep := dep) (c := c) (used := used) (w := w) (hs := if n < used + 1 then n else used + 1) hn (by split <;> omega) (by omega) (fun t ht => by have := hd t ht; omega) hR bs rs hk (if n < used + 1 then n else used + 1) 0 FU w X (by omega) (by split <;> omega) fr_rf h15 (Nat.le_refl _) (Or.inl rfl) (fun t ht => by omega)
      refine ⟨Z, w', z1, z2, z3, z4, fun r hr => ?_, z6⟩
      obtain ⟨t, t1, t2, t3⟩ := hr
      by_cases c2 : t < (if n < used + 1 then n else used + 1)
      · exact z5 t c2 t2 r t3
      · have hu1 : used < n ∧ used < t := by split at c2 <;> omega
        have h0t := hun t (by omega)
        have h0u := hun used (Nat.le_refl _)
        have hdd : ∀ s, d (sw t used s) = d s := fun s => by
          unfold sw
          split
          · rename_i z; rw [z, h0t.1, h0u.1]
          · split
            · rename_i z; rw [z, h0t.1, h0u.1]
            · rfl
        have hee : ∀ p s, e p (sw t used s) = e p s := fun p s => by
          unfold sw
          split
          · rename_i z; rw [z, h0t.2, h0u.2]
          · split
            · rename_i z; rw [z, h0t.2, h0u.2]
            · rfl
        have hm := Rch_mv (i := t) (j := used) t1 hu1.1 hdd hee t3
        have ec : ∀ p, nw e p t = nw e p used := fun p => by unfold nw; rw [h0t.2 p, h0u.2 p]
        rw [ec, ec] at hm
        exact z5 used (by split <;> omega) (by rw [h0u.1, ← h0t.1]; exact t2) r hm
    · rw [if_neg (nI_nlt (by omega) (by omega))]
      exact ⟨X, w, rfl, h15, Nat.le_refl _, Or.inl rfl, fun r hr => by have := Rch_lb hr; omega, fr_rf⟩
