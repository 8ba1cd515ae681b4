/-! the best dealing, on both sides -/
theorem col_l {n m : Nat} {u v : Nat → Nat} {h : Nat → Option Nat} (i : IN n m u v h) (h8 : cnt (fun a => (h a).isSome) m ≤ 8) : ∀ (j l N : Nat) (X : St), l + j = m → j < N → RC n m u v h X → X.1 13 = nI (cnt (fun a => (h a).isSome) l) → ∃ Y, fX0_collectLines_7 N (nI l) X = some (0, Y) ∧ Y.1 13 = nI (cnt (fun a => (h a).isSome) m) ∧ LR Y (cnt (fun a => (h a).isSome) l) (lst u v h j l) ∧ (∀ k, k < cnt (fun a => (h a).isSome) l → Y.2 8 k = X.2 8 k) ∧ fr [13] [8] X Y := by
  have hm := i.2.2.1
  intro j
  induction j with
  | zero =>
    intro l N X hl hN r h13
    obtain ⟨N, rfl⟩ : ∃ K, N = K + 1 := ⟨N - 1, by omega⟩
    have e : l = m := by omega
    subst e
    refine ⟨X, ?_, h13, trivial, fun _ _ => rfl, fr_rf⟩
    show fX0_collectLines_7_b _ _ _ = _
    unfold fX0_collectLines_7_b
    rw [r.1.2.1, if_pos (Int32.le_refl _)]; rfl
  | succ j ih =>
    intro l N X hl hN r h13
    obtain ⟨N, rfl⟩ : ∃ K, N = K + 1 := ⟨N - 1, by omega⟩
    have hlen := lst_len (u := u) (v := v) (h := h) (j := j + 1) (l := l)
    have hcl := cnt_le (P := fun a => (h a).isSome) (m := l)
    rw [hl] at hlen
    show ∃ Y, fX0_collectLines_7_b _ _ _ = _ ∧ _
    unfold fX0_collectLines_7_b fX0_collectLines_61
    rw [r.1.2.1, if_neg (nI_ge (by omega) (by omega)), h13]
    by_cases c8 : 8 ≤ cnt (fun a => (h a).isSome) l
    · rw [if_pos (show (8 : Int32) ≤ nI (cnt (fun a => (h a).isSome) l) from nI_le (a := 8) c8 (by omega))]
      have e0 : lst u v h (j + 1) l = [] := List.length_eq_zero_iff.mp (by omega)
      refine ⟨X, rfl, ?_, by rw [e0]; trivial, fun _ _ => rfl, fr_rf⟩
      rw [h13]; congr 1; omega
    · rw [if_neg (show ¬ (8 : Int32) ≤ nI (cnt (fun a => (h a).isSome) l) from nI_ge (b := 8) (by omega) (by decide)), Bd_eq (isLive_in i r (by omega)), nI_1]
      have e1 : cnt (fun a => (h a).isSome) (l + 1) = cnt (fun a => (h a).isSome) l + (if (h l).isSome = true then 1 else 0) := rfl
      by_cases c : (h l).isSome = true
      · rw [if_pos c] at e1
        have f1 : fr [13] [8] X (sF (sA X 8 (cnt (fun a => (h a).isSome) l) (nI l)) 13 (nI (cnt (fun a => (h a).isSome) (l + 1)))) := fr_F (by decide) (fr_A (by decide) fr_rf)
        obtain ⟨Y, y1, y2, y3, y4, y5⟩ := ih (l + 1) N _ (by omega) (by omega) (RC_of_fr r f1 (by decide) (by decide)) rfl
        have fY := fr_tr f1 y5
        refine ⟨Y, ?_, y2, ?_, fun k hk => ?_, fY⟩
        · rw [if_pos c, if_neg n10, h13, gA_in (by omega) (by decide), ix_nI (by omega)]
          simp only [LtS]
          have : (sA X 8 (cnt (fun a => (h a).isSome) l) (nI l)).1 13 + 1 = nI (cnt (fun a => (h a).isSome) (l + 1)) := by
            show X.1 13 + 1 = _
            rw [h13, nI_1, e1]
          rw [this]; exact y1
        · have el : lst u v h (j + 1) l = (u l, v l) :: lst u v h j (l + 1) := by simp only [lst]; rw [if_pos c]
          rw [el]
          refine ⟨⟨l, by omega, ?_, ?_, ?_⟩, by rw [e1] at y3; exact y3⟩
          · rw [y4 _ (by omega)]
            show upd (X.2 8) _ (nI l) _ = _
            rw [pk_us]
          · rw [fY.2 1 (by decide)]; exact r.2.1 l (by omega)
          · rw [fY.2 2 (by decide)]; exact r.2.2.1 l (by omega)
        · rw [y4 k (by omega)]
          show upd (X.2 8) _ (nI l) k = _
          rw [pk_un (by omega)]
      · rw [if_neg c] at e1
        rw [if_neg c, if_pos rfl]
        obtain ⟨Y, y1, y2, y3, y4, y5⟩ := ih (l + 1) N X (by omega) (by omega) r (by rw [h13, e1]; rfl)
        have el : lst u v h (j + 1) l = lst u v h j (l + 1) := by simp only [lst]; rw [if_neg c]
        refine ⟨Y, y1, y2, ?_, fun k hk => y4 k (by omega), y5⟩
        rw [el]
        have : cnt (fun a => (h a).isSome) (l + 1) = cnt (fun a => (h a).isSome) l := by omega
        rw [this] at y3; exact y3
theorem bts0 {e : Nat → Nat} (h : ∀ k, e k = 0) : bts 0 e := ⟨0, by decide, rfl, fun k _ => by rw [h k]; simp⟩
/-- the least number that can be reached -/
def Mn (n R : Nat) (L : List (Nat × Nat)) (w : Nat) : Prop := Rch n R L (fun _ => 0) (fun _ _ => 0) 0 w ∧ ∀ r, Rch n R L (fun _ => 0) (fun _ _ => 0) 0 r → w ≤ r
theorem Mn_one {n R : Nat} {L : List (Nat × Nat)} {a b : Nat} (h1 : Mn n R L a) (h2 : Mn n R L b) : a = b := by
  have := h1.2 b h2.1
  have := h2.2 a h1.1
  omega
theorem few_ok {n m : Nat} {u v : Nat → Nat} {h : Nat → Option Nat} {R : Nat} {X : St} (i : IN n m u v h) (hn3 : n ≤ 3) (r : RC n m u v h X) (b : BX X) (h8 : cnt (fun a => (h a).isSome) m ≤ 8) (hR : R ≤ 100000) (hRn : cnt (fun a => (h a).isSome) m ≤ n * R) : ∃ Y w, fX0_fewestCopies (nI R) X = some (nI w, Y) ∧ Mn n R (lst u v h m 0) w ∧ fr [13, 14, 15] [8] X Y := by
  have hm := i.2.2.1
  have hF := FU_gt
  have hlen := lst_len (u := u) (v := v) (h := h) (j := m) (l := 0)
  have e0 : cnt (fun a => (h a).isSome) 0 = 0 := rfl
  rw [e0, Nat.zero_add] at hlen
  have f0 : fr [13] [8] X (sF X 13 0) := fr_F (by decide) fr_rf
  obtain ⟨Y, y1, y2, y3, y4, y5⟩ := col_l i h8 m 0 FU (sF X 13 0) (by omega) (by omega) (RC_of_fr r f0 (by decide) (by decide)) rfl
  have fY := fr_tr f0 y5
  have e2 : (2 : Int32) * nI (cnt (fun a => (h a).isSome) m) = nI (2 * cnt (fun a => (h a).isSome) m) := by
    rw [show (2 : Int32) = nI 2 from rfl, pk_mul]
  have fZ : fr [13, 14, 15] [8] X (sF (sF Y 14 (nI R)) 15 (nI (2 * cnt (fun a => (h a).isSome) m))) := fr_F (by decide) (fr_F (by decide) (fr_mo fY (by decide) (by decide)))
  have hs := df_ok (n := n) (sz := cnt (fun a => (h a).isSome) m) (R := R) i.1 hn3 h8 hR (lst u v h m 0) 10 0 0 0 (2 * cnt (fun a => (h a).isSome) m) (fun _ => 0) (fun _ _ => 0) (sF (sF Y 14 (nI R)) 15 (nI (2 * cnt (fun a => (h a).isSome) m))) (by omega) (by omega) (by omega) (by omega) (by omega) (fun _ _ => ⟨rfl, fun _ => rfl⟩) (fun _ _ => by omega) ⟨by rw [fZ.1 2 (by decide)]; exact r.1.1, by rw [sFn (by decide), sFn (by decide)]; exact y2, by rw [sFn (by decide), sFs]⟩ rfl (LR_fr (Y := sF (sF Y 14 (nI R)) 15 (nI (2 * cnt (fun a => (h a).isSome) m))) (X := Y) rfl rfl rfl y3) ⟨fun t ht => by rw [fZ.2 9 (by decide)]; exact b.1 t ht, fun p hp => by rw [fZ.2 10 (by decide), b.2 p hp]; exact bts0 (fun _ => rfl)⟩ (lst_ab i.2.2.2.1 (by omega))
  obtain ⟨Z, w, z1, z2, z3, z4, z5, z6⟩ := hs
  refine ⟨Z, w, ?_, ⟨?_, z5⟩, fr_tr fZ (fr_mo z6 (by decide) (by decide))⟩
  · unfold fX0_fewestCopies
    have hc : fX0_collectLines X = some (0, Y) := by
      unfold fX0_collectLines
      rw [LtS_eq]; exact y1
    rw [Bd_eq hc, LtS_eq, LtS_eq]
    have g : (sF Y 14 (nI R)).1 13 = nI (cnt (fun a => (h a).isSome) m) := by rw [sFn (by decide)]; exact y2
    rw [g, e2]
    have z1' : fX0_dealFrom 10 (0 : Int32) (0 : Int32) (0 : Int32) (sF (sF Y 14 (nI R)) 15 (nI (2 * cnt (fun a => (h a).isSome) m))) = some (0, Z) := z1
    rw [Bd_eq z1', z2]
  · rcases z4 with z | z
    · obtain ⟨r0, hr0⟩ := Rch_ex (n := n) (R := R) (L := lst u v h m 0) (d := fun _ => 0) (e := fun _ _ => 0) (c := 0) (by rw [sm_0 (fun _ _ => rfl)]; omega)
      have h1 := z5 r0 hr0
      have h2 := Rch_ub hr0
      have : r0 = w := by omega
      rw [← this]; exact hr0
    · exact z
/-- the reference -/
theorem bt_z : ∀ b, b < 256 → ∀ k, k < 8 → (decide (((nI b) >>> ((nI k) &&& 31)) &&& (1 : Int32) = 0)) = !(b.testBit k) := by decide +kernel
theorem bts_z {x : Int32} {e : Nat → Nat} {t : Nat} (h : bts x e) (ht : t < 8) : (x >>> ((nI t) &&& 31)) &&& (1 : Int32) = 0 ↔ ¬ 0 < e t := by
  obtain ⟨b, b1, rfl, b3⟩ := h
  have h1 := bt_z b b1 t ht
  rw [b3 t ht] at h1
  constructor
  · intro z c
    rw [decide_eq_true z, decide_eq_true c] at h1
    cases h1
  · intro c
    rw [decide_eq_false c] at h1
    exact of_decide_eq_true h1
theorem dltM_l {n m : Nat} {u v : Nat → Nat} {h : Nat → Option Nat} {R : Nat} (i : IN n m u v h) (hn3 : n ≤ 3) (hR : R ≤ 100000) : ∀ (j l N code c : Nat) (d : Nat → Nat) (e : Nat → Nat → Nat) (M : St), l + j = m → j < N → code ≤ 100000 → c + 2 * j ≤ 1000 → (∀ t, d t + j ≤ 1000) → RM 1000 n m u v h M → rmf n (M.1 4) (nI (sm (ld h m) 8)) = nI R → (∀ t, t < 3 → M.2 6 t = nI (d t)) → (∀ p, p < 40 → bts (M.2 7 p) (e p)) → ∃ Y, fX7_dealt_48 N (nI code) (nI c) (nI l) M = some (eo (rnC n R (lst u v h j l) code d e c), Y) ∧ fr [] [6, 7] M Y := by
  have hm := i.2.2.1
  have h2 := i.1
  intro j
  induction j with
  | zero =>
    intro l N code c d e M hl hN hcode hc hd r hrm h6 h7
    obtain ⟨N, rfl⟩ : ∃ K, N = K + 1 := ⟨N - 1, by omega⟩
    refine ⟨M, ?_, fr_rf⟩
    show fX7_dealt_48_b _ _ _ _ _ = _
    unfold fX7_dealt_48_b
    have e0 : l = m := by omega
    subst e0
    rw [r.1.2.1, if_pos (Int32.le_refl _)]; rfl
  | succ j ih =>
    intro l N code c d e M hl hN hcode hc hd r hrm h6 h7
    obtain ⟨N, rfl⟩ : ∃ K, N = K + 1 := ⟨N - 1, by omega⟩
    show ∃ Y, fX7_dealt_48_b _ _ _ _ _ = _ ∧ _
    unfold fX7_dealt_48_b
    rw [r.1.2.1, if_neg (nI_ge (by omega) (by omega)), gA_in (by omega) (by decide), ix_nI (show l < 2 ^ 31 by omega), r.2.2.2.1 l (by omega) (by omega)]
    cases hc0 : h l with
    | none =>
      have el : lst u v h (j + 1) l = lst u v h j (l + 1) := by simp only [lst]; rw [if_neg (by rw [hc0]; decide)]
      rw [if_pos (show eo none = -1 from rfl), el]
      unfold fX7_dealt_207
      rw [nI_1]
      exact ih (l + 1) N code c d e M (by omega) (by omega) hcode (by omega) (fun t => by have := hd t; omega) r hrm h6 h7
    | some f =>
      have hf := i.2.2.2.2 l (by omega) f hc0
      have el : lst u v h (j + 1) l = (u l, v l) :: lst u v h j (l + 1) := by simp only [lst]; rw [if_pos (by rw [hc0]; rfl)]
      obtain ⟨pu, pv, puv⟩ := i.2.2.2.1 l (by omega)
      rw [if_neg (show ¬ eo (some f) = -1 from nI_nm1 (by omega)), el, r.1.1]
      simp only [Lt, rnC]
      rw [gA_nz (by omega) (by omega), gA_nz (by omega) (by omega), pk_rem (by omega) (by omega) (by omega), pk_div (by omega) (by omega) (by omega)]
      have ht : code % n < n := Nat.mod_lt _ (by omega)
      have hcd : code / n ≤ 100000 := Nat.le_trans (Nat.div_le_self _ _) hcode
      generalize code % n = t at ht ⊢
      generalize code / n = code' at hcd ⊢
      have hdt := hd t
      rw [gA_in (show t < 3 by omega) (by decide), gA_in (show t < 3 by omega) (by decide), ix_nI (show t < 2 ^ 31 by omega), LtS_eq, gA_in (show t < 3 by omega) (by decide), h6 t (by omega), nI_1]
      have f1 : fr [] [6, 7] M (sA M 6 t (nI (d t + 1))) := fr_A (by decide) fr_rf
      have hroom : fX7_room (sA M 6 t (nI (d t + 1))) = some (nI R, sA M 6 t (nI (d t + 1))) := by
        unfold fX7_room
        have r1 := RM_fr r f1 (by decide) (by decide)
        rw [Bd_eq (roomForM_ok r1.1.1 ⟨i.1, i.2.1⟩), r1.1.2.2]
        have : (sA M 6 t (nI (d t + 1))).1 4 = M.1 4 := rfl
        rw [this, hrm]
      rw [Bd_eq hroom, sAs, pk_us]
      by_cases cR : d t < R
      · rw [if_pos (nI_le (by omega) (by omega)), if_pos cR]
        have g0 : (sA M 6 t (nI (d t + 1))).2 0 l = nI (u l) := r.2.1 l (by omega)
        have g7 : (sA M 6 t (nI (d t + 1))).2 7 = M.2 7 := rfl
        rw [gA_in (show l < 300 by omega) (by decide), g0, gA_in pu (by decide), ix_nI (show u l < 2 ^ 31 by omega), g7]
        have hba := bts_z (h7 (u l) pu) (show t < 8 by omega)
        -- after the first point
        have step : ∀ x : Int32, x = nI (nw e (u l) t) → ∃ Y, fX7_dealt_139 (fX7_dealt_48 N) (nI code') (nI l) (nI t) x (nI c) (sA M 6 t (nI (d t + 1))) = some (eo (rnC n R (lst u v h j (l + 1)) code' (upL d t) (bmp (bmp e (u l) t) (v l) t) (c + (nw e (u l) t + nw e (v l) t))), Y) ∧ fr [] [6, 7] M Y := by
          intro x hx
          subst hx
          have n1 := nw_le (e := e) (p := u l) (t := t)
          have n2 := nw_le (e := e) (p := v l) (t := t)
          unfold fX7_dealt_139
          simp only [Lt]
          rw [gA_in (show l < 300 by omega) (by decide), ix_nI (show l < 2 ^ 31 by omega), g0, gA_in pu (by decide), gA_in pu (by decide), ix_nI (show u l < 2 ^ 31 by omega), g7, LtS_eq, gA_in (show l < 300 by omega) (by decide)]
          generalize hS : sA (sA M 6 t (nI (d t + 1))) 7 (u l) ((M.2 7 (u l)) ||| ((1 : Int32) <<< ((nI t) &&& 31))) = S2
          have k7 : S2.2 7 = upd (M.2 7) (u l) ((M.2 7 (u l)) ||| ((1 : Int32) <<< ((nI t) &&& 31))) := by rw [← hS]; rfl
          have f2 : fr [] [6, 7] M S2 := by rw [← hS]; exact fr_A (by decide) f1
          have k1 : S2.2 1 l = nI (v l) := by rw [f2.2 1 (by decide)]; exact r.2.2.1 l (by omega)
          have k6 : S2.2 6 = upd (M.2 6) t (nI (d t + 1)) := by rw [← hS]; rfl
          have hb2 : bts (S2.2 7 (v l)) (bmp e (u l) t (v l)) := by
            rw [k7, pk_un (Ne.symm puv)]
            exact bts_congr (fun k _ => by rw [bmp_n (fun z => puv z.1.symm)]) (h7 (v l) pv)
          have hbb := bts_z hb2 (show t < 8 by omega)
          rw [k1, gA_in pv (by decide), ix_nI (show v l < 2 ^ 31 by omega)]
          have enw : nw (bmp e (u l) t) (v l) t = nw e (v l) t := by unfold nw; rw [bmp_n (fun z => puv z.1.symm)]
          have step2 : ∀ y : Int32, y = nI (nw e (v l) t) → ∃ Y, fX7_dealt_186 (fX7_dealt_48 N) (nI code') (nI l) (nI t) y (nI c + nI (nw e (u l) t)) S2 = some (eo (rnC n R (lst u v h j (l + 1)) code' (upL d t) (bmp (bmp e (u l) t) (v l) t) (c + (nw e (u l) t + nw e (v l) t))), Y) ∧ fr [] [6, 7] M Y := by
            intro y hy
            subst hy
            unfold fX7_dealt_186 fX7_dealt_207
            simp only [Lt]
            rw [gA_in (show l < 300 by omega) (by decide), ix_nI (show l < 2 ^ 31 by omega), k1, gA_in pv (by decide), gA_in pv (by decide), ix_nI (show v l < 2 ^ 31 by omega), LtS_eq, nI_add, nI_add, nI_1, Nat.add_assoc]
            have f3 : fr [] [6, 7] M (sA S2 7 (v l) ((S2.2 7 (v l)) ||| ((1 : Int32) <<< ((nI t) &&& 31)))) := fr_A (by decide) f2
            obtain ⟨Y, y1, y2⟩ := ih (l + 1) N code' (c + (nw e (u l) t + nw e (v l) t)) (upL d t) (bmp (bmp e (u l) t) (v l) t) (sA S2 7 (v l) ((S2.2 7 (v l)) ||| ((1 : Int32) <<< ((nI t) &&& 31)))) (by omega) (by omega) hcd (by omega) (fun s => by
              have := hd s
              unfold upL
              split
              · omega
              · omega) (RM_fr r f3 (by decide) (by decide)) (by rw [f3.1 4 (by decide)]; exact hrm) (fun s hs => by
              rw [sAn (by decide), k6]
              unfold upL
              by_cases z : s = t
              · subst z; rw [pk_us, if_pos rfl]
              · rw [pk_un z, if_neg z]; exact h6 s hs) (fun p hp => by
              rw [sAs]
              by_cases z : p = v l
              · subst z; rw [pk_us]; exact bts_set (by omega) hb2
              · rw [pk_un z, k7]
                by_cases z2 : p = u l
                · subst z2
                  rw [pk_us]
                  exact bts_congr (fun k _ => by rw [bmp_n (fun y => z y.1)]) (bts_set (by omega) (h7 (u l) pu))
                · rw [pk_un z2]
                  exact bts_congr (fun k _ => by rw [bmp_n (fun y => z y.1), bmp_n (fun y => z2 y.1)]) (h7 p hp))
            exact ⟨Y, y1, fr_tr f3 y2⟩
          by_cases zb : 0 < bmp e (u l) t (v l) t
          · rw [if_neg (fun y => (hbb.mp y) zb)]
            refine step2 0 ?_
            rw [← enw]; unfold nw; rw [if_pos zb]; rfl
          · rw [if_pos (hbb.mpr zb)]
            refine step2 1 ?_
            rw [← enw]; unfold nw; rw [if_neg zb]; rfl
        by_cases za : 0 < e (u l) t
        · rw [if_neg (fun y => (hba.mp y) za)]
          exact step 0 (by unfold nw; rw [if_pos za]; rfl)
        · rw [if_pos (hba.mpr za)]
          exact step 1 (by unfold nw; rw [if_neg za]; rfl)
      · rw [if_neg (nI_ge (by omega) (by omega)), if_neg cR]
        exact ⟨_, rfl, f1⟩
theorem d22_l {v1 : Int32} : ∀ (j q N : Nat) (M : St), q + j = 40 → j < N → (∀ p, p < q → M.2 7 p = 0) → ∃ Y, fX7_dealt_22 N v1 (nI q) M = fX7_dealt_48 FU v1 0 0 Y ∧ (∀ p, p < 40 → Y.2 7 p = 0) ∧ fr [] [7] M Y := by
  intro j
  induction j with
  | zero =>
    intro q N M hq hN h7
    obtain ⟨N, rfl⟩ : ∃ K, N = K + 1 := ⟨N - 1, by omega⟩
    have e : q = 40 := by omega
    subst e
    refine ⟨M, ?_, h7, fr_rf⟩
    show fX7_dealt_22_b _ _ _ _ = _
    unfold fX7_dealt_22_b
    rw [if_pos (by decide)]
  | succ j ih =>
    intro q N M hq hN h7
    obtain ⟨N, rfl⟩ : ∃ K, N = K + 1 := ⟨N - 1, by omega⟩
    obtain ⟨Y, y1, y2, y3⟩ := ih (q + 1) N (sA M 7 q 0) (by omega) (by omega) (fun p hp => by
      rw [sAs]
      by_cases e : p = q
      · subst e; rw [pk_us]
      · rw [pk_un e]; exact h7 p (by omega))
    refine ⟨Y, ?_, y2, fr_tr (fr_A (by decide) fr_rf) y3⟩
    show fX7_dealt_22_b _ _ _ _ = _
    unfold fX7_dealt_22_b
    rw [nl40, if_neg (nI_ge (by omega) (by omega)), gA_in (by omega) (by decide), ix_nI (by omega), nI_1]
    exact y1
theorem d2_l {v1 : Int32} : ∀ (j q N : Nat) (M : St), q + j = 3 → j < N → (∀ p, p < q → M.2 6 p = 0) → ∃ Y, fX7_dealt_2 N v1 (nI q) M = fX7_dealt_22 FU v1 0 Y ∧ (∀ p, p < 3 → Y.2 6 p = 0) ∧ fr [] [6] M Y := by
  intro j
  induction j with
  | zero =>
    intro q N M hq hN h7
    obtain ⟨N, rfl⟩ : ∃ K, N = K + 1 := ⟨N - 1, by omega⟩
    have e : q = 3 := by omega
    subst e
    refine ⟨M, ?_, h7, fr_rf⟩
    show fX7_dealt_2_b _ _ _ _ = _
    unfold fX7_dealt_2_b
    rw [if_pos (by decide)]
  | succ j ih =>
    intro q N M hq hN h7
    obtain ⟨N, rfl⟩ : ∃ K, N = K + 1 := ⟨N - 1, by omega⟩
    obtain ⟨Y, y1, y2, y3⟩ := ih (q + 1) N (sA M 6 q 0) (by omega) (by omega) (fun p hp => by
      rw [sAs]
      by_cases e : p = q
      · subst e; rw [pk_us]
      · rw [pk_un e]; exact h7 p (by omega))
    refine ⟨Y, ?_, y2, fr_tr (fr_A (by decide) fr_rf) y3⟩
    show fX7_dealt_2_b _ _ _ _ = _
    unfold fX7_dealt_2_b
    rw [show (3 : Int32) = nI 3 from rfl, if_neg (nI_ge (by omega) (by omega)), gA_in (by omega) (by decide), ix_nI (by omega), nI_1]
    exact y1
theorem dlt_ok {n m : Nat} {u v : Nat → Nat} {h : Nat → Option Nat} {R code : Nat} {M : St} (i : IN n m u v h) (hn3 : n ≤ 3) (hR : R ≤ 100000) (hcode : code ≤ 100000) (r : RM 1000 n m u v h M) (hrm : rmf n (M.1 4) (nI (sm (ld h m) 8)) = nI R) : ∃ Y, fX7_dealt (nI code) M = some (eo (rnC n R (lst u v h m 0) code (fun _ => 0) (fun _ _ => 0) 0), Y) ∧ fr [] [6, 7] M Y := by
  have hm := i.2.2.1
  have hF := FU_gt
  obtain ⟨A, a1, a2, a3⟩ := d2_l (v1 := nI code) 3 0 FU M (by omega) (by omega) (fun p hp => by omega)
  obtain ⟨B, b1, b2, b3⟩ := d22_l (v1 := nI code) 40 0 FU A (by omega) (by omega) (fun p hp => by omega)
  have f : fr [] [6, 7] M B := fr_tr (fr_mo a3 (by decide) (by decide)) (fr_mo b3 (by decide) (by decide))
  obtain ⟨Y, y1, y2⟩ := dltM_l i hn3 hR m 0 FU code 0 (fun _ => 0) (fun _ _ => 0) B (by omega) (by omega) hcode (by omega) (fun _ => by omega) (RM_fr r f (by decide) (by decide)) (by rw [f.1 4 (by decide)]; exact hrm) (fun t ht => by rw [b3.2 6 (by decide), a2 t ht]; rfl) (fun p hp => by rw [b2 p hp]; exact bts0 (fun _ => rfl))
  exact ⟨Y, a1.trans (b1.trans y1), fr_tr f y2⟩
def bst (f : Nat → Option Nat) : Nat → Option Nat
  | 0 => none
  | k + 1 => match f k with
    | none => bst f k
    | some r => match bst f k with
      | none => some r
      | some b => if b ≤ r then some b else some r
theorem bst_ok {f : Nat → Option Nat} : ∀ {K b : Nat}, bst f K = some b → (∃ k, k < K ∧ f k = some b) ∧ ∀ k, k < K → ∀ r, f k = some r → b ≤ r
  | 0, b, h => by simp [bst] at h
  | K + 1, b, h => by
    simp only [bst] at h
    cases e : f K with
    | none =>
      rw [e] at h
      obtain ⟨⟨k, k1, k2⟩, k3⟩ := bst_ok (f := f) (K := K) h
      refine ⟨⟨k, by omega, k2⟩, fun j hj r hr => ?_⟩
      by_cases z : j = K
      · subst z; rw [e] at hr; cases hr
      · exact k3 j (by omega) r hr
    | some r0 =>
      rw [e] at h
      simp only at h
      cases g : bst f K with
      | none =>
        rw [g] at h
        cases h
        refine ⟨⟨K, by omega, e⟩, fun j hj r hr => ?_⟩
        by_cases z : j = K
        · subst z; rw [e] at hr; cases hr; exact Nat.le_refl _
        · exfalso
          have : ∀ {L : Nat}, bst f L = none → ∀ k, k < L → f k = none := by
            intro L
            induction L with
            | zero => intro _ k hk; omega
            | succ L ihL =>
              intro hb k hk
              simp only [bst] at hb
              cases q : f L with
              | none =>
                rw [q] at hb
                by_cases y : k = L
                · subst y; exact q
                · exact ihL hb k (by omega)
              | some r =>
                rw [q] at hb
                simp only at hb
                cases p : bst f L with
                | none => rw [p] at hb; cases hb
                | some b =>
                  rw [p] at hb
                  simp only at hb
                  split at hb <;> cases hb
          rw [this g j (by omega)] at hr
          cases hr
      | some b0 =>
        rw [g] at h
        simp only at h
        obtain ⟨⟨k, k1, k2⟩, k3⟩ := bst_ok (f := f) (K := K) g
        split at h
        · cases h
          refine ⟨⟨k, by omega, k2⟩, fun j hj r hr => ?_⟩
          by_cases z : j = K
          · subst z; rw [e] at hr; cases hr; assumption
          · exact k3 j (by omega) r hr
        · cases h
          refine ⟨⟨K, by omega, e⟩, fun j hj r hr => ?_⟩
          by_cases z : j = K
          · subst z; rw [e] at hr; cases hr; exact Nat.le_refl _
          · have := k3 j (by omega) r hr; omega
theorem bst_some {f : Nat → Option Nat} {k r : Nat} (hf : f k = some r) : ∀ {K : Nat}, k < K → ∃ b, bst f K = some b
  | 0, h => by omega
  | K + 1, h => by
    simp only [bst]
    by_cases z : k = K
    · subst z
      rw [hf]
      simp only
      cases bst f k with
      | none => exact ⟨r, rfl⟩
      | some b =>
        simp only
        split
        · exact ⟨b, rfl⟩
        · exact ⟨r, rfl⟩
    · obtain ⟨b, hb⟩ := bst_some hf (K := K) (by omega)
      cases f K with
      | none => exact ⟨b, hb⟩
      | some r0 =>
        simp only
        rw [hb]
        simp only
        split
        · exact ⟨b, rfl⟩
        · exact ⟨r0, rfl⟩
theorem bsM_l {n m : Nat} {u v : Nat → Nat} {h : Nat → Option Nat} {R K : Nat} (i : IN n m u v h) (hn3 : n ≤ 3) (hR : R ≤ 100000) (hK : K ≤ 7000) : ∀ (j k N : Nat) (M : St), k + j = K → j < N → RM 1000 n m u v h M → rmf n (M.1 4) (nI (sm (ld h m) 8)) = nI R → ∃ Y, fX7_best_52 N (nI K) (eo (bst (fun code => rnC n R (lst u v h m 0) code (fun _ => 0) (fun _ _ => 0) 0) k)) (nI k) M = some (eo (bst (fun code => rnC n R (lst u v h m 0) code (fun _ => 0) (fun _ _ => 0) 0) K), Y) ∧ fr [] [6, 7] M Y := by
  have hm := i.2.2.1
  have hub : ∀ code r, rnC n R (lst u v h m 0) code (fun _ => 0) (fun _ _ => 0) 0 = some r → r ≤ 1000 := fun code r hr => by
    have h1 := Rch_ub (rnC_ok (by have := i.1; omega) hr)
    have hlen := lst_len (u := u) (v := v) (h := h) (j := m) (l := 0)
    have h2 := cnt_le (P := fun a => (h a).isSome) (m := 0 + m)
    omega
  intro j
  induction j with
  | zero =>
    intro k N M hk hN r hrm
    obtain ⟨N, rfl⟩ : ∃ K, N = K + 1 := ⟨N - 1, by omega⟩
    have e : k = K := by omega
    subst e
    refine ⟨M, ?_, fr_rf⟩
    show fX7_best_52_b _ _ _ _ _ = _
    unfold fX7_best_52_b
    rw [if_pos (Int32.le_refl _)]
  | succ j ih =>
    intro k N M hk hN r hrm
    obtain ⟨N, rfl⟩ : ∃ K, N = K + 1 := ⟨N - 1, by omega⟩
    obtain ⟨A, a1, a2⟩ := dlt_ok (code := k) i hn3 hR (by omega) r hrm
    obtain ⟨Y, y1, y2⟩ := ih (k + 1) N A (by omega) (by omega) (RM_fr r a2 (by decide) (by decide)) (by rw [a2.1 4 (by decide)]; exact hrm)
    refine ⟨Y, ?_, fr_tr a2 y2⟩
    rw [← y1]
    show fX7_best_52_b _ _ _ _ _ = _
    unfold fX7_best_52_b fX7_best_81 fX7_best_84
    rw [if_neg (nI_ge (by omega) (by omega)), Bd_eq a1, nI_1]
    simp only [bst]
    cases e : rnC n R (lst u v h m 0) k (fun _ => 0) (fun _ _ => 0) 0 with
    | none => rw [if_pos (show eo none = -1 from rfl)]
    | some r0 =>
      have h1 := hub k r0 e
      rw [if_neg (show ¬ eo (some r0) = -1 from nI_nm1 (by omega))]
      simp only
      cases g : bst (fun code => rnC n R (lst u v h m 0) code (fun _ => 0) (fun _ _ => 0) 0) k with
      | none => rw [if_pos (show eo none = -1 from rfl)]
      | some b =>
        obtain ⟨k', -, k2⟩ := (bst_ok g).1
        have h2 := hub k' b k2
        rw [if_neg (show ¬ eo (some b) = -1 from nI_nm1 (by omega))]
        simp only
        by_cases z : b ≤ r0
        · rw [if_pos z, if_pos (show eo (some b) ≤ eo (some r0) from nI_le z (by omega))]
        · rw [if_neg z, if_neg (show ¬ eo (some b) ≤ eo (some r0) from nI_ge (by omega) (by omega))]
theorem pwM_l {n m : Nat} {u v : Nat → Nat} {h : Nat → Option Nat} {M : St} {K : Nat} (hK : K = sm (ld h m) 8) (hk8 : K ≤ 8) (r : RM 1000 n m u v h M) : ∀ (j k N : Nat), k + j = K → j < N → fX7_best_27 N (nI (n ^ k)) (nI k) M = fX7_best_52 FU (nI (n ^ K)) (-1) 0 M := by
  intro j
  induction j with
  | zero =>
    intro k N hk hN
    obtain ⟨N, rfl⟩ : ∃ K, N = K + 1 := ⟨N - 1, by omega⟩
    have e : k = K := by omega
    subst e
    show fX7_best_27_b _ _ _ _ = _
    unfold fX7_best_27_b
    rw [r.1.2.2, ← hK, if_pos (Int32.le_refl _)]
  | succ j ih =>
    intro k N hk hN
    obtain ⟨N, rfl⟩ : ∃ K, N = K + 1 := ⟨N - 1, by omega⟩
    rw [← ih (k + 1) N (by omega) (by omega)]
    show fX7_best_27_b _ _ _ _ = _
    unfold fX7_best_27_b
    simp only [Lt]
    rw [r.1.2.2, ← hK, if_neg (nI_ge (by omega) (by omega)), r.1.1, pk_mul, nI_1, Nat.pow_succ]
theorem du_best : DU fX6_best fX7_best := by
  rintro X M ⟨n, m, u, v, h, w, ru, sl, le, i, r, q, c, b⟩
  have hF := FU_gt
  have hm := i.2.2.1
  have h8 := i.2.1
  have h2 := i.1
  have hlv := liv_ub (h := h) (m := m)
  have same := Rl_same i r q c b
  unfold fX6_best fX7_best fX6_best_34 fX7_best_21
  rw [r.1.2.2, q.1.2.2, r.1.1]
  by_cases c1 : 1 ≤ sm (ld h m) 8 ∧ sm (ld h m) 8 ≤ 8
  · rw [if_neg (show ¬ nI (sm (ld h m) 8) < (1 : Int32) from nI_nlt (b := 1) c1.1 (by omega)), if_neg (show ¬ (8 : Int32) < nI (sm (ld h m) 8) from nI_nlt (a := 8) c1.2 (by omega)), Bd_eq (in_yes (M := M) (show ¬ nI (sm (ld h m) 8) < (1 : Int32) from nI_nlt (b := 1) c1.1 (by omega)) (show ¬ (8 : Int32) < nI (sm (ld h m) 8) from nI_nlt (a := 8) c1.2 (by omega))), if_neg n10, q.1.1]
    by_cases c3 : n ≤ 3
    · rw [if_pos (show nI n ≤ (3 : Int32) from nI_le (b := 3) c3 (by decide)), if_pos (show nI n ≤ (3 : Int32) from nI_le (b := 3) c3 (by decide))]
      have hlc : cnt (fun a => (h a).isSome) m = sm (ld h m) 8 := liv_cnt (n := n) (u := u) (v := v) (fun l hl k hk => by have := i.2.2.2.2 l hl k hk; omega)
      have hrN := rmf_nat (n := n) (s := sl) (t := sm (ld h m) 8) h2 h8 c.1.2.2.1 (by omega)
      have hhit := room_hit (n := n) (s := sl) (t := sm (ld h m) 8) h2
      have hRb : (sm (ld h m) 8 * (100 + sl) + 100 * n - 1) / (100 * n) ≤ 100000 := by
        have b1 : sm (ld h m) 8 * (100 + sl) ≤ 8 * 200 := Nat.mul_le_mul c1.2 (by have := c.1.2.2.1; omega)
        have := Nat.div_le_self (sm (ld h m) 8 * (100 + sl) + 100 * n - 1) (100 * n)
        omega
      generalize (sm (ld h m) 8 * (100 + sl) + 100 * n - 1) / (100 * n) = R at hrN hhit hRb
      obtain ⟨Y, w1, y1, y2, y3⟩ := few_ok (R := R) i c3 r b (by omega) hRb (by omega)
      rw [Bd_eq (roomFor_ok r.1.1 ⟨i.1, i.2.1⟩), c.2.2.2.2.1.1, hrN, Bd_eq y1]
      have hpw : n ^ sm (ld h m) 8 ≤ 7000 := by
        have a1 : n ^ sm (ld h m) 8 ≤ 3 ^ sm (ld h m) 8 := Nat.pow_le_pow_left c3 _
        have a2 : 3 ^ sm (ld h m) 8 ≤ 3 ^ 8 := Nat.pow_le_pow_right (by decide) c1.2
        have a3 : 3 ^ 8 = 6561 := by decide
        omega
      obtain ⟨Z, z1, z2⟩ := bsM_l (K := n ^ sm (ld h m) 8) i c3 hRb hpw (n ^ sm (ld h m) 8) 0 FU M (by omega) (by omega) q (by rw [c.2.2.2.2.1.2]; exact hrN)
      have hp := pwM_l (K := sm (ld h m) 8) rfl c1.2 q (sm (ld h m) 8) 0 FU (by omega) (by omega)
      have hlen := lst_len (u := u) (v := v) (h := h) (j := m) (l := 0)
      have e0 : cnt (fun a => (h a).isSome) 0 = 0 := rfl
      rw [e0, Nat.zero_add, hlc] at hlen
      have hln : (lst u v h m 0).length = sm (ld h m) 8 := by omega
      obtain ⟨code, k1, k2⟩ := rnC_of (by omega) y2.1
      rw [hln] at k1
      obtain ⟨w2, hw2⟩ := bst_some (f := fun code => rnC n R (lst u v h m 0) code (fun _ => 0) (fun _ _ => 0) 0) k2 k1
      have hmn : Mn n R (lst u v h m 0) w2 := by
        obtain ⟨⟨k, ka, kb⟩, kc⟩ := bst_ok hw2
        refine ⟨rnC_ok (by omega) kb, fun r0 hr0 => ?_⟩
        obtain ⟨code', j1, j2⟩ := rnC_of (by omega) hr0
        rw [hln] at j1
        exact kc code' j1 r0 j2
      have ew := Mn_one y2 hmn
      rw [hw2] at z1
      have fX := fr_mo (fs' := [13, 14, 15]) (as' := [8]) y3 (by decide) (by decide)
      refine ⟨nI w1, Y, Z, rfl, ?_, Rl_mk i (RC_of_fr r y3 (by decide) (by decide)) (RM_fr q z2 (by decide) (by decide)) c b y3 z2 (by decide) (by decide) (by decide)⟩
      rw [ew]
      exact hp.trans z1
    · rw [if_neg (show ¬ nI n ≤ (3 : Int32) from nI_ge (a := 3) (by omega) (by omega)), if_neg (show ¬ nI n ≤ (3 : Int32) from nI_ge (a := 3) (by omega) (by omega))]
      exact ⟨-1, X, M, rfl, rfl, same⟩
  · by_cases c0 : sm (ld h m) 8 < 1
    · rw [if_pos (show nI (sm (ld h m) 8) < (1 : Int32) from nI_lt (b := 1) c0 (by decide)), Bd_eq (in_lo (M := M) (show nI (sm (ld h m) 8) < (1 : Int32) from nI_lt (b := 1) c0 (by decide)))]
      exact ⟨-1, X, M, rfl, rfl, same⟩
    · have c9 : 8 < sm (ld h m) 8 := by omega
      rw [if_neg (show ¬ nI (sm (ld h m) 8) < (1 : Int32) from nI_nlt (b := 1) (by omega) (by omega)), if_pos (show (8 : Int32) < nI (sm (ld h m) 8) from nI_lt (a := 8) c9 (by omega)), Bd_eq (in_hi (M := M) (a := 1) (show (8 : Int32) < nI (sm (ld h m) 8) from nI_lt (a := 8) c9 (by omega)))]
      exact ⟨-1, X, M, rfl, rfl, same⟩
