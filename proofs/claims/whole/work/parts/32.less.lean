/-! a host goes -/
theorem LtS_eq {S : St} {Z : St → Rs} : LtS S Z = Z S := rfl
theorem eo_neg {k : Nat} (hk : k < 2 ^ 31) : eo none ≤ nI k := by
  have h1 : (eo none).toInt = -1 := by decide
  have h2 := nI_toInt hk
  exact Int32.le_iff_toInt_le.mpr (by omega)
def drp (k : Nat) : Option Nat → Option Nat
  | none => none
  | some j => if j = k then none else if k < j then some (j - 1) else some j
def hcu (k l : Nat) (h : Nat → Option Nat) : Nat → Option Nat := fun j => if j < l then drp k (h j) else h j
def hcn (k l : Nat) (h : Nat → Option Nat) : Nat → Option Nat := fun j => if j < l ∧ h j = some k then none else h j
def anw (k : Nat) (h : Nat → Option Nat) : Nat → Bool := fun l => h l == some k
theorem hcu_s {k l : Nat} {h : Nat → Option Nat} : hcu k (l + 1) h = uph (hcu k l h) l (drp k (h l)) := by
  funext j
  simp only [hcu, uph]
  by_cases e : j = l
  · subst e; simp
  · rw [if_neg e]
    by_cases c : j < l
    · rw [if_pos c, if_pos (by omega)]
    · rw [if_neg c, if_neg (by omega)]
theorem hcu_at {k l : Nat} {h : Nat → Option Nat} : hcu k l h l = h l := by unfold hcu; rw [if_neg (by omega)]
theorem uph_id {h : Nat → Option Nat} {l : Nat} : uph h l (h l) = h := by
  funext j
  by_cases e : j = l
  · subst e; rw [uph_s]
  · rw [uph_n e]
theorem uph_id' {h : Nat → Option Nat} {l : Nat} {x : Option Nat} (e : h l = x) : uph h l x = h := by rw [← e]; exact uph_id
theorem uph2 {h : Nat → Option Nat} {l : Nat} {x y : Option Nat} : uph (uph h l x) l y = uph h l y := by
  funext j
  by_cases e : j = l
  · subst e; rw [uph_s, uph_s]
  · rw [uph_n e, uph_n e, uph_n e]
theorem hcn_s {k l : Nat} {h : Nat → Option Nat} (e : h l = some k) : hcn k (l + 1) h = uph (hcn k l h) l none := by
  funext j
  simp only [hcn, uph]
  by_cases c : j = l
  · subst c; simp [e]
  · rw [if_neg c]
    by_cases d : j < l
    · by_cases g : h j = some k
      · rw [if_pos ⟨by omega, g⟩, if_pos ⟨d, g⟩]
      · rw [if_neg (fun z => g z.2), if_neg (fun z => g z.2)]
    · rw [if_neg (fun z => by omega), if_neg (fun z => d z.1)]
theorem hcn_n {k l : Nat} {h : Nat → Option Nat} (e : ¬ h l = some k) : hcn k (l + 1) h = hcn k l h := by
  funext j
  unfold hcn
  by_cases c : j = l
  · subst c; rw [if_neg (fun z => e z.2), if_neg (fun z => e z.2)]
  · by_cases d : j < l
    · by_cases g : h j = some k
      · rw [if_pos ⟨by omega, g⟩, if_pos ⟨d, g⟩]
      · rw [if_neg (fun z => g z.2), if_neg (fun z => g z.2)]
    · rw [if_neg (fun z => by omega), if_neg (fun z => d z.1)]
theorem hcn_at {k l : Nat} {h : Nat → Option Nat} : hcn k l h l = h l := by unfold hcn; rw [if_neg (fun z => by omega)]
/-- the class -/
theorem drop_l {n m : Nat} {u v : Nat → Nat} {h : Nat → Option Nat} {k : Nat} (i0 : IN n m u v h) (hk : k < n) : ∀ (j l N : Nat) (X : St), l + j = m → j < N → IN n m u v (hcu k l h) → RC n m u v (hcu k l h) X → (∀ a, a < l → anw k h a = true → X.2 0 (cnt (anw k h) a) = nI a) → ∃ Y, fX4_dropHost_5 N (nI k) (nI (cnt (anw k h) l)) (nI l) X = some (nI (cnt (anw k h) m), Y) ∧ IN n m u v (hcu k m h) ∧ RC (n - 1) m u v (hcu k m h) Y ∧ (∀ a, a < m → anw k h a = true → Y.2 0 (cnt (anw k h) a) = nI a) ∧ fr [2, 4, 5] [0, 3, 4, 5, 6, 7] X Y := by
  have hm := i0.2.2.1
  have hn := i0.2.1
  have hn2 := i0.1
  intro j
  induction j with
  | zero =>
    intro l N X hl hN i r hw
    obtain ⟨N, rfl⟩ : ∃ K, N = K + 1 := ⟨N - 1, by omega⟩
    have e : l = m := by omega
    subst e
    refine ⟨sF X 2 (nI (n - 1)), ?_, i, ⟨⟨rfl, r.1.2⟩, r.2.1, r.2.2.1, r.2.2.2.1, r.2.2.2.2.1, r.2.2.2.2.2⟩, hw, fr_F (by decide) fr_rf⟩
    show fX4_dropHost_5_b _ _ _ _ _ = _
    unfold fX4_dropHost_5_b
    rw [r.1.2.1, if_pos (Int32.le_refl _), r.1.1, nI_m1 (by omega)]; rfl
  | succ j ih =>
    intro l N X hl hN i r hw
    obtain ⟨N, rfl⟩ : ∃ K, N = K + 1 := ⟨N - 1, by omega⟩
    have hat : hcu k l h l = h l := hcu_at
    have hcl := cnt_le (P := anw k h) (m := l)
    have next : ∀ Y, IN n m u v (hcu k (l + 1) h) → RC n m u v (hcu k (l + 1) h) Y → (∀ a, a < l + 1 → anw k h a = true → Y.2 0 (cnt (anw k h) a) = nI a) → fr [2, 4, 5] [0, 3, 4, 5, 6, 7] X Y → ∃ Z, fX4_dropHost_5 N (nI k) (nI (cnt (anw k h) (l + 1))) (nI (l + 1)) Y = some (nI (cnt (anw k h) m), Z) ∧ IN n m u v (hcu k m h) ∧ RC (n - 1) m u v (hcu k m h) Z ∧ (∀ a, a < m → anw k h a = true → Z.2 0 (cnt (anw k h) a) = nI a) ∧ fr [2, 4, 5] [0, 3, 4, 5, 6, 7] X Z := by
      intro Y iY rY wY fY
      obtain ⟨Z, z1, z2, z3, z4, z5⟩ := ih (l + 1) N Y (by omega) (by omega) iY rY wY
      exact ⟨Z, z1, z2, z3, z4, fr_tr fY z5⟩
    show ∃ Y, fX4_dropHost_5_b _ _ _ _ _ = _ ∧ _
    unfold fX4_dropHost_5_b fX4_dropHost_53 fX4_dropHost_76
    simp only [Lt]
    rw [r.1.2.1, if_neg (nI_ge (by omega) (by omega)), gA_in (by omega) (by decide), ix_nI (show l < 2 ^ 31 by omega), r.2.2.2.1 l (by omega), hat]
    have wkeep : anw k h l = false → ∀ Y : St, Y.2 0 = X.2 0 → ∀ a, a < l + 1 → anw k h a = true → Y.2 0 (cnt (anw k h) a) = nI a := by
      intro hf Y hY a ha hh
      by_cases c : a = l
      · subst c; rw [hf] at hh; cases hh
      · rw [hY]; exact hw a (by omega) hh
    have ckeep : anw k h l = false → cnt (anw k h) (l + 1) = cnt (anw k h) l := fun hf => by simp only [cnt]; rw [hf]; simp
    cases e : h l with
    | none =>
      have hf : anw k h l = false := by unfold anw; rw [e]; rfl
      have hs : hcu k (l + 1) h = hcu k l h := by rw [hcu_s, e]; exact uph_id' (by rw [hat, e]; rfl)
      rw [if_neg (show ¬ eo none = nI k from fun z => nI_nm1 (by omega) z.symm), if_pos (eo_neg (show k < 2 ^ 31 by omega)), nI_1]
      have := next X (by rw [hs]; exact i) (by rw [hs]; exact r) (wkeep hf X rfl) fr_rf
      rw [ckeep hf] at this
      exact this
    | some d =>
      have hd := i0.2.2.2.2 l (by omega) d e
      have hcd : hcu k l h l = some d := by rw [hat, e]
      obtain ⟨X1, x1, x2, x3⟩ := takeOff_ok i r (show l < m by omega) hcd
      by_cases c1 : d = k
      · subst c1
        have hf : anw d h l = true := by unfold anw; rw [e]; simp
        have hs : hcu d (l + 1) h = uph (hcu d l h) l none := by
          rw [hcu_s, e]
          show uph _ l (if d = d then none else if d < d then some (d - 1) else some d) = _
          rw [if_pos rfl]
        have hc1 : cnt (anw d h) (l + 1) = cnt (anw d h) l + 1 := by simp only [cnt]; rw [hf]; simp
        rw [if_pos (show eo (some d) = nI d from rfl), nl300, if_neg (nI_ge (by omega) (by omega)), Bd_eq x1, gA_in (by omega) (by decide), ix_nI (by omega), nI_1, nI_1]
        have f1 : fr [2, 4, 5] [0, 3, 4, 5, 6, 7] X (sA X1 0 (cnt (anw d h) l) (nI l)) := fr_A (by decide) (fr_mo x3 (by decide) (by decide))
        have f2 : fr [] [0] X1 (sA X1 0 (cnt (anw d h) l) (nI l)) := fr_A (by decide) fr_rf
        have := next (sA X1 0 (cnt (anw d h) l) (nI l)) (by rw [hs]; exact IN_take i) (by rw [hs]; exact RC_of_fr x2 f2 (by decide) (by decide)) (fun a ha hh => by
          rw [sAs]
          by_cases z : a = l
          · subst z; rw [pk_us]
          · have : cnt (anw d h) a < cnt (anw d h) l := by
              have h1 : cnt (anw d h) (a + 1) ≤ cnt (anw d h) l := by
                have : ∀ b, a + 1 ≤ b → cnt (anw d h) (a + 1) ≤ cnt (anw d h) b := by
                  intro b
                  induction b with
                  | zero => intro h; omega
                  | succ b ihb =>
                    intro h
                    by_cases q : a + 1 = b + 1
                    · rw [q]; exact Nat.le_refl _
                    · have := ihb (by omega)
                      simp only [cnt] at this ⊢
                      omega
                exact this l (by omega)
              have h2 : cnt (anw d h) (a + 1) = cnt (anw d h) a + 1 := by simp only [cnt]; rw [hh]; simp
              omega
            rw [pk_un (by omega), x3.2 0 (by decide)]
            exact hw a (by omega) hh) f1
        rw [hc1] at this
        exact this
      · have hf : anw k h l = false := by unfold anw; rw [e]; simp; exact c1
        rw [if_neg (show ¬ eo (some d) = nI k from fun z => c1 ((nI_eq (by omega) (by omega)).mp z))]
        by_cases c2 : k < d
        · have hs : hcu k (l + 1) h = uph (uph (hcu k l h) l none) l (some (d - 1)) := by
            rw [hcu_s, e, uph2]
            show uph _ l (if d = k then none else if k < d then some (d - 1) else some d) = _
            rw [if_neg c1, if_pos c2]
          obtain ⟨X2, y1, y2, y3⟩ := putOn_ok (l := l) (k := d - 1) (IN_take i) x2 (show l < m by omega) uph_s (by omega)
          rw [if_neg (show ¬ eo (some d) ≤ nI k from nI_ge c2 (by omega)), Bd_eq x1, show eo (some d) - 1 = nI (d - 1) from nI_m1 (by omega), Bd_eq y1, nI_1]
          have := next X2 (by rw [hs]; exact IN_put (IN_take i) (by omega)) (by rw [hs]; exact y2) (wkeep hf X2 (by rw [y3.2 0 (by decide), x3.2 0 (by decide)])) (fr_tr (fr_mo x3 (by decide) (by decide)) (fr_mo y3 (by decide) (by decide)))
          rw [ckeep hf] at this
          exact this
        · have hs : hcu k (l + 1) h = hcu k l h := by
            rw [hcu_s, e]
            show uph _ l (if d = k then none else if k < d then some (d - 1) else some d) = _
            rw [if_neg c1, if_neg c2]
            exact uph_id' hcd
          rw [if_pos (show eo (some d) ≤ nI k from nI_le (by omega) (by omega)), nI_1]
          have := next X (by rw [hs]; exact i) (by rw [hs]; exact r) (wkeep hf X rfl) fr_rf
          rw [ckeep hf] at this
          exact this
theorem IN_drop {n m : Nat} {u v : Nat → Nat} {h : Nat → Option Nat} {k : Nat} (i : IN n m u v h) (hk : k < n) (hn : 2 < n) : IN (n - 1) m u v (hcu k m h) := by
  refine ⟨by omega, by have := i.2.1; omega, i.2.2.1, i.2.2.2.1, fun l hl j hj => ?_⟩
  unfold hcu at hj
  rw [if_pos hl] at hj
  cases e : h l with
  | none => rw [e] at hj; cases hj
  | some d =>
    have := i.2.2.2.2 l hl d e
    rw [e] at hj
    simp only [drp] at hj
    split at hj
    · cases hj
    · split at hj
      · cases hj; omega
      · cases hj; omega
/-- the reference, first: the lines of the host leave -/
theorem lesA_l {n m : Nat} {u v : Nat → Nat} {h : Nat → Option Nat} {k : Nat} (i0 : IN n m u v h) (hk : k < n) : ∀ (j l N : Nat) (M : St), l + j = m → j < N → IN n m u v (hcn k l h) → RM 1000 n m u v (hcn k l h) M → (∀ a, a < l → M.2 5 a = if anw k h a = true then 1 else 0) → ∃ Y, fX7_less_28 N (nI k) (nI (cnt (anw k h) l)) (nI l) M = fX7_less_87 FU (nI k) (nI (cnt (anw k h) m)) 0 Y ∧ IN n m u v (hcn k m h) ∧ RM 1000 n m u v (hcn k m h) Y ∧ (∀ a, a < m → Y.2 5 a = if anw k h a = true then 1 else 0) ∧ fr [2] [2, 3, 4, 5] M Y := by
  have hm := i0.2.2.1
  have hn := i0.2.1
  intro j
  induction j with
  | zero =>
    intro l N M hl hN i r hw
    obtain ⟨N, rfl⟩ : ∃ K, N = K + 1 := ⟨N - 1, by omega⟩
    have e : l = m := by omega
    subst e
    refine ⟨M, ?_, i, r, hw, fr_rf⟩
    show fX7_less_28_b _ _ _ _ _ = _
    unfold fX7_less_28_b
    rw [r.1.2.1, if_pos (Int32.le_refl _)]
  | succ j ih =>
    intro l N M hl hN i r hw
    obtain ⟨N, rfl⟩ : ∃ K, N = K + 1 := ⟨N - 1, by omega⟩
    have hat : hcn k l h l = h l := hcn_at
    show ∃ Y, fX7_less_28_b _ _ _ _ _ = _ ∧ _
    unfold fX7_less_28_b fX7_less_56 fX7_less_79
    simp only [LtS, gA_in (show l < 300 by omega) (by decide), ix_nI (show l < 2 ^ 31 by omega), r.2.2.2.1 l (show l < m by omega) (show l ≠ 1000 by omega), hat, gA_0, gA_1, sAs, pk_us]
    rw [r.1.2.1, if_neg (nI_ge (by omega) (by omega)), nI_1, nI_1]
    have wk : ∀ (x : Int32) (Y : St), Y.2 5 = upd (M.2 5) l x → (x = if anw k h l = true then 1 else 0) → ∀ a, a < l + 1 → Y.2 5 a = if anw k h a = true then 1 else 0 := by
      intro x Y hY hx a ha
      rw [hY]
      by_cases c : a = l
      · subst c; rw [pk_us]; exact hx
      · rw [pk_un c]; exact hw a (by omega)
    by_cases c : h l = some k
    · have hf : anw k h l = true := by unfold anw; rw [c]; simp
      have hc1 : cnt (anw k h) (l + 1) = cnt (anw k h) l + 1 := by simp only [cnt]; rw [hf]; simp
      have hs := hcn_s c
      have f1 : fr [2] [2, 3, 4, 5] M (sA M 5 l 1) := fr_A (by decide) fr_rf
      have f1' : fr [] [5] M (sA M 5 l 1) := fr_A (by decide) fr_rf
      obtain ⟨M1, a1, a2, a3⟩ := putsM_off (l := l) (k := k) i (RM_fr r f1' (by decide) (by decide)) (by omega) (by rw [hat]; exact c)
      have f2 := fr_tr f1 (fr_mo a3 (by decide) (by decide))
      obtain ⟨Z, z1, z2, z3, z4, z5⟩ := ih (l + 1) N M1 (by omega) (by omega) (by rw [hs]; exact IN_take i) (by rw [hs]; exact a2) (wk 1 M1 (by rw [a3.2 5 (by decide), sAs]) (by rw [hf]; rfl))
      refine ⟨Z, ?_, z2, z3, z4, fr_tr f2 z5⟩
      rw [c, if_pos (show eo (some k) = nI k from rfl), if_neg n10, Bd_eq a1, ← hc1]
      exact z1
    · have hf : anw k h l = false := by unfold anw; simp [c]
      have hc1 : cnt (anw k h) (l + 1) = cnt (anw k h) l := by simp only [cnt]; rw [hf]; simp
      have hs := hcn_n c
      have f1 : fr [2] [2, 3, 4, 5] M (sA M 5 l 0) := fr_A (by decide) fr_rf
      have f1' : fr [] [5] M (sA M 5 l 0) := fr_A (by decide) fr_rf
      obtain ⟨Z, z1, z2, z3, z4, z5⟩ := ih (l + 1) N (sA M 5 l 0) (by omega) (by omega) (by rw [hs]; exact i) (by rw [hs]; exact RM_fr r f1' (by decide) (by decide)) (wk 0 (sA M 5 l 0) sAs (by rw [hf]; rfl))
      refine ⟨Z, ?_, z2, z3, z4, fr_tr f1 z5⟩
      have hne : ¬ eo (h l) = nI k := by
        cases e : h l with
        | none => exact fun z => nI_nm1 (by omega) z.symm
        | some d =>
          have := i0.2.2.2.2 l (by omega) d e
          intro z
          have := (nI_eq (a := d) (b := k) (by omega) (by omega)).mp z
          rw [e, this] at c
          exact c rfl
      rw [if_neg hne, if_pos trivial, ← hc1]
      exact z1
/-- then: the numbers behind it are one less -/
theorem lesB_l {n m : Nat} {u v : Nat → Nat} {h : Nat → Option Nat} {k : Nat} {v2 : Int32} (i0 : IN n m u v h) (hk : k < n) : ∀ (j l N : Nat) (M : St), l + j = m → j < N → M.1 1 = nI m → (∀ a, a < l → M.2 2 a = eo (drp k (h a))) → (∀ a, l ≤ a → a < m → M.2 2 a = eo (hcn k m h a)) → ∃ Y, fX7_less_87 N (nI k) v2 (nI l) M = fX7_less_123 FU v2 (nI k) Y ∧ (∀ a, a < m → Y.2 2 a = eo (drp k (h a))) ∧ fr [] [2] M Y := by
  have hm := i0.2.2.1
  have hn := i0.2.1
  intro j
  induction j with
  | zero =>
    intro l N M hl hN m1 h1 h2
    obtain ⟨N, rfl⟩ : ∃ K, N = K + 1 := ⟨N - 1, by omega⟩
    have e : l = m := by omega
    subst e
    refine ⟨M, ?_, h1, fr_rf⟩
    show fX7_less_87_b _ _ _ _ _ = _
    unfold fX7_less_87_b
    rw [m1, if_pos (Int32.le_refl _)]
  | succ j ih =>
    intro l N M hl hN m1 h1 h2
    obtain ⟨N, rfl⟩ : ∃ K, N = K + 1 := ⟨N - 1, by omega⟩
    show ∃ Y, fX7_less_87_b _ _ _ _ _ = _ ∧ _
    unfold fX7_less_87_b fX7_less_115
    simp only [LtS, gA_in (show l < 300 by omega) (by decide), ix_nI (show l < 2 ^ 31 by omega), h2 l (Nat.le_refl _) (show l < m by omega), nI_1]
    rw [m1, if_neg (nI_ge (by omega) (by omega))]
    have stay : eo (hcn k m h l) ≤ nI k → eo (drp k (h l)) = eo (hcn k m h l) → ∃ Y, (if eo (hcn k m h l) ≤ nI k then fX7_less_87 N (nI k) v2 (nI (l + 1)) M else fX7_less_87 N (nI k) v2 (nI (l + 1)) (sA M 2 l (eo (hcn k m h l) - 1))) = fX7_less_123 FU v2 (nI k) Y ∧ (∀ a, a < m → Y.2 2 a = eo (drp k (h a))) ∧ fr [] [2] M Y := by
      intro s1 s2
      rw [if_pos s1]
      exact ih (l + 1) N M (by omega) (by omega) m1 (fun a ha => by
        by_cases c : a = l
        · subst c; rw [h2 a (Nat.le_refl _) (by omega), s2]
        · exact h1 a (by omega)) (fun a h3 h4 => h2 a (by omega) h4)
    have neg : eo none ≤ nI k := eo_neg (by omega)
    cases e : h l with
    | none =>
      have z : hcn k m h l = none := by unfold hcn; rw [e]; simp
      exact stay (by rw [z]; exact neg) (by rw [z, e]; rfl)
    | some d =>
      have hd := i0.2.2.2.2 l (by omega) d e
      by_cases c1 : d = k
      · subst c1
        have z : hcn d m h l = none := by unfold hcn; rw [if_pos ⟨by omega, e⟩]
        exact stay (by rw [z]; exact neg) (by rw [z, e]; show eo (if d = d then none else _) = _; rw [if_pos rfl])
      · have z : hcn k m h l = some d := by
          unfold hcn; rw [if_neg (fun y => by rw [e] at y; exact c1 (Option.some.inj y.2)), e]
        by_cases c2 : k < d
        · have hdr : drp k (h l) = some (d - 1) := by
            rw [e]; show (if d = k then none else if k < d then some (d - 1) else some d) = _
            rw [if_neg c1, if_pos c2]
          rw [z, if_neg (show ¬ eo (some d) ≤ nI k from nI_ge c2 (by omega)), show eo (some d) - 1 = nI (d - 1) from nI_m1 (by omega)]
          obtain ⟨Y, y1, y2, y3⟩ := ih (l + 1) N (sA M 2 l (nI (d - 1))) (by omega) (by omega) m1 (fun a ha => by
            rw [sAs]
            by_cases c : a = l
            · subst c; rw [pk_us, hdr]; rfl
            · rw [pk_un c]; exact h1 a (by omega)) (fun a h3 h4 => by rw [sAs, pk_un (by omega)]; exact h2 a (by omega) h4)
          exact ⟨Y, y1, y2, fr_tr (fr_A (by decide) fr_rf) y3⟩
        · have hdr : drp k (h l) = some d := by
            rw [e]; show (if d = k then none else if k < d then some (d - 1) else some d) = _
            rw [if_neg c1, if_neg c2]
          exact stay (by rw [z]; exact nI_le (by omega) (by omega)) (by rw [z, hdr])
/-- then: loads and ends go one host down -/
theorem lesC_l {k123 : Int32 → Int32 → St → Rs} {v2 : Int32} {t : Nat} (ht : t < 7) (E : Nat → Nat → Int32) : ∀ (j p N : Nat) (M : St), p + j = 40 → j < N → (∀ q, q < 40 → ∀ s, s < 8 → M.2 4 (8 * q + s) = if q < p ∧ s = t then E q (t + 1) else E q s) → ∃ Y, fX7_less_148 k123 N v2 (nI t) (nI p) M = k123 v2 (nI (t + 1)) Y ∧ (∀ q, q < 40 → ∀ s, s < 8 → Y.2 4 (8 * q + s) = if s = t then E q (t + 1) else E q s) ∧ fr [] [4] M Y := by
  intro j
  induction j with
  | zero =>
    intro p N M hp hN hE
    obtain ⟨N, rfl⟩ : ∃ K, N = K + 1 := ⟨N - 1, by omega⟩
    have e : p = 40 := by omega
    subst e
    refine ⟨M, ?_, fun q hq s hs => ?_, fr_rf⟩
    · show fX7_less_148_b _ _ _ _ _ _ = _
      unfold fX7_less_148_b
      rw [if_pos (by decide), nI_1]
    · rw [hE q hq s hs]
      by_cases c : s = t
      · rw [if_pos ⟨hq, c⟩, if_pos c]
      · rw [if_neg (fun z => c z.2), if_neg c]
  | succ j ih =>
    intro p N M hp hN hE
    obtain ⟨N, rfl⟩ : ∃ K, N = K + 1 := ⟨N - 1, by omega⟩
    have hv : M.2 4 (8 * p + t + 1) = E p (t + 1) := by
      have := hE p (by omega) (t + 1) (by omega)
      rw [if_neg (fun z => by omega)] at this
      exact this
    obtain ⟨Y, y1, y2, y3⟩ := ih (p + 1) N (sA M 4 (8 * p + t) (M.2 4 (8 * p + t + 1))) (by omega) (by omega) (fun q hq s hs => by
      rw [sAs]
      by_cases c : 8 * q + s = 8 * p + t
      · have c1 : q = p := by omega
        have c2 : s = t := by omega
        subst c1 c2
        rw [pk_us, if_pos ⟨by omega, rfl⟩]; exact hv
      · rw [pk_un c, hE q hq s hs]
        by_cases d : q < p ∧ s = t
        · rw [if_pos d, if_pos ⟨by omega, d.2⟩]
        · rw [if_neg d, if_neg (fun z => by omega)])
    refine ⟨Y, ?_, y2, fr_tr (fr_A (by decide) fr_rf) y3⟩
    show fX7_less_148_b _ _ _ _ _ _ = _
    unfold fX7_less_148_b
    rw [nl40, if_neg (nI_ge (by omega) (by omega))]
    simp only [LtS, ix8, nI_1, gA_in (show 8 * p + t + 1 < 320 by omega) (by decide), gA_in (show 8 * p + t < 320 by omega) (by decide), ix_nI (show 8 * p + t + 1 < 2 ^ 31 by omega), ix_nI (show 8 * p + t < 2 ^ 31 by omega)]
    exact y1
theorem lesD_l {v2 : Int32} {k : Nat} (L : Nat → Int32) (E : Nat → Nat → Int32) : ∀ (j t N : Nat) (M : St), t + j = 7 → k ≤ t → j < N → (∀ s, s < 8 → M.2 3 s = if k ≤ s ∧ s < t then L (s + 1) else L s) → (∀ q, q < 40 → ∀ s, s < 8 → M.2 4 (8 * q + s) = if k ≤ s ∧ s < t then E q (s + 1) else E q s) → ∃ Y, fX7_less_123 N v2 (nI t) M = fX7_less_203 FU v2 0 Y ∧ (∀ s, s < 8 → Y.2 3 s = if s = 7 then 0 else if k ≤ s then L (s + 1) else L s) ∧ (∀ q, q < 40 → ∀ s, s < 8 → Y.2 4 (8 * q + s) = if k ≤ s ∧ s < 7 then E q (s + 1) else E q s) ∧ fr [] [3, 4] M Y := by
  have hF := FU_gt
  intro j
  induction j with
  | zero =>
    intro t N M ht hk hN hL hE
    obtain ⟨N, rfl⟩ : ∃ K, N = K + 1 := ⟨N - 1, by omega⟩
    have e : t = 7 := by omega
    subst e
    refine ⟨sA M 3 7 0, ?_, fun s hs => ?_, hE, fr_A (by decide) fr_rf⟩
    · show fX7_less_123_b _ _ _ _ = _
      unfold fX7_less_123_b
      have h7 : ∀ Z : Rs, gA (inb (7 : Int32) 8) Z = Z := fun Z => gA_in (i := 7) (by decide) (by decide)
      have i7 : ix (7 : Int32) = 7 := by decide
      rw [if_pos (by decide), h7, i7, LtS_eq]
    · rw [sAs]
      by_cases c : s = 7
      · subst c; rw [pk_us, if_pos rfl]
      · rw [pk_un c, if_neg c, hL s hs]
        by_cases d : k ≤ s
        · rw [if_pos ⟨d, by omega⟩, if_pos d]
        · rw [if_neg (fun z => d z.1), if_neg d]
  | succ j ih =>
    intro t N M ht hk hN hL hE
    obtain ⟨N, rfl⟩ : ∃ K, N = K + 1 := ⟨N - 1, by omega⟩
    have hv : M.2 3 (t + 1) = L (t + 1) := by
      rw [hL (t + 1) (by omega), if_neg (fun z => by omega)]
    obtain ⟨Y1, a1, a2, a3⟩ := lesC_l (k123 := fX7_less_123 N) (v2 := v2) (t := t) (by omega) (fun q s => if k ≤ s ∧ s < t then E q (s + 1) else E q s) 40 0 FU (sA M 3 t (M.2 3 (t + 1))) (by omega) (by omega) (fun q hq s hs => by
      rw [if_neg (fun z => by omega)]
      exact hE q hq s hs)
    have fY : fr [] [3, 4] M Y1 := fr_tr (fr_A (by decide) fr_rf) (fr_mo a3 (by decide) (by decide))
    obtain ⟨Y, y1, y2, y3, y4⟩ := ih (t + 1) N Y1 (by omega) (by omega) (by omega) (fun s hs => by
      rw [a3.2 3 (by decide), sAs]
      by_cases c : s = t
      · subst c; rw [pk_us, if_pos ⟨hk, by omega⟩]; exact hv
      · rw [pk_un c, hL s hs]
        by_cases d : k ≤ s ∧ s < t
        · rw [if_pos d, if_pos ⟨d.1, by omega⟩]
        · rw [if_neg d, if_neg (fun z => by omega)]) (fun q hq s hs => by
      rw [a2 q hq s hs]
      by_cases c : s = t
      · subst c; rw [if_pos rfl, if_neg (fun z => by omega), if_pos ⟨hk, by omega⟩]
      · rw [if_neg c]
        by_cases d : k ≤ s ∧ s < t
        · rw [if_pos d, if_pos ⟨d.1, by omega⟩]
        · rw [if_neg d, if_neg (fun z => by omega)])
    refine ⟨Y, ?_, y2, y3, fr_tr fY y4⟩
    show fX7_less_123_b _ _ _ _ = _
    unfold fX7_less_123_b
    rw [nI_1, nl8, if_neg (nI_ge (by omega) (by omega)), gA_in (by omega) (by decide), gA_in (by omega) (by decide), ix_nI (show t < 2 ^ 31 by omega), ix_nI (show t + 1 < 2 ^ 31 by omega)]
    exact a1.trans y1
theorem lesE_l {v2 : Int32} (E : Nat → Nat → Int32) : ∀ (j p N : Nat) (M : St), p + j = 40 → j < N → (∀ q, q < 40 → ∀ s, s < 8 → M.2 4 (8 * q + s) = if q < p ∧ s = 7 then 0 else E q s) → ∃ Y, fX7_less_203 N v2 (nI p) M = fX7_less_242 FU v2 0 (sF Y 0 (Y.1 0 - 1)) ∧ (∀ q, q < 40 → ∀ s, s < 8 → Y.2 4 (8 * q + s) = if s = 7 then 0 else E q s) ∧ fr [] [4] M Y := by
  intro j
  induction j with
  | zero =>
    intro p N M hp hN hE
    obtain ⟨N, rfl⟩ : ∃ K, N = K + 1 := ⟨N - 1, by omega⟩
    have e : p = 40 := by omega
    subst e
    refine ⟨M, ?_, fun q hq s hs => ?_, fr_rf⟩
    · show fX7_less_203_b _ _ _ _ = _
      unfold fX7_less_203_b
      rw [if_pos (by decide)]; rfl
    · rw [hE q hq s hs]
      by_cases c : s = 7
      · rw [if_pos ⟨hq, c⟩, if_pos c]
      · rw [if_neg (fun z => c z.2), if_neg c]
  | succ j ih =>
    intro p N M hp hN hE
    obtain ⟨N, rfl⟩ : ∃ K, N = K + 1 := ⟨N - 1, by omega⟩
    obtain ⟨Y, y1, y2, y3⟩ := ih (p + 1) N (sA M 4 (8 * p + 7) 0) (by omega) (by omega) (fun q hq s hs => by
      rw [sAs]
      by_cases c : 8 * q + s = 8 * p + 7
      · have c1 : q = p := by omega
        have c2 : s = 7 := by omega
        rw [c, pk_us, if_pos ⟨by omega, c2⟩]
      · rw [pk_un c, hE q hq s hs]
        by_cases d : q < p ∧ s = 7
        · rw [if_pos d, if_pos ⟨by omega, d.2⟩]
        · rw [if_neg d, if_neg (fun z => by omega)])
    refine ⟨Y, ?_, y2, fr_tr (fr_A (by decide) fr_rf) y3⟩
    have e8 : (8 : Int32) * nI p + 8 - 1 = nI (8 * p + 7) := by
      rw [nl8, pk_mul, nI_add, nI_m1 (by omega)]; rfl
    show fX7_less_203_b _ _ _ _ = _
    unfold fX7_less_203_b
    rw [nl40, if_neg (nI_ge (by omega) (by omega)), e8, gA_in (by omega) (by decide), ix_nI (by omega), nI_1]
    exact y1
