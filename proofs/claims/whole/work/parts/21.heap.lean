/-- a box that is counted for its group: the least one of it -/
def cd (T : Nat → Bool) (O : Nat → Nat → Bool) (b : Nat) : Bool := T b && decide (ls O b = b)
/-- what is left when the groups of all counted boxes below i are taken away -/
def lf (T : Nat → Bool) (O : Nat → Nat → Bool) (i j : Nat) : Bool := T j && !((List.range i).any (fun c => cd T O c && grp O c j))
theorem lf_succ (T : Nat → Bool) (O : Nat → Nat → Bool) (i j : Nat) : lf T O (i + 1) j = (lf T O i j && !(cd T O i && grp O i j)) := by
  unfold lf
  rw [List.range_succ, List.any_append]
  cases T j <;> simp
/-- groups hold boxes that are there alone -/
theorem grp_T {T : Nat → Bool} {O : Nat → Nat → Bool} (ho : ∀ a b, a < 12 → b < 12 → O a b = true → T b = true) {b : Nat} (hT : T b = true) : ∀ i, i < 12 → grp O b i = true → T i = true :=
  grp_least (fun i => T i = true) hT (fun j i hj hi _ h => ho j i hj hi h)
theorem ls_idem {O : Nat → Nat → Bool} (hs : ∀ a b, a < 12 → b < 12 → O a b = O b a) {b : Nat} (hb : b < 12) : ls O (ls O b) = ls O b := by
  obtain ⟨l1, l2, l3⟩ := ls_spec O hb
  have hl : ls O b < 12 := by omega
  obtain ⟨k1, k2, k3⟩ := ls_spec O hl
  have e := grp_eq hs hb hl l2
  apply Nat.le_antisymm k1
  apply Nat.le_of_not_lt
  intro h
  have := l3 _ h
  rw [e _ (by omega), k2] at this
  cases this
theorem lf_iff {T : Nat → Bool} {O : Nat → Nat → Bool} (hs : ∀ a b, a < 12 → b < 12 → O a b = O b a) (ho : ∀ a b, a < 12 → b < 12 → O a b = true → T b = true) {i : Nat} (hi : i < 12) : lf T O i i = cd T O i := by
  obtain ⟨l1, l2, l3⟩ := ls_spec O hi
  unfold lf
  cases hT : T i with
  | false => simp [cd, hT]
  | true =>
    rw [Bool.true_and]
    by_cases e : ls O i = i
    · rw [show cd T O i = true by simp [cd, hT, e], Bool.not_eq_true', ← Bool.not_eq_true, any_iff]
      rintro ⟨c, hc, h⟩
      simp only [Bool.and_eq_true] at h
      have := l3 c (by omega)
      rw [grp_sym hs (by omega) hi h.2] at this
      cases this
    · rw [show cd T O i = false by simp [cd, hT, e], Bool.not_eq_false', any_iff]
      refine ⟨ls O i, by omega, ?_⟩
      have hTl : T (ls O i) = true := grp_T ho hT _ (by omega) l2
      rw [Bool.and_eq_true]
      exact ⟨by simp [cd, hTl, ls_idem hs hi], grp_sym hs hi (by omega) l2⟩
theorem bm_nn (f g : Nat → Bool) : bm f &&& (bm g ^^^ (-1 : Int32)) = bm (fun i => f i && !g i) := bm_andn f g
theorem groups_loop {σ τ : bx_St} {T : Nat → Bool} {tc : Bool} {M : Nat → Nat → Nat → Bool} (x1 : XB σ T tc) (x6 : XO σ (ov M)) (m1 : MB τ T tc) (m4 : MM τ M) (hs : ∀ a b, a < 12 → b < 12 → ov M a b = ov M b a) (ho : ∀ a b, a < 12 → b < 12 → ov M a b = true → T b = true) : ∀ (k n i c : Nat), i + k = 12 → k < n → ∃ u, mX3_groupCount_9 n (nI c) (bm (lf T (ov M) i)) (nI i) σ = some u ∧ mX4_groups_4 n (nI c) (nI i) τ = some u := by
  intro k
  induction k with
  | zero =>
    intro n i c hi hn
    obtain ⟨n, rfl⟩ : ∃ m, n = m + 1 := ⟨n - 1, by omega⟩
    have : i = 12 := by omega
    subst this
    exact ⟨nI c, by rw [mX3_groupCount_9, if_pos (by decide)], by rw [mX4_groups_4, if_pos (by decide)]⟩
  | succ k ih =>
    intro n i c hi hn
    obtain ⟨n, rfl⟩ : ∃ m, n = m + 1 := ⟨n - 1, by omega⟩
    have hi12 : i < 12 := by omega
    obtain ⟨l1, l2, l3⟩ := ls_spec (ov M) hi12
    rw [mX3_groupCount_9, mX4_groups_4, if_neg (n12 hi12), if_neg (n12 hi12), hold_bm _ hi12, m1.1, has_bm T hi12, lf_iff hs ho hi12, x_groupOf x6 hi12, m_groupOf m4 hi12, Option.bind_some, Option.bind_some, m_least (by omega) l2 l3, Option.bind_some]
    have same : cd T (ov M) i = false → bm (lf T (ov M) i) = bm (lf T (ov M) (i + 1)) := fun h => bm_cong (fun j _ => by rw [lf_succ, h]; simp)
    cases hT : T i with
    | false =>
      have hc : cd T (ov M) i = false := by simp [cd, hT]
      rw [hc, if_pos (by rfl), if_pos (by rfl), mX3_groupCount_36, mX4_groups_38, mX4_groups_39, Int32.add_zero, nI_1, same hc]
      exact ih n (i + 1) c (by omega) (by omega)
    | true =>
      rw [if_neg (show ¬ bI true = 0 by decide)]
      by_cases e : ls (ov M) i = i
      · have hc : cd T (ov M) i = true := by simp [cd, hT, e]
        rw [hc, if_neg (by decide), if_pos (by rw [e]), mX3_groupCount_36, mX4_groups_39, nI_1, nI_1, bm_nn]
        have : bm (fun j => lf T (ov M) i j && !grp (ov M) i j) = bm (lf T (ov M) (i + 1)) := bm_cong (fun j _ => by rw [lf_succ, hc, Bool.true_and])
        rw [this]
        exact ih n (i + 1) (c + 1) (by omega) (by omega)
      · have hc : cd T (ov M) i = false := by simp [cd, hT, e]
        rw [hc, if_pos (by rfl), if_neg (fun q => e ((nI_eq (by omega) (by omega)).mp q)), mX3_groupCount_36, mX4_groups_38, mX4_groups_39, Int32.add_zero, nI_1, same hc]
        exact ih n (i + 1) c (by omega) (by omega)
theorem max_nI {a b : Nat} (ha : a < 2 ^ 31) (hb : b < 2 ^ 31) : mJ9_max_7cf53 (nI a) (nI b) = nI (max a b) := by
  unfold mJ9_max_7cf53
  by_cases h : a < b
  · rw [if_pos (nI_lt h hb), Nat.max_eq_right (by omega)]
  · rw [if_neg (nI_nlt (by omega) ha), Nat.max_eq_left (by omega)]
theorem great_loop {σ τ : bx_St} {T : Nat → Bool} {tc : Bool} {M : Nat → Nat → Nat → Bool} (x1 : XB σ T tc) (x6 : XO σ (ov M)) (m1 : MB τ T tc) (m4 : MM τ M) (hs : ∀ a b, a < 12 → b < 12 → ov M a b = ov M b a) (ho : ∀ a b, a < 12 → b < 12 → ov M a b = true → T b = true) : ∀ (k n i c : Nat), i + k = 12 → k < n → c ≤ 12 → (∀ j, j < i → T j = true → fb_ct (grp (ov M) j) 12 ≤ c) → ∃ u, mX3_greatestGroup_9 n (nI c) (bm (lf T (ov M) i)) (nI i) σ = some u ∧ mX4_greatest_4 n (nI c) (nI i) τ = some u := by
  intro k
  induction k with
  | zero =>
    intro n i c hi hn hc12 hle
    obtain ⟨n, rfl⟩ : ∃ m, n = m + 1 := ⟨n - 1, by omega⟩
    have : i = 12 := by omega
    subst this
    exact ⟨nI c, by rw [mX3_greatestGroup_9, if_pos (by decide)], by rw [mX4_greatest_4, if_pos (by decide)]⟩
  | succ k ih =>
    intro n i c hi hn hc12 hle
    obtain ⟨n, rfl⟩ : ∃ m, n = m + 1 := ⟨n - 1, by omega⟩
    have hi12 : i < 12 := by omega
    obtain ⟨l1, l2, l3⟩ := ls_spec (ov M) hi12
    have hct := fb_ct_le (grp (ov M) i) 12
    rw [mX3_greatestGroup_9, mX4_greatest_4, if_neg (n12 hi12), if_neg (n12 hi12), hold_bm _ hi12, m1.1, has_bm T hi12, lf_iff hs ho hi12, x_groupOf x6 hi12, m_groupOf m4 hi12, Option.bind_some, Option.bind_some, ones_bm, Option.bind_some, bc_bm, max_nI (by omega) (by omega)]
    have same : cd T (ov M) i = false → bm (lf T (ov M) i) = bm (lf T (ov M) (i + 1)) := fun h => bm_cong (fun j _ => by rw [lf_succ, h]; simp)
    have ext : ∀ c', c ≤ c' → (T i = true → fb_ct (grp (ov M) i) 12 ≤ c') → ∀ j, j < i + 1 → T j = true → fb_ct (grp (ov M) j) 12 ≤ c' := by
      intro c' h1 h2 j hj hT
      rcases (by omega : j < i ∨ j = i) with q | q
      · exact Nat.le_trans (hle j q hT) h1
      · subst q; exact h2 hT
    cases hT : T i with
    | false =>
      have hc : cd T (ov M) i = false := by simp [cd, hT]
      rw [hc, if_pos (by rfl), if_pos (by rfl), mX3_greatestGroup_47, mX4_greatest_33, if_pos (nI_pos' (by omega)), mX4_greatest_44, nI_1, same hc]
      exact ih n (i + 1) c (by omega) (by omega) hc12 (ext c (Nat.le_refl _) (fun h => by rw [hT] at h; cases h))
    | true =>
      rw [if_neg (show ¬ bI true = 0 by decide)]
      by_cases e : ls (ov M) i = i
      · have hc : cd T (ov M) i = true := by simp [cd, hT, e]
        have hl : bm (fun j => lf T (ov M) i j && !grp (ov M) i j) = bm (lf T (ov M) (i + 1)) := bm_cong (fun j _ => by rw [lf_succ, hc, Bool.true_and])
        rw [hc, if_neg (by decide), mX3_greatestGroup_47, mX4_greatest_33, nI_1, bm_nn, hl]
        have fin := ih n (i + 1) (max c (fb_ct (grp (ov M) i) 12)) (by omega) (by omega) (by omega) (ext _ (Nat.le_max_left _ _) (fun _ => Nat.le_max_right _ _))
        by_cases g : fb_ct (grp (ov M) i) 12 ≤ c
        · rw [if_pos (nI_le g (by omega)), mX4_greatest_44, nI_1]
          rw [Nat.max_eq_left g] at fin ⊢
          exact fin
        · rw [if_neg (nI_ge (by omega) (by omega)), mX4_greatest_44, nI_1]
          rw [Nat.max_eq_right (by omega)] at fin ⊢
          exact fin
      · have hc : cd T (ov M) i = false := by simp [cd, hT, e]
        have hTl : T (ls (ov M) i) = true := grp_T ho hT _ (by omega) l2
        have hcl : fb_ct (grp (ov M) i) 12 ≤ c := by
          rw [fb_ct_cong (grp_eq hs hi12 (by omega) l2)]
          exact hle _ (by omega) hTl
        rw [hc, if_pos (by rfl), mX3_greatestGroup_47, mX4_greatest_33, if_pos (nI_le hcl (by omega)), mX4_greatest_44, nI_1, same hc]
        exact ih n (i + 1) c (by omega) (by omega) hc12 (ext c (Nat.le_refl _) (fun _ => hcl))
theorem lf_0 (T : Nat → Bool) (O : Nat → Nat → Bool) : bm (lf T O 0) = bm T := bm_cong (fun j _ => by simp [lf])
theorem groups_eq {σ τ : bx_St} {T : Nat → Bool} {tc : Bool} {M : Nat → Nat → Nat → Bool} (x1 : XB σ T tc) (x6 : XO σ (ov M)) (m1 : MB τ T tc) (m4 : MM τ M) (hs : ∀ a b, a < 12 → b < 12 → ov M a b = ov M b a) (ho : ∀ a b, a < 12 → b < 12 → ov M a b = true → T b = true) : ∃ u, mX3_groupCount σ = some u ∧ mX4_groups τ = some u := by
  have := groups_loop x1 x6 m1 m4 hs ho 12 5000 0 0 rfl (by omega)
  rw [lf_0] at this
  rw [mX3_groupCount, x1.1]
  exact this
theorem great_eq {σ τ : bx_St} {T : Nat → Bool} {tc : Bool} {M : Nat → Nat → Nat → Bool} (x1 : XB σ T tc) (x6 : XO σ (ov M)) (m1 : MB τ T tc) (m4 : MM τ M) (hs : ∀ a b, a < 12 → b < 12 → ov M a b = ov M b a) (ho : ∀ a b, a < 12 → b < 12 → ov M a b = true → T b = true) : ∃ u, mX3_greatestGroup σ = some u ∧ mX4_greatest τ = some u := by
  have := great_loop x1 x6 m1 m4 hs ho 12 5000 0 0 rfl (by omega) (by omega) (fun j h => absurd h (Nat.not_lt_zero j))
  rw [lf_0] at this
  rw [mX3_greatestGroup, x1.1]
  exact this
