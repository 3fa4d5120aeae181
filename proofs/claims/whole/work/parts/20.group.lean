/-! groups -/
def ga (O : Nat → Nat → Bool) (g : Nat → Bool) (i x : Nat) : Bool := g x || (List.range i).any (fun j => g j && O j x)
def gs (O : Nat → Nat → Bool) (g : Nat → Bool) : Nat → Bool := ga O g 12
def gi (O : Nat → Nat → Bool) (b : Nat) : Nat → Nat → Bool
  | 0 => fun i => decide (i = b)
  | k + 1 => gs O (gi O b k)
def grp (O : Nat → Nat → Bool) (b : Nat) : Nat → Bool := gi O b 12
theorem any_iff (p : Nat → Bool) (n : Nat) : (List.range n).any p = true ↔ ∃ j, j < n ∧ p j = true := by
  rw [List.any_eq_true]
  constructor
  · rintro ⟨j, h1, h2⟩
    exact ⟨j, List.mem_range.mp h1, h2⟩
  · rintro ⟨j, h1, h2⟩
    exact ⟨j, List.mem_range.mpr h1, h2⟩
theorem gs_iff (O : Nat → Nat → Bool) (g : Nat → Bool) (x : Nat) : gs O g x = true ↔ g x = true ∨ ∃ j, j < 12 ∧ g j = true ∧ O j x = true := by
  unfold gs ga
  rw [Bool.or_eq_true, any_iff]
  simp only [Bool.and_eq_true]
theorem ga_succ (O : Nat → Nat → Bool) (g : Nat → Bool) (i x : Nat) : ga O g (i + 1) x = (ga O g i x || (g i && O i x)) := by
  unfold ga
  rw [List.range_succ, List.any_append]
  simp [Bool.or_assoc]
theorem gs_cong {O : Nat → Nat → Bool} {g h : Nat → Bool} (e : ∀ i, i < 12 → g i = h i) : ∀ i, i < 12 → gs O g i = gs O h i := by
  intro i hi
  rw [Bool.eq_iff_iff, gs_iff, gs_iff, e i hi]
  constructor
  · rintro (q | ⟨j, h1, h2, h3⟩)
    · exact Or.inl q
    · exact Or.inr ⟨j, h1, (e j h1) ▸ h2, h3⟩
  · rintro (q | ⟨j, h1, h2, h3⟩)
    · exact Or.inl q
    · exact Or.inr ⟨j, h1, (e j h1).symm ▸ h2, h3⟩
theorem gi_mono (O : Nat → Nat → Bool) (b k i : Nat) (h : gi O b k i = true) : gi O b (k + 1) i = true := (gs_iff O _ i).mpr (Or.inl h)
theorem gi_mono2 (O : Nat → Nat → Bool) (b i : Nat) {k : Nat} (h : gi O b k i = true) : ∀ d, gi O b (k + d) i = true := by
  intro d
  induction d with
  | zero => exact h
  | succ d ih => exact gi_mono O b (k + d) i ih
theorem gi_fix {O : Nat → Nat → Bool} {b k : Nat} (h : ∀ i, i < 12 → gi O b (k + 1) i = gi O b k i) : ∀ d i, i < 12 → gi O b (k + d) i = gi O b k i := by
  intro d
  induction d with
  | zero => intro i _; rfl
  | succ d ih =>
    intro i hi
    rw [← h i hi]
    exact gs_cong ih i hi
theorem ct_lt {p q : Nat → Bool} {n i : Nat} (h : ∀ k, k < n → p k = true → q k = true) (hi : i < n) (h1 : q i = true) (h2 : p i = false) : fb_ct p n + 1 ≤ fb_ct q n := by
  have e := fb_ct_upd p true (i := i) (n := n) hi
  rw [h2] at e
  simp at e
  rw [← e]
  refine fb_ct_sub (fun k hk hp => ?_)
  by_cases e2 : k = i
  · rw [e2]; exact h1
  · simp [e2] at hp
    exact h k hk hp
theorem gi_grow (O : Nat → Nat → Bool) {b : Nat} (hb : b < 12) : ∀ k, (∃ j, j < k ∧ ∀ i, i < 12 → gi O b (j + 1) i = gi O b j i) ∨ k + 1 ≤ fb_ct (gi O b k) 12 := by
  intro k
  induction k with
  | zero =>
    right
    have : 0 < fb_ct (gi O b 0) 12 := fb_ct_pos.mpr ⟨b, hb, by simp [gi]⟩
    omega
  | succ k ih =>
    rcases ih with ⟨j, h1, h2⟩ | ih
    · exact Or.inl ⟨j, by omega, h2⟩
    · by_cases h : ∀ i, i < 12 → gi O b (k + 1) i = gi O b k i
      · exact Or.inl ⟨k, by omega, h⟩
      · right
        have : ∃ i, i < 12 ∧ gi O b (k + 1) i = true ∧ gi O b k i = false := by
          apply Classical.byContradiction
          intro hn
          apply h
          intro i hi
          cases e1 : gi O b k i with
          | true => exact gi_mono O b k i e1
          | false =>
            cases e2 : gi O b (k + 1) i with
            | false => rfl
            | true => exact absurd ⟨i, hi, e2, e1⟩ hn
        obtain ⟨i, hi, e1, e2⟩ := this
        have := ct_lt (p := gi O b k) (q := gi O b (k + 1)) (fun j _ hj => gi_mono O b k j hj) hi e1 e2
        omega
theorem gi_fix12 (O : Nat → Nat → Bool) {b : Nat} (hb : b < 12) : ∃ j, j < 12 ∧ ∀ i, i < 12 → gi O b (j + 1) i = gi O b j i := by
  rcases gi_grow O hb 12 with h | h
  · exact h
  · have := fb_ct_le (gi O b 12) 12
    omega
theorem grp_of_fix {O : Nat → Nat → Bool} {b k : Nat} (hk : k ≤ 12) (h : ∀ i, i < 12 → gi O b (k + 1) i = gi O b k i) : ∀ i, i < 12 → grp O b i = gi O b k i := by
  intro i hi
  have := gi_fix h (12 - k) i hi
  rw [show k + (12 - k) = 12 by omega] at this
  exact this
theorem grp_closed (O : Nat → Nat → Bool) {b : Nat} (hb : b < 12) {i j : Nat} (hi : i < 12) (hj : j < 12) (h : grp O b j = true) (ho : O j i = true) : grp O b i = true := by
  obtain ⟨k, hk, hf⟩ := gi_fix12 O hb
  have e := grp_of_fix (by omega) hf
  rw [e j hj] at h
  rw [e i hi, ← hf i hi]
  exact (gs_iff O _ i).mpr (Or.inr ⟨j, hj, h, ho⟩)
theorem grp_self (O : Nat → Nat → Bool) (b : Nat) : grp O b b = true := by
  have := gi_mono2 O b b (k := 0) (by simp [gi]) 12
  exact this
theorem grp_least {O : Nat → Nat → Bool} {b : Nat} (S : Nat → Prop) (h0 : S b) (hs : ∀ j i, j < 12 → i < 12 → S j → O j i = true → S i) : ∀ i, i < 12 → grp O b i = true → S i := by
  have : ∀ k i, i < 12 → gi O b k i = true → S i := by
    intro k
    induction k with
    | zero =>
      intro i hi h
      simp [gi] at h
      exact h ▸ h0
    | succ k ih =>
      intro i hi h
      rcases (gs_iff O _ i).mp h with h | ⟨j, h1, h2, h3⟩
      · exact ih i hi h
      · exact hs j i h1 hi (ih j h1 h2) h3
  exact this 12
theorem grp_trans {O : Nat → Nat → Bool} {a b : Nat} (ha : a < 12) (hb : b < 12) (h : grp O a b = true) : ∀ i, i < 12 → grp O b i = true → grp O a i = true :=
  grp_least (fun i => grp O a i = true) h (fun j i hj hi h1 h2 => grp_closed O ha hi hj h1 h2)
theorem grp_step (O : Nat → Nat → Bool) {a b : Nat} (ha : a < 12) (hb : b < 12) (h : O a b = true) : grp O a b = true := grp_closed O ha hb ha (grp_self O a) h
theorem grp_sym {O : Nat → Nat → Bool} (hs : ∀ a b, a < 12 → b < 12 → O a b = O b a) {a b : Nat} (ha : a < 12) (hb : b < 12) (h : grp O a b = true) : grp O b a = true := by
  refine grp_least (O := O) (b := a) (fun i => i < 12 → grp O i a = true) (fun _ => grp_self O a) (fun j i hj hi h1 h2 _ => ?_) b hb h hb
  exact grp_trans hi hj (grp_step O hi hj (by rw [hs i j hi hj]; exact h2)) a ha (h1 hj)
theorem grp_eq {O : Nat → Nat → Bool} (hs : ∀ a b, a < 12 → b < 12 → O a b = O b a) {a b : Nat} (ha : a < 12) (hb : b < 12) (h : grp O a b = true) : ∀ i, i < 12 → grp O a i = grp O b i := by
  intro i hi
  rw [Bool.eq_iff_iff]
  exact ⟨grp_trans hb ha (grp_sym hs ha hb h) i hi, grp_trans ha hb h i hi⟩
theorem bit_bm {b : Nat} (hb : b < 12) : mX3_bit (nI b) = bm (fun i => decide (i = b)) := by
  refine b_ext (fun i hi => ?_)
  rw [bit_bt (by omega), bm_bt]
  by_cases h : i = b
  · subst h; simp [hb]
  · rw [decide_eq_false h]; simp
theorem x_grp_in {σ : bx_St} {O : Nat → Nat → Bool} (h : XO σ O) (g : Nat → Bool) (r : Int32) (K : Int32 → Int32 → bx_St → Option Int32) : ∀ (k n i : Nat), i + k = 12 → k < n → mX3_groupOf_19 K n (bm g) r (bm (ga O g i)) (nI i) σ = (if bm (gs O g) = bm g then some (bm g) else K (bm (gs O g)) (r + 1) σ) := by
  intro k
  induction k with
  | zero =>
    intro n i hi hn
    obtain ⟨n, rfl⟩ : ∃ m, n = m + 1 := ⟨n - 1, by omega⟩
    have : i = 12 := by omega
    subst this
    rw [mX3_groupOf_19, if_pos (by decide)]
    rfl
  | succ k ih =>
    intro n i hi hn
    obtain ⟨n, rfl⟩ : ∃ m, n = m + 1 := ⟨n - 1, by omega⟩
    rw [mX3_groupOf_19, if_neg (n12 (by omega)), hold_bm g (by omega), if_pos (ok_nI (by omega) (by decide)), cl_nI (by omega), h i (by omega), bm_orm]
    rw [← ih n (i + 1) (by omega) (by omega)]
    cases e : g i with
    | false =>
      rw [if_pos (by rfl), mX3_groupOf_47, nI_1]
      congr 1
      refine bm_cong (fun x _ => ?_)
      rw [ga_succ, e]; simp
    | true =>
      rw [if_neg (by decide), mX3_groupOf_47, nI_1]
      congr 1
      refine bm_cong (fun x _ => ?_)
      rw [ga_succ, e]; simp
theorem m_grp_in {τ : bx_St} {M : Nat → Nat → Nat → Bool} (h : MM τ M) (g : Nat → Bool) (K : Int32 → Int32 → bx_St → Option Int32) : ∀ (k n i : Nat), i + k = 12 → k < n → mX4_groupOf_16 K n (bm (ga (ov M) g i)) (bm g) (nI i) τ = K (bm (gs (ov M) g)) (bm g) τ := by
  intro k
  induction k with
  | zero =>
    intro n i hi hn
    obtain ⟨n, rfl⟩ : ∃ m, n = m + 1 := ⟨n - 1, by omega⟩
    have : i = 12 := by omega
    subst this
    rw [mX4_groupOf_16, if_pos (by decide)]
    rfl
  | succ k ih =>
    intro n i hi hn
    obtain ⟨n, rfl⟩ : ∃ m, n = m + 1 := ⟨n - 1, by omega⟩
    rw [mX4_groupOf_16, if_neg (n12 (by omega)), has_bm g (by omega), m_overBits h (by omega), Option.bind_some]
    rw [← ih n (i + 1) (by omega) (by omega)]
    cases e : g i with
    | false =>
      rw [if_pos (by rfl), mX4_groupOf_43, bz_or, nI_1]
      congr 1
      refine bm_cong (fun x _ => ?_)
      rw [ga_succ, e]; simp
    | true =>
      rw [if_neg (by decide), mX4_groupOf_43, bm_orm, nI_1]
      congr 1
      refine bm_cong (fun x _ => ?_)
      rw [ga_succ, e]; simp
theorem ga_0 (O : Nat → Nat → Bool) (g : Nat → Bool) : bm (ga O g 0) = bm g := bm_cong (fun x _ => by simp [ga])
theorem x_grp_out {σ : bx_St} {O : Nat → Nat → Bool} (h : XO σ O) {b : Nat} (hb : b < 12) : ∀ (k n r : Nat), r + k = 12 → k < n → mX3_groupOf_7 n (bm (gi O b r)) (nI r) σ = some (bm (grp O b)) := by
  intro k
  induction k with
  | zero =>
    intro n r hr hn
    obtain ⟨n, rfl⟩ : ∃ m, n = m + 1 := ⟨n - 1, by omega⟩
    have : r = 12 := by omega
    subst this
    rw [mX3_groupOf_7, if_pos (by decide)]
    rfl
  | succ k ih =>
    intro n r hr hn
    obtain ⟨n, rfl⟩ : ∃ m, n = m + 1 := ⟨n - 1, by omega⟩
    have hin := x_grp_in h (gi O b r) (nI r) (mX3_groupOf_7 n) 12 5000 0 rfl (by omega)
    rw [ga_0] at hin
    rw [mX3_groupOf_7, if_neg (n12 (by omega)), show bx_F = 5000 from rfl, show (0 : Int32) = nI 0 from rfl, hin]
    by_cases e : bm (gs O (gi O b r)) = bm (gi O b r)
    · rw [if_pos e]
      exact congrArg some (bm_cong (fun i hi => (grp_of_fix (by omega) (fun i hi => bm_inj e i hi) i hi).symm))
    · rw [if_neg e, nI_1]
      exact ih n (r + 1) (by omega) (by omega)
theorem x_groupOf {σ : bx_St} {O : Nat → Nat → Bool} (h : XO σ O) {b : Nat} (hb : b < 12) : mX3_groupOf (nI b) σ = some (bm (grp O b)) := by
  have := x_grp_out h hb 12 5000 0 rfl (by omega)
  rw [mX3_groupOf, bit_bm hb]
  exact this
theorem m_grp_out {τ : bx_St} {M : Nat → Nat → Nat → Bool} (h : MM τ M) {b : Nat} (hb : b < 12) : ∀ (k n r : Nat), r + k = 11 → k < n → mX4_groupOf_6 n (bm (gi (ov M) b (r + 1))) (bm (gi (ov M) b r)) τ = some (bm (grp (ov M) b)) := by
  intro k
  obtain ⟨f, hf, hfix⟩ := gi_fix12 (ov M) hb
  have hfix11 : ∀ r, f ≤ r → bm (gi (ov M) b r) = bm (gi (ov M) b (r + 1)) := by
    intro r hr
    refine bm_cong (fun i hi => ?_)
    have e1 := gi_fix hfix (r - f) i hi
    have e2 := gi_fix hfix (r + 1 - f) i hi
    rw [show f + (r - f) = r by omega] at e1
    rw [show f + (r + 1 - f) = r + 1 by omega] at e2
    rw [e1, e2]
  have done : ∀ r, r ≤ 11 → bm (gi (ov M) b r) = bm (gi (ov M) b (r + 1)) → bm (gi (ov M) b (r + 1)) = bm (grp (ov M) b) := by
    intro r hr e
    rw [← e]
    exact (bm_cong (grp_of_fix (by omega) (fun i hi => (bm_inj e i hi).symm))).symm
  induction k with
  | zero =>
    intro n r hr hn
    obtain ⟨n, rfl⟩ : ∃ m, n = m + 1 := ⟨n - 1, by omega⟩
    rw [mX4_groupOf_6, if_pos (hfix11 r (by omega)), done r (by omega) (hfix11 r (by omega))]
  | succ k ih =>
    intro n r hr hn
    obtain ⟨n, rfl⟩ : ∃ m, n = m + 1 := ⟨n - 1, by omega⟩
    by_cases e : bm (gi (ov M) b r) = bm (gi (ov M) b (r + 1))
    · rw [mX4_groupOf_6, if_pos e, done r (by omega) e]
    · have hin := m_grp_in h (gi (ov M) b (r + 1)) (mX4_groupOf_6 n) 12 5000 0 rfl (by omega)
      rw [ga_0] at hin
      rw [mX4_groupOf_6, if_neg e, show bx_F = 5000 from rfl, show (0 : Int32) = nI 0 from rfl, hin]
      exact ih n (r + 1) (by omega) (by omega)
theorem m_groupOf {τ : bx_St} {M : Nat → Nat → Nat → Bool} (h : MM τ M) {b : Nat} (hb : b < 12) : mX4_groupOf (nI b) τ = some (bm (grp (ov M) b)) := by
  have hin := m_grp_in h (gi (ov M) b 0) (mX4_groupOf_6 4999) 12 5000 0 rfl (by omega)
  rw [ga_0] at hin
  have e0 : ¬ (0 : Int32) = bm (gi (ov M) b 0) := by
    intro e
    rw [← bm_0] at e
    have := bm_inj e b hb
    simp [gi] at this
  have eb : (1 : Int32) <<< (nI b &&& 31) = bm (gi (ov M) b 0) := bit_bm hb
  rw [mX4_groupOf, eb, show bx_F = 4999 + 1 from rfl, mX4_groupOf_6, if_neg e0]
  refine (Eq.trans ?_ hin).trans (m_grp_out h hb 11 4999 0 rfl (by omega))
  rfl
/-! the least of a mask -/
theorem x_leastOf {g : Nat → Bool} {i0 : Nat} (hi0 : i0 < 12) (h1 : g i0 = true) (h2 : ∀ j, j < i0 → g j = false) : mX3_leastOf (bm g) = some (nI i0) := by
  have : ∀ (k n i : Nat), i + k = i0 → k < n → mX3_leastOf_2 n (bm g) (nI i) = some (nI i0) := by
    intro k
    induction k with
    | zero =>
      intro n i hi hn
      obtain ⟨n, rfl⟩ : ∃ m, n = m + 1 := ⟨n - 1, by omega⟩
      have : i = i0 := by omega
      subst this
      rw [mX3_leastOf_2, if_neg (n12 hi0), hold_bm g hi0, h1, if_neg (by decide)]
    | succ k ih =>
      intro n i hi hn
      obtain ⟨n, rfl⟩ : ∃ m, n = m + 1 := ⟨n - 1, by omega⟩
      rw [mX3_leastOf_2, if_neg (n12 (by omega)), hold_bm g (by omega), h2 i (by omega), if_pos (by rfl), nI_1]
      exact ih n (i + 1) (by omega) (by omega)
  exact this i0 5000 0 (by omega) (by omega)
theorem m_least {g : Nat → Bool} {i0 : Nat} (hi0 : i0 < 12) (h1 : g i0 = true) (h2 : ∀ j, j < i0 → g j = false) : mX4_least (bm g) = some (nI i0) := by
  have : ∀ (k n i : Nat), i + k = i0 → k < n → mX4_least_2 n (bm g) (nI i) = some (nI i0) := by
    intro k
    induction k with
    | zero =>
      intro n i hi hn
      obtain ⟨n, rfl⟩ : ∃ m, n = m + 1 := ⟨n - 1, by omega⟩
      have : i = i0 := by omega
      subst this
      rw [mX4_least_2, has_bm g hi0, h1, if_neg (by decide)]
    | succ k ih =>
      intro n i hi hn
      obtain ⟨n, rfl⟩ : ∃ m, n = m + 1 := ⟨n - 1, by omega⟩
      rw [mX4_least_2, has_bm g (by omega), h2 i (by omega), if_pos (by rfl), nI_1]
      exact ih n (i + 1) (by omega) (by omega)
  exact this i0 5000 0 (by omega) (by omega)
/-- the least number of a box's group -/
def ls (O : Nat → Nat → Bool) (b : Nat) : Nat := fa_first (grp O b) 12
theorem ls_spec (O : Nat → Nat → Bool) {b : Nat} (hb : b < 12) : ls O b ≤ b ∧ grp O b (ls O b) = true ∧ ∀ j, j < ls O b → grp O b j = false := by
  have h2 := fa_first_no (grp O b) 12
  have h1 : fa_first (grp O b) 12 ≤ b := by
    apply Nat.le_of_not_lt
    intro h
    have := h2 b h
    rw [grp_self] at this
    cases this
  exact ⟨h1, fa_first_yes (grp O b) 12 (by omega), h2⟩
theorem boxNow_eq {σ τ : bx_St} {T : Nat → Bool} {V : Nat → Nat → Int} {tc : Bool} {M : Nat → Nat → Nat → Bool} (x1 : XB σ T tc) (x3 : XV σ V) (x6 : XO σ (ov M)) (m2 : MV τ V) (m4 : MM τ M) {b : Nat} (hb : b < 12) (hT : T b = true) : ∀ j, j < 9 → ∃ u, mX3_box (nI b) (nI j) σ = some u ∧ mX4_boxNow (nI b) (nI j) τ = some u := by
  have eT : mX3_isThere (nI b) σ = 1 := by rw [there_b x1 hb, hT]; rfl
  have ok : bx_ok (nI b) 12 := ok_nI hb (by decide)
  have cl : (nI b).toNatClampNeg = b := cl_nI (by omega)
  have mi : ∀ j, j < 6 → mX4_boxNow (nI b) (nI j) τ = some (τ.1 2 (6 * b + j)) := by
    intro j hj
    have n6 : ¬ nI j = 6 := fun e => by have := (nI_eq (a := j) (b := 6) (by omega) (by decide)).mp e; omega
    have n7 : ¬ nI j = 7 := fun e => by have := (nI_eq (a := j) (b := 7) (by omega) (by decide)).mp e; omega
    have n8 : ¬ nI j = 8 := fun e => by have := (nI_eq (a := j) (b := 8) (by omega) (by decide)).mp e; omega
    have ei : ((6 : Int32) * nI b) + nI j = nI (6 * b + j) := by
      show nI 6 * nI b + nI j = _
      rw [pk_mul, nI_add]
    rw [mX4_boxNow, if_neg n6, if_neg n7, if_neg n8, ei, if_pos (ok_nI (by omega) (by decide)), cl_nI (by omega)]
  obtain ⟨l1, l2, l3⟩ := ls_spec (ov M) hb
  intro j hj
  rcases (by omega : j = 0 ∨ j = 1 ∨ j = 2 ∨ j = 3 ∨ j = 4 ∨ j = 5 ∨ j = 6 ∨ j = 7 ∨ j = 8) with rfl | rfl | rfl | rfl | rfl | rfl | rfl | rfl | rfl
  · refine ⟨_, ?_, (mi 0 (by omega)).trans (congrArg some (m2 0 (by omega) b hb 0 (by omega)))⟩
    rw [mX3_box, eT, if_neg one_ne0, if_pos (by rfl), if_pos ok, cl]
    exact congrArg some (x3 0 (by omega) b hb).1
  · refine ⟨_, ?_, (mi 1 (by omega)).trans (congrArg some (m2 0 (by omega) b hb 1 (by omega)))⟩
    rw [mX3_box, eT, if_neg one_ne0, if_neg (by decide), if_pos (by rfl), if_pos ok, cl]
    exact congrArg some (x3 0 (by omega) b hb).2
  · refine ⟨_, ?_, (mi 2 (by omega)).trans (congrArg some (m2 1 (by omega) b hb 0 (by omega)))⟩
    rw [mX3_box, eT, if_neg one_ne0, if_neg (by decide), if_neg (by decide), if_pos (by rfl), if_pos ok, cl]
    exact congrArg some (x3 1 (by omega) b hb).1
  · refine ⟨_, ?_, (mi 3 (by omega)).trans (congrArg some (m2 1 (by omega) b hb 1 (by omega)))⟩
    rw [mX3_box, eT, if_neg one_ne0, if_neg (by decide), if_neg (by decide), if_neg (by decide), if_pos (by rfl), if_pos ok, cl]
    exact congrArg some (x3 1 (by omega) b hb).2
  · refine ⟨_, ?_, (mi 4 (by omega)).trans (congrArg some (m2 2 (by omega) b hb 0 (by omega)))⟩
    rw [mX3_box, eT, if_neg one_ne0, if_neg (by decide), if_neg (by decide), if_neg (by decide), if_neg (by decide), if_pos (by rfl), if_pos ok, cl]
    exact congrArg some (x3 2 (by omega) b hb).1
  · refine ⟨_, ?_, (mi 5 (by omega)).trans (congrArg some (m2 2 (by omega) b hb 1 (by omega)))⟩
    rw [mX3_box, eT, if_neg one_ne0, if_neg (by decide), if_neg (by decide), if_neg (by decide), if_neg (by decide), if_neg (by decide), if_pos (by rfl), if_pos ok, cl]
    exact congrArg some (x3 2 (by omega) b hb).2
  · refine ⟨nI (fb_ct (ov M b) 12), ?_, ?_⟩
    · rw [mX3_box, eT, if_neg one_ne0, if_neg (by decide), if_neg (by decide), if_neg (by decide), if_neg (by decide), if_neg (by decide), if_neg (by decide), if_pos (by rfl), if_pos ok, cl, x6 b hb, bc_bm]
    · rw [mX4_boxNow, if_pos (by rfl), m_overBits m4 hb, Option.bind_some, ones_bm]
      rfl
  · refine ⟨bm (ov M b), ?_, ?_⟩
    · rw [mX3_box, eT, if_neg one_ne0, if_neg (by decide), if_neg (by decide), if_neg (by decide), if_neg (by decide), if_neg (by decide), if_neg (by decide), if_neg (by decide), if_pos (by rfl), if_pos ok, cl, x6 b hb]
    · rw [mX4_boxNow, if_neg (by decide), if_pos (by rfl), m_overBits m4 hb]
      rfl
  · refine ⟨nI (ls (ov M) b), ?_, ?_⟩
    · rw [mX3_box, eT, if_neg one_ne0, if_neg (by decide), if_neg (by decide), if_neg (by decide), if_neg (by decide), if_neg (by decide), if_neg (by decide), if_neg (by decide), if_neg (by decide), if_pos (by rfl), x_groupOf x6 hb, Option.bind_some, x_leastOf (by omega) l2 l3]
      rfl
    · rw [mX4_boxNow, if_neg (by decide), if_neg (by decide), if_pos (by rfl), m_groupOf m4 hb, Option.bind_some, m_least (by omega) l2 l3]
      rfl
theorem P_box (σ τ : bx_St) (v1 v2 : Int32) (h : bx_R σ τ) : ∃ u w, mX3_box v1 v2 σ = some u ∧ mX4_box v1 v2 τ = some w ∧ u = w ∧ bx_R σ τ := by
  have hh := h
  obtain ⟨⟨T, tc, V, F, u, M, ⟨x1, x2, x3, x4, x5, x6⟩, ⟨m1, m2, m3, m4⟩, ⟨i1, i2, i3, i4, i5⟩⟩, -, -⟩ := hh
  rcases there_eq x1 m1 v1 with ⟨b, hb, rfl, hT, ea, fa⟩ | ⟨ea, fa⟩
  · rcases cases_n v2 8 (by decide) with h1 | ⟨j, hj, rfl⟩
    · have k := fun j hj => ne_out (j := j) h1 (by decide) hj
      have k0 : ¬ v2 = 0 := k 0 (by omega)
      have k1 : ¬ v2 = 1 := k 1 (by omega)
      have k2 : ¬ v2 = 2 := k 2 (by omega)
      have k3 : ¬ v2 = 3 := k 3 (by omega)
      have k4 : ¬ v2 = 4 := k 4 (by omega)
      have k5 : ¬ v2 = 5 := k 5 (by omega)
      have k6 : ¬ v2 = 6 := k 6 (by omega)
      have k7 : ¬ v2 = 7 := k 7 (by omega)
      have k8 : ¬ v2 = 8 := k 8 (by omega)
      refine ⟨-10003, -10003, ?_, ?_, rfl, h⟩
      · simp only [mX3_box, ea, if_neg one_ne0, if_neg k0, if_neg k1, if_neg k2, if_neg k3, if_neg k4, if_neg k5, if_neg k6, if_neg k7, if_neg k8]
      · rw [mX4_box, fa, if_neg one_ne0, within_no (v := v2) (lo := 0) (hi := 8) h1, if_pos rfl]
    · obtain ⟨u, e1, e2⟩ := boxNow_eq x1 x3 x6 m2 m4 hb hT j (by omega)
      refine ⟨u, u, e1, ?_, rfl, h⟩
      rw [mX4_box, fa, if_neg one_ne0, within_yes (nI_pos (by omega)) (g8 hj), if_neg one_ne0, e2]
      rfl
  · exact ⟨-10002, -10002, by rw [mX3_box, ea, if_pos rfl], by rw [mX4_box, fa, if_pos rfl], rfl, h⟩
