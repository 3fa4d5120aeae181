theorem bm7 (p : Nat → Bool) : (bm (fun ax => decide (ax < 3) && p ax) = 7) ↔ (p 0 && p 1 && p 2) = true := by
  have : bm (fun ax => decide (ax < 3) && p ax) = bm (fun ax => if ax = 0 then p 0 else if ax = 1 then p 1 else if ax = 2 then p 2 else false) := by
    refine bm_cong (fun i hi => ?_)
    by_cases h0 : i = 0
    · subst h0; simp
    by_cases h1 : i = 1
    · subst h1; simp
    by_cases h2 : i = 2
    · subst h2; simp
    simp [h0, h1, h2]
    omega
  rw [this]
  cases p 0 <;> cases p 1 <;> cases p 2 <;> decide +kernel
theorem m_ix12 (a b : Nat) : ((12 : Int32) * nI a) + nI b = nI (12 * a + b) := by
  show nI 12 * nI a + nI b = _
  rw [pk_mul, nI_add]
theorem m_areOver {τ : bx_St} {M : Nat → Nat → Nat → Bool} (h : MM τ M) {a b : Nat} (ha : a < 12) (hb : b < 12) : mX4_areOver (nI a) (nI b) τ = some (bI (ov M a b)) := by
  rw [mX4_areOver, m_ix12, if_pos (ok_nI (by omega) (by decide)), cl_nI (by omega), h a ha b hb]
  unfold ov
  by_cases e : (M 0 a b && M 1 a b && M 2 a b) = true
  · rw [if_pos ((bm7 (fun ax => M ax a b)).mpr e), e]; rfl
  · rw [if_neg (fun q => e ((bm7 (fun ax => M ax a b)).mp q))]
    have : (M 0 a b && M 1 a b && M 2 a b) = false := by cases h : (M 0 a b && M 1 a b && M 2 a b) <;> simp_all
    rw [this]; rfl
theorem bz_or (x : Int32) : x ||| (0 : Int32) = x := b_ext (fun i _ => by rw [b_or, b_0, Bool.or_false])
theorem m_overBits_loop {τ : bx_St} {M : Nat → Nat → Nat → Bool} (h : MM τ M) {a : Nat} (ha : a < 12) : ∀ (k n i : Nat), i + k = 12 → k < n → mX4_overBits_4 n (nI a) (bm (fun j => decide (j < i) && ov M a j)) (nI i) τ = some (bm (ov M a)) := by
  intro k
  induction k with
  | zero =>
    intro n i hi hn
    obtain ⟨n, rfl⟩ : ∃ m, n = m + 1 := ⟨n - 1, by omega⟩
    have : i = 12 := by omega
    subst this
    rw [mX4_overBits_4, if_pos (by decide)]
    exact congrArg some (bm_cong (fun j hj => by rw [decide_eq_true hj, Bool.true_and]))
  | succ k ih =>
    intro n i hi hn
    obtain ⟨n, rfl⟩ : ∃ m, n = m + 1 := ⟨n - 1, by omega⟩
    rw [mX4_overBits_4, if_neg (n12 (by omega)), m_areOver h ha (by omega), Option.bind_some]
    have step := ih n (i + 1) (by omega) (by omega)
    cases e : ov M a i with
    | false =>
      rw [if_pos (by rfl), mX4_overBits_27, bz_or, nI_1, ← step]
      congr 1
      refine bm_cong (fun j hj => ?_)
      by_cases hj2 : j = i
      · subst hj2; simp [e]
      · by_cases hj3 : j < i
        · rw [decide_eq_true hj3, decide_eq_true (by omega : j < i + 1)]
        · rw [decide_eq_false hj3, decide_eq_false (by omega : ¬ j < i + 1)]
    | true =>
      rw [if_neg (by decide), mX4_overBits_27, nI_1, ← step]
      congr 1
      show bm _ ||| mX3_bit (nI i) = _
      rw [bm_or (by omega)]
      refine bm_cong (fun j hj => ?_)
      by_cases hj2 : j = i
      · subst hj2; simp [e]
      · by_cases hj3 : j < i
        · rw [decide_eq_true hj3, decide_eq_true (by omega : j < i + 1), decide_eq_false hj2]; simp
        · rw [decide_eq_false hj3, decide_eq_false (by omega : ¬ j < i + 1), decide_eq_false hj2]; simp
theorem m_overBits {τ : bx_St} {M : Nat → Nat → Nat → Bool} (h : MM τ M) {a : Nat} (ha : a < 12) : mX4_overBits (nI a) τ = some (bm (ov M a)) := by
  have := m_overBits_loop h ha 12 5000 0 rfl (by omega)
  rw [mX4_overBits]
  rw [bm_cong (g := fun _ => false) (fun i _ => by simp), bm_0] at this
  exact this
theorem x_meet_loop {σ : bx_St} {M : Nat → Nat → Nat → Bool} (h : XM σ M) {a b : Nat} (ha : a < 12) (hb : b < 12) : ∀ (k n ax c : Nat), ax + k = 3 → k < n → mX3_meet_30 n (nI a) (nI b) (nI c) (nI ax) σ = some (nI (c + (fb_ct (fun x => M x a b) 3 - fb_ct (fun x => M x a b) ax))) := by
  intro k
  induction k with
  | zero =>
    intro n ax c hi hn
    obtain ⟨n, rfl⟩ : ∃ m, n = m + 1 := ⟨n - 1, by omega⟩
    have : ax = 3 := by omega
    subst this
    rw [mX3_meet_30, if_pos (by decide)]
    simp
  | succ k ih =>
    intro n ax c hi hn
    obtain ⟨n, rfl⟩ : ∃ m, n = m + 1 := ⟨n - 1, by omega⟩
    rw [mX3_meet_30, if_neg (n3 (by omega)), if_pos (ok_nI ha (by decide)), cl_nI (by omega), lineOf_eq ax (by omega), h ax (by omega) a ha, hold_bm _ hb]
    have h1 := fb_ct_mono (fun x => M x a b) (by omega : ax + 1 ≤ 3)
    rw [fb_ct_succ _ ax] at h1
    cases e : M ax a b with
    | false =>
      rw [if_pos (by rfl), mX3_meet_57, nI_1, ih n (ax + 1) c (by omega) (by omega), fb_ct_succ _ ax, e]
      simp
    | true =>
      rw [if_neg (by decide), mX3_meet_57, nI_1, nI_1, ih n (ax + 1) (c + 1) (by omega) (by omega), fb_ct_succ _ ax, e]
      rw [e] at h1
      congr 2
      simp at h1 ⊢
      omega
theorem P_meet (σ τ : bx_St) (v1 v2 : Int32) (h : bx_R σ τ) : ∃ u w, mX3_meet v1 v2 σ = some u ∧ mX4_meet v1 v2 τ = some w ∧ u = w ∧ bx_R σ τ := by
  have hh := h
  obtain ⟨⟨T, tc, V, F, u, M, ⟨x1, x2, x3, x4, x5, x6⟩, ⟨m1, m2, m3, m4⟩, -⟩, -, -⟩ := hh
  rcases there_eq x1 m1 v1 with ⟨a, ha, rfl, hTa, ea, fa⟩ | ⟨ea, fa⟩
  · rcases there_eq x1 m1 v2 with ⟨b, hb, rfl, hTb, eb, fb⟩ | ⟨eb, fb⟩
    · by_cases e : nI a = nI b
      · exact ⟨-10002, -10002, by rw [mX3_meet, ea, if_neg one_ne0, eb, if_neg one_ne0, if_pos e], by rw [mX4_meet, fa, if_neg one_ne0, fb, if_neg one_ne0, if_pos e], rfl, h⟩
      · refine ⟨nI (fb_ct (fun x => M x a b) 3), nI (fb_ct (fun x => M x a b) 3), ?_, ?_, rfl, h⟩
        · rw [mX3_meet, ea, if_neg one_ne0, eb, if_neg one_ne0, if_neg e]
          have := x_meet_loop x5 ha hb 3 5000 0 0 rfl (by omega)
          exact this.trans (by simp [fb_ct])
        · rw [mX4_meet, fa, if_neg one_ne0, fb, if_neg one_ne0, if_neg e, m_ix12, if_pos (ok_nI (by omega) (by decide)), cl_nI (by omega), m4 a ha b hb, ones_bm, Option.bind_some]
          congr 2
    · exact ⟨-10002, -10002, by rw [mX3_meet, ea, if_neg one_ne0, eb, if_pos rfl], by rw [mX4_meet, fa, if_neg one_ne0, fb, if_pos rfl], rfl, h⟩
  · exact ⟨-10002, -10002, by rw [mX3_meet, ea, if_pos rfl], by rw [mX4_meet, fa, if_pos rfl], rfl, h⟩
/-! pairs by their code, 12 times the lesser number and the greater one -/
def pc (O : Nat → Nat → Bool) (c : Nat) : Bool := decide (c / 12 < c % 12) && O (c / 12) (c % 12)
theorem pc_ab (O : Nat → Nat → Bool) {a b : Nat} (hb : b < 12) : pc O (12 * a + b) = (decide (a < b) && O a b) := by
  unfold pc
  rw [show (12 * a + b) / 12 = a by omega, show (12 * a + b) % 12 = b by omega]
theorem pc_66 (O : Nat → Nat → Bool) : fb_ct (pc O) 144 ≤ 66 := by
  have h : fb_ct (fun c => decide (c / 12 < c % 12)) 144 = 66 := by decide +kernel
  rw [← h]
  exact fb_ct_sub (fun k _ hk => by unfold pc at hk; simp only [Bool.and_eq_true] at hk; exact hk.1)
theorem pc_le {O : Nat → Nat → Bool} {c : Nat} (hc : c ≤ 144) : fb_ct (pc O) c ≤ 66 := Nat.le_trans (fb_ct_mono _ hc) (pc_66 O)
/-- ahead of a row's first pair nothing is counted -/
theorem pc_row (O : Nat → Nat → Bool) (a : Nat) : ∀ k, k ≤ a + 1 → k ≤ 12 → fb_ct (pc O) (12 * a + k) = fb_ct (pc O) (12 * a) := by
  intro k
  induction k with
  | zero => intro _ _; rfl
  | succ k ih =>
    intro h h2
    rw [show 12 * a + (k + 1) = (12 * a + k) + 1 by omega, fb_ct_succ, ih (by omega) (by omega), pc_ab O (by omega), decide_eq_false (by omega : ¬ a < k)]
    rfl
theorem x_pair_in {σ : bx_St} {O : Nat → Nat → Bool} (h : XO σ O) {a p : Nat} (ha : a < 12) (hp : p < 2 ^ 31) (K : Int32 → Int32 → Int32 → bx_St → Option Int32) : ∀ (k n b : Nat), b + k = 12 → a < b → k < n → fb_ct (pc O) (12 * a + b) ≤ p →
    (p < fb_ct (pc O) (12 * a + 12) → ∃ c, c < 144 ∧ pc O c = true ∧ fb_ct (pc O) c = p ∧ mX3_pair_23 K n (nI p) (nI (fb_ct (pc O) (12 * a + b))) (nI a) (nI b) σ = some (nI c)) ∧ (¬ p < fb_ct (pc O) (12 * a + 12) → mX3_pair_23 K n (nI p) (nI (fb_ct (pc O) (12 * a + b))) (nI a) (nI b) σ = K (nI p) (nI (fb_ct (pc O) (12 * a + 12))) (nI (a + 1)) σ) := by
  intro k
  induction k with
  | zero =>
    intro n b hb hab hn hle
    obtain ⟨n, rfl⟩ : ∃ m, n = m + 1 := ⟨n - 1, by omega⟩
    have : b = 12 := by omega
    subst this
    rw [mX3_pair_23, if_pos (by decide), nI_1]
    exact ⟨fun q => absurd q (by omega), fun _ => rfl⟩
  | succ k ih =>
    intro n b hb hab hn hle
    obtain ⟨n, rfl⟩ : ∃ m, n = m + 1 := ⟨n - 1, by omega⟩
    rw [mX3_pair_23, if_neg (n12 (by omega)), if_pos (ok_nI ha (by decide)), cl_nI (by omega), h a ha, hold_bm _ (by omega : b < 12)]
    have hs : fb_ct (pc O) (12 * a + (b + 1)) = fb_ct (pc O) (12 * a + b) + (if O a b then 1 else 0) := by
      rw [show 12 * a + (b + 1) = (12 * a + b) + 1 by omega, fb_ct_succ, pc_ab O (by omega), decide_eq_true hab, Bool.true_and]
    have l1 := pc_le (O := O) (c := 12 * a + b) (by omega)
    cases e : O a b with
    | false =>
      rw [e] at hs
      rw [if_pos (by rfl), mX3_pair_59, nI_1, show fb_ct (pc O) (12 * a + b) = fb_ct (pc O) (12 * a + (b + 1)) by rw [hs]; rfl]
      exact ih n (b + 1) (by omega) (by omega) (by omega) (by rw [hs]; simp; exact hle)
    | true =>
      rw [e] at hs
      rw [if_neg (by decide)]
      by_cases e2 : fb_ct (pc O) (12 * a + b) = p
      · rw [if_pos (by rw [e2])]
        have hm := fb_ct_mono (pc O) (by omega : 12 * a + (b + 1) ≤ 12 * a + 12)
        rw [hs] at hm
        refine ⟨fun _ => ⟨12 * a + b, by omega, by rw [pc_ab O (by omega), decide_eq_true hab, e]; rfl, e2, by rw [mX3_pairCode, m_ix12]⟩, fun q => ?_⟩
        simp at hm
        omega
      · rw [if_neg (fun q => e2 ((nI_eq (by omega) (by omega)).mp q)), mX3_pair_59, nI_1, nI_1, show fb_ct (pc O) (12 * a + b) + 1 = fb_ct (pc O) (12 * a + (b + 1)) by rw [hs]; rfl]
        exact ih n (b + 1) (by omega) (by omega) (by omega) (by rw [hs]; simp; omega)
theorem x_pair_out {σ : bx_St} {O : Nat → Nat → Bool} (h : XO σ O) {p : Nat} (hp : p < 2 ^ 31) : ∀ (k n a : Nat), a + k = 12 → k < n → fb_ct (pc O) (12 * a) ≤ p →
    (p < fb_ct (pc O) 144 → ∃ c, c < 144 ∧ pc O c = true ∧ fb_ct (pc O) c = p ∧ mX3_pair_12 n (nI p) (nI (fb_ct (pc O) (12 * a))) (nI a) σ = some (nI c)) ∧ (¬ p < fb_ct (pc O) 144 → mX3_pair_12 n (nI p) (nI (fb_ct (pc O) (12 * a))) (nI a) σ = some (-10002)) := by
  intro k
  induction k with
  | zero =>
    intro n a ha hn hle
    obtain ⟨n, rfl⟩ : ∃ m, n = m + 1 := ⟨n - 1, by omega⟩
    have : a = 12 := by omega
    subst this
    rw [mX3_pair_12, if_pos (by decide)]
    have hle : fb_ct (pc O) 144 ≤ p := hle
    exact ⟨fun q => absurd q (by omega), fun _ => rfl⟩
  | succ k ih =>
    intro n a ha hn hle
    obtain ⟨n, rfl⟩ : ∃ m, n = m + 1 := ⟨n - 1, by omega⟩
    have hr := pc_row O a (a + 1) (by omega) (by omega)
    rw [mX3_pair_12, if_neg (n12 (by omega)), nI_1, ← hr]
    obtain ⟨i1, i2⟩ := x_pair_in h (a := a) (by omega) hp (mX3_pair_12 n) (11 - a) 5000 (a + 1) (by omega) (by omega) (by omega) (by rw [hr]; exact hle)
    by_cases q : p < fb_ct (pc O) (12 * a + 12)
    · have hm := fb_ct_mono (pc O) (by omega : 12 * a + 12 ≤ 144)
      exact ⟨fun _ => i1 q, fun q2 => absurd q2 (by omega)⟩
    · rw [show bx_F = 5000 from rfl, i2 q]
      exact ih n (a + 1) (by omega) (by omega) (by rw [show 12 * (a + 1) = 12 * a + 12 by omega]; omega)
/-- the class's pair() -/
theorem x_pair {σ : bx_St} {O : Nat → Nat → Bool} (h : XO σ O) {p : Nat} (hp : p < 2 ^ 31) : (p < fb_ct (pc O) 144 → ∃ c, c < 144 ∧ pc O c = true ∧ fb_ct (pc O) c = p ∧ mX3_pair (nI p) σ = some (nI c)) ∧ (¬ p < fb_ct (pc O) 144 → mX3_pair (nI p) σ = some (-10002)) := by
  rw [mX3_pair, if_pos (nI_pos' hp)]
  exact x_pair_out h hp 12 5000 0 rfl (by omega) (Nat.zero_le _)
/-- the reference's pairs laid out up to a code -/
def PJ (O : Nat → Nat → Bool) (τ : bx_St) (c : Nat) : Prop := τ.1 0 25 = nI (fb_ct (pc O) c) ∧ ∀ d, d < c → pc O d = true → τ.1 10 (fb_ct (pc O) d) = nI d
/-- nothing but the pairs' row and their number is another one -/
def PK (τ0 τ : bx_St) : Prop := (∀ k i, k ≠ 10 → (k = 0 → i ≠ 25) → τ.1 k i = τ0.1 k i) ∧ τ.2 = τ0.2
theorem PK.MM {τ0 τ : bx_St} {M : Nat → Nat → Nat → Bool} (h : PK τ0 τ) (hm : MM τ0 M) : MM τ M := fun a ha b hb => by
  rw [h.1 4 _ (by decide) (fun h => by cases h)]
  exact hm a ha b hb
theorem m_pairs_in {τ0 : bx_St} {M : Nat → Nat → Nat → Bool} (hM : MM τ0 M) {a : Nat} (ha : a < 12) (K : Int32 → bx_St → Option bx_St) : ∀ (k n b : Nat) (τ : bx_St), b + k = 12 → a < b → k < n → PK τ0 τ → PJ (ov M) τ (12 * a + b) → ∃ τ', PK τ0 τ' ∧ PJ (ov M) τ' (12 * a + 12) ∧ mX4_layPairs_17 K n (nI a) (nI b) τ = K (nI (a + 1)) τ' := by
  intro k
  induction k with
  | zero =>
    intro n b τ hb hab hn hk hj
    obtain ⟨n, rfl⟩ : ∃ m, n = m + 1 := ⟨n - 1, by omega⟩
    have : b = 12 := by omega
    subst this
    exact ⟨τ, hk, hj, by rw [mX4_layPairs_17, if_pos (by decide), nI_1]⟩
  | succ k ih =>
    intro n b τ hb hab hn hk hj
    obtain ⟨n, rfl⟩ : ∃ m, n = m + 1 := ⟨n - 1, by omega⟩
    rw [mX4_layPairs_17, if_neg (n12 (by omega)), m_areOver (hk.MM hM) ha (by omega), Option.bind_some]
    have l1 := pc_66 (ov M)
    have hs : fb_ct (pc (ov M)) (12 * a + (b + 1)) = fb_ct (pc (ov M)) (12 * a + b) + (if ov M a b then 1 else 0) := by
      rw [show 12 * a + (b + 1) = (12 * a + b) + 1 by omega, fb_ct_succ, pc_ab _ (by omega), decide_eq_true hab, Bool.true_and]
    cases e : ov M a b with
    | false =>
      rw [e] at hs
      rw [if_pos (by rfl), mX4_layPairs_57, nI_1]
      refine ih n (b + 1) τ (by omega) (by omega) (by omega) hk ⟨by rw [hs]; exact hj.1, fun d hd hp => hj.2 d ?_ hp⟩
      rcases (by omega : d < 12 * a + b ∨ d = 12 * a + b) with q | q
      · exact q
      · subst q
        rw [pc_ab _ (by omega), e, Bool.and_false] at hp
        cases hp
    | true =>
      rw [e] at hs
      have hlt : fb_ct (pc (ov M)) (12 * a + b) < 66 := by
        have := fb_ct_mono (pc (ov M)) (by omega : 12 * a + (b + 1) ≤ 144)
        rw [hs] at this
        simp at this
        omega
      rw [if_neg (by decide), hj.1, if_pos (ok_nI hlt (by decide)), cl_nI (by omega), m_ix12, bx_let, mX4_layPairs_57, nI_1]
      refine ih n (b + 1) _ (by omega) (by omega) (by omega) ⟨fun k i h1 h2 => ?_, hk.2⟩ ⟨?_, fun d hd hp => ?_⟩
      · rw [up_get]
        by_cases e0 : k = 0
        · rw [if_pos e0, if_neg (h2 e0), up_get, if_neg (by omega), e0]
          exact hk.1 0 i (by decide) (fun _ => h2 e0)
        · rw [if_neg e0, up_get, if_neg h1]
          exact hk.1 k i h1 h2
      · rw [up_get, if_pos rfl, if_pos rfl, up_get, if_neg (by decide), hj.1, nI_1, hs]
        rfl
      · rw [up_get, if_neg (by decide), up_get, if_pos rfl]
        rcases (by omega : d < 12 * a + b ∨ d = 12 * a + b) with q | q
        · have hne : fb_ct (pc (ov M)) d ≠ fb_ct (pc (ov M)) (12 * a + b) := by
            intro q2
            have := fb_ct_kth_one hp (show pc (ov M) (12 * a + b) = true by rw [pc_ab _ (by omega), decide_eq_true hab, e]; rfl) q2
            omega
          rw [if_neg hne]
          exact hj.2 d q hp
        · subst q
          rw [if_pos rfl]
theorem m_pairs_out {τ0 : bx_St} {M : Nat → Nat → Nat → Bool} (hM : MM τ0 M) : ∀ (k n a : Nat) (τ : bx_St), a + k = 12 → k < n → PK τ0 τ → PJ (ov M) τ (12 * a) → ∃ τ', PK τ0 τ' ∧ PJ (ov M) τ' 144 ∧ mX4_layPairs_7 n (nI a) τ = some τ' := by
  intro k
  induction k with
  | zero =>
    intro n a τ ha hn hk hj
    obtain ⟨n, rfl⟩ : ∃ m, n = m + 1 := ⟨n - 1, by omega⟩
    have : a = 12 := by omega
    subst this
    exact ⟨τ, hk, hj, by rw [mX4_layPairs_7, if_pos (by decide)]⟩
  | succ k ih =>
    intro n a τ ha hn hk hj
    obtain ⟨n, rfl⟩ : ∃ m, n = m + 1 := ⟨n - 1, by omega⟩
    have hr := pc_row (ov M) a (a + 1) (by omega) (by omega)
    have hj' : PJ (ov M) τ (12 * a + (a + 1)) := by
      refine ⟨by rw [hr]; exact hj.1, fun d hd hp => ?_⟩
      by_cases q : d < 12 * a
      · exact hj.2 d q hp
      · obtain ⟨b, rfl⟩ : ∃ b, d = 12 * a + b := ⟨d - 12 * a, by omega⟩
        rw [pc_ab _ (by omega), decide_eq_false (by omega : ¬ a < b)] at hp
        cases hp
    obtain ⟨τ1, k1, j1, e1⟩ := m_pairs_in hM (a := a) (by omega) (mX4_layPairs_7 n) (11 - a) 5000 (a + 1) τ (by omega) (by omega) (by omega) hk hj'
    rw [mX4_layPairs_7, if_neg (n12 (by omega)), nI_1, show bx_F = 5000 from rfl, e1]
    exact ih n (a + 1) τ1 (by omega) (by omega) k1 j1
theorem m_layPairs {τ : bx_St} {M : Nat → Nat → Nat → Bool} (hM : MM τ M) : ∃ τ', PK τ τ' ∧ PJ (ov M) τ' 144 ∧ mX4_layPairs τ = some τ' := by
  obtain ⟨τ', h1, h2, h3⟩ := m_pairs_out hM 12 5000 0 (bx_up τ 0 25 0) rfl (by omega) ⟨fun k i h1 h2 => by
    rw [up_get]
    by_cases e : k = 0
    · rw [if_pos e, if_neg (h2 e), e]
    · rw [if_neg e], rfl⟩ ⟨by rw [up_get, if_pos rfl, if_pos rfl]; rfl, fun d hd => absurd hd (by omega)⟩
  exact ⟨τ', h1, h2, h3⟩
theorem bx_R.pk {σ τ τ' : bx_St} (h : bx_R σ τ) (hk : PK τ τ') : bx_R σ τ' := by
  obtain ⟨⟨T, tc, V, F, u, M, hA⟩, hG, hP⟩ := h
  refine ⟨⟨T, tc, V, F, u, M, hA.keep (fun _ _ _ => rfl) ?_ ?_⟩, hG.keep (fun _ _ _ _ => rfl) ?_ ?_, hP.keep rfl (fun _ => rfl) ?_ ?_⟩
  · intro i hi; exact hk.1 0 i (by decide) (fun _ => by omega)
  · intro k h i; exact hk.1 k i (by omega) (fun _ => by omega)
  · intro i hi; exact hk.1 0 i (by decide) (fun _ => by omega)
  · intro k h h2 i; exact hk.1 k i (by omega) (fun _ => by omega)
  · exact hk.1 0 0 (by decide) (fun _ => by decide)
  · intro i; exact hk.1 1 i (by decide) (fun h => by cases h)
theorem P_pair (σ τ : bx_St) (v1 : Int32) (h : bx_R σ τ) : ∃ u w, mX3_pair v1 σ = some u ∧ mX4_pair v1 τ = some w ∧ u = w.1 ∧ bx_R σ w.2 := by
  have hh := h
  obtain ⟨⟨T, tc, V, F, u, M, ⟨x1, x2, x3, x4, x5, x6⟩, ⟨m1, m2, m3, m4⟩, -⟩, -, -⟩ := hh
  obtain ⟨τ', hk, hj, e⟩ := m_layPairs m4
  have l1 := pc_66 (ov M)
  by_cases h1 : v1 < 0
  · refine ⟨-10002, (-10002, τ'), ?_, ?_, rfl, h.pk hk⟩
    · rw [mX3_pair, if_neg]
      rw [fa_lt] at h1
      rw [fa_le]
      omega
    · rw [mX4_pair, e, Option.bind_some, within_no (Or.inl h1), if_pos rfl]
  · obtain ⟨p, hp, rfl⟩ := nI_of h1
    obtain ⟨y1, y2⟩ := x_pair x6 hp
    by_cases q : p < fb_ct (pc (ov M)) 144
    · obtain ⟨c, hc, hpc, hct, ex⟩ := y1 q
      refine ⟨nI c, (nI c, τ'), ex, ?_, rfl, h.pk hk⟩
      rw [mX4_pair, e, Option.bind_some, hj.1, within_yes h1, if_neg one_ne0, if_pos (ok_nI (by omega) (by decide)), cl_nI (by omega), ← hct, hj.2 c hc hpc]
      obtain ⟨E, hE⟩ : ∃ E, fb_ct (pc (ov M)) 144 = E + 1 := ⟨fb_ct (pc (ov M)) 144 - 1, by omega⟩
      rw [hE, nI_pred]
      exact nI_nlt (by omega) (by omega)
    · refine ⟨-10002, (-10002, τ'), y2 q, ?_, rfl, h.pk hk⟩
      rw [mX4_pair, e, Option.bind_some, hj.1, within_no, if_pos rfl]
      right
      generalize fb_ct (pc (ov M)) 144 = E at *
      cases E with
      | zero => rw [show nI 0 - 1 = (-1 : Int32) by decide, fa_lt, nI_toInt hp, show (-1 : Int32).toInt = -1 by decide]; omega
      | succ E' => rw [nI_pred]; exact nI_lt (by omega) hp
