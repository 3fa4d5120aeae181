theorem sm_swap (g : Nat → Nat → Nat) (n : Nat) : ∀ m, fb_sm (fun a => fb_sm (g a) n) m = fb_sm (fun b => fb_sm (fun a => g a b) m) n := by
  intro m
  induction m with
  | zero =>
    rw [fb_sm]
    have : fb_sm (fun b => fb_sm (fun a => g a b) 0) n = fb_sm (fun _ => 0) n := fb_sm_cong (fun k _ => rfl)
    rw [this, fb_sm_const, Nat.mul_zero]
  | succ m ih =>
    rw [fb_sm_succ, ih, ← fb_sm_add]
    exact fb_sm_cong (fun k _ => rfl)
theorem ct_sm (p : Nat → Bool) : ∀ n, fb_ct p n = fb_sm (fun k => if p k then 1 else 0) n := by
  intro n
  induction n with
  | zero => rfl
  | succ n ih => rw [fb_ct_succ, fb_sm_succ, ih]
theorem ct_rows (p : Nat → Bool) (w : Nat) : ∀ m, fb_ct p (w * m) = fb_sm (fun a => fb_ct (fun b => p (w * a + b)) w) m := by
  intro m
  induction m with
  | zero => rfl
  | succ m ih => rw [Nat.mul_succ, fb_ct_split, ih, fb_sm_succ]
/-- what each overlaps, in all: twice the pairs -/
theorem pairs_twice {O : Nat → Nat → Bool} (hs : ∀ a b, a < 12 → b < 12 → O a b = O b a) (hi : ∀ a, a < 12 → O a a = false) : fb_sm (fun a => fb_ct (O a) 12) 12 = 2 * fb_ct (pc O) 144 := by
  have e1 : fb_ct (pc O) 144 = fb_sm (fun a => fb_sm (fun b => if decide (a < b) && O a b then 1 else 0) 12) 12 := by
    rw [show (144 : Nat) = 12 * 12 from rfl, ct_rows]
    refine fb_sm_cong (fun a ha => ?_)
    rw [ct_sm]
    exact fb_sm_cong (fun b hb => by rw [pc_ab O hb])
  have e2 := sm_swap (fun a b => if decide (a < b) && O a b then 1 else 0) 12 12
  have e3 : fb_sm (fun a => fb_ct (O a) 12) 12 = fb_sm (fun a => fb_sm (fun b => if decide (a < b) && O a b then 1 else 0) 12 + fb_sm (fun b => if decide (b < a) && O b a then 1 else 0) 12) 12 := by
    refine fb_sm_cong (fun a ha => ?_)
    rw [ct_sm, ← fb_sm_add]
    refine fb_sm_cong (fun b hb => ?_)
    rcases Nat.lt_trichotomy a b with h | h | h
    · rw [decide_eq_true h, decide_eq_false (by omega : ¬ b < a)]; simp
    · subst h
      rw [decide_eq_false (Nat.lt_irrefl a), hi a ha]; simp
    · rw [decide_eq_true h, decide_eq_false (by omega : ¬ a < b), hs a b ha hb]; simp
  rw [e3, fb_sm_add, ← e2, ← e1]
  omega
theorem MK.sym {T : Nat → Bool} {tc : Bool} {V : Nat → Nat → Int} {M : Nat → Nat → Nat → Bool} (h : MK T tc V M) {ax a b : Nat} (hx : ax < 3) (ha : a < 12) (hb : b < 12) : M ax a b = M ax b a := by
  rw [h ax hx a ha b hb, h ax hx b hb a ha]
  by_cases e : a = b
  · subst e; rfl
  · rw [decide_eq_true e, decide_eq_true (Ne.symm e)]
    cases T a <;> cases T b <;> simp [Bool.and_comm]
theorem MK.irr {T : Nat → Bool} {tc : Bool} {V : Nat → Nat → Int} {M : Nat → Nat → Nat → Bool} (h : MK T tc V M) {ax a : Nat} (hx : ax < 3) (ha : a < 12) : M ax a a = false := by
  rw [h ax hx a ha a ha, decide_eq_false (fun q => q rfl)]
  rfl
theorem MK.in {T : Nat → Bool} {tc : Bool} {V : Nat → Nat → Int} {M : Nat → Nat → Nat → Bool} (h : MK T tc V M) {ax a b : Nat} (hx : ax < 3) (ha : a < 12) (hb : b < 12) (hm : M ax a b = true) : T a = true ∧ T b = true ∧ a ≠ b := by
  rw [h ax hx a ha b hb] at hm
  simp only [Bool.and_eq_true, decide_eq_true_eq] at hm
  exact ⟨hm.1.1.1.2, hm.1.1.2, hm.1.1.1.1⟩
theorem ov_sym {T : Nat → Bool} {tc : Bool} {V : Nat → Nat → Int} {M : Nat → Nat → Nat → Bool} (h : MK T tc V M) (a b : Nat) (ha : a < 12) (hb : b < 12) : ov M a b = ov M b a := by
  unfold ov
  rw [h.sym (ax := 0) (by omega) ha hb, h.sym (ax := 1) (by omega) ha hb, h.sym (ax := 2) (by omega) ha hb]
theorem ov_irr {T : Nat → Bool} {tc : Bool} {V : Nat → Nat → Int} {M : Nat → Nat → Nat → Bool} (h : MK T tc V M) (a : Nat) (ha : a < 12) : ov M a a = false := by
  unfold ov
  rw [h.irr (ax := 0) (by omega) ha]
  rfl
theorem ov_in {T : Nat → Bool} {tc : Bool} {V : Nat → Nat → Int} {M : Nat → Nat → Nat → Bool} (h : MK T tc V M) {a b : Nat} (ha : a < 12) (hb : b < 12) (hm : ov M a b = true) : T a = true ∧ T b = true ∧ a ≠ b := by
  unfold ov at hm
  simp only [Bool.and_eq_true] at hm
  exact h.in (ax := 0) (by omega) ha hb hm.1.1
theorem x_pairCount_loop {σ : bx_St} {O : Nat → Nat → Bool} (h : XO σ O) : ∀ (k n i c : Nat), i + k = 12 → k < n → mX3_pairCount_4 n (nI c) (nI i) σ = some (nI (c + (fb_sm (fun a => fb_ct (O a) 12) 12 - fb_sm (fun a => fb_ct (O a) 12) i)) / 2) := by
  intro k
  induction k with
  | zero =>
    intro n i c hi hn
    obtain ⟨n, rfl⟩ : ∃ m, n = m + 1 := ⟨n - 1, by omega⟩
    have : i = 12 := by omega
    subst this
    rw [mX3_pairCount_4, if_pos (by decide), Nat.sub_self, Nat.add_zero]
  | succ k ih =>
    intro n i c hi hn
    obtain ⟨n, rfl⟩ : ∃ m, n = m + 1 := ⟨n - 1, by omega⟩
    rw [mX3_pairCount_4, if_neg (n12 (by omega)), if_pos (ok_nI (by omega) (by decide)), cl_nI (by omega), h i (by omega), bc_bm, nI_add, nI_1, ih n (i + 1) _ (by omega) (by omega), fb_sm_succ _ i]
    have h1 := fb_sm_part (fun a => fb_ct (O a) 12) (by omega : i < 12)
    congr 2
    congr 1
    omega
theorem x_pairCount {σ : bx_St} {O : Nat → Nat → Bool} (h : XO σ O) (hs : ∀ a b, a < 12 → b < 12 → O a b = O b a) (hi : ∀ a, a < 12 → O a a = false) : mX3_pairCount σ = some (nI (fb_ct (pc O) 144)) := by
  have := x_pairCount_loop h 12 5000 0 0 rfl (by omega)
  rw [pairs_twice hs hi] at this
  refine this.trans (congrArg some ?_)
  show nI (0 + (2 * fb_ct (pc O) 144 - 0)) / nI 2 = _
  have l1 := pc_66 O
  rw [pk_div (by omega) (by omega) (by decide)]
  congr 1
  omega
theorem m_boxMany_loop {τ : bx_St} {T : Nat → Bool} (h : τ.1 0 2 = bm T) : ∀ (k n i c : Nat), i + k = 12 → k < n → mX4_boxMany_4 n (nI c) (nI i) τ = some (nI (c + (fb_ct T 12 - fb_ct T i))) := by
  intro k
  induction k with
  | zero =>
    intro n i c hi hn
    obtain ⟨n, rfl⟩ : ∃ m, n = m + 1 := ⟨n - 1, by omega⟩
    have : i = 12 := by omega
    subst this
    rw [mX4_boxMany_4, if_pos (by decide)]
    simp
  | succ k ih =>
    intro n i c hi hn
    obtain ⟨n, rfl⟩ : ∃ m, n = m + 1 := ⟨n - 1, by omega⟩
    rw [mX4_boxMany_4, if_neg (n12 (by omega)), h, nI_b1 (by omega), bm_bt, decide_eq_true (by omega : i < 12), Bool.true_and, bI_nI, nI_add, nI_1]
    rw [ih n (i + 1) _ (by omega) (by omega), fb_ct_succ T i]
    have h1 := fb_ct_mono T (by omega : i + 1 ≤ 12)
    rw [fb_ct_succ T i] at h1
    congr 2
    omega
theorem m_boxMany {τ : bx_St} {T : Nat → Bool} (h : τ.1 0 2 = bm T) : mX4_boxMany τ = some (nI (fb_ct T 12)) := by
  have := m_boxMany_loop h 12 5000 0 0 rfl (by omega)
  rw [mX4_boxMany]
  exact this.trans (by simp [fb_ct])
theorem howMany_eq {σ τ : bx_St} (h : bx_R σ τ) : ∀ j, j < 10 → ∃ u τ', mX3_count (nI j) σ = some u ∧ mX4_howMany (nI j) τ = some (u, τ') ∧ PK τ τ' := by
  obtain ⟨⟨T, tc, V, F, u, M, ⟨x1, x2, x3, x4, x5, x6⟩, ⟨m1, m2, m3, m4⟩, ⟨i1, i2, i3, i4, i5⟩⟩, ⟨a1, a2, a3, a4, a5, a6, a7, a8, a9, -⟩, ⟨⟨n, hn, e1, e2⟩, e3⟩⟩ := h
  have rf : PK τ τ := ⟨fun _ _ _ _ => rfl, rfl⟩
  intro j hj
  rcases (by omega : j = 0 ∨ j = 1 ∨ j = 2 ∨ j = 3 ∨ j = 4 ∨ j = 5 ∨ j = 6 ∨ j = 7 ∨ j = 8 ∨ j = 9) with rfl | rfl | rfl | rfl | rfl | rfl | rfl | rfl | rfl | rfl
  · exact ⟨σ.1 2 1, τ, rfl, by show some (τ.1 0 0, τ) = _; rw [e1, e2], rf⟩
  · refine ⟨nI (fb_ct T 12), τ, ?_, ?_, rf⟩
    · show some (mJ6_bitCount_0f7a4 (σ.1 0 6)) = _
      rw [x1.1, bc_bm]
    · show Option.bind (mX4_boxMany τ) (fun u3 => some (u3, τ)) = _
      rw [m_boxMany m1.1]
      rfl
  · obtain ⟨τ', hk, hjj, e⟩ := m_layPairs m4
    refine ⟨nI (fb_ct (pc (ov M)) 144), τ', ?_, ?_, hk⟩
    · show Option.bind (mX3_pairCount σ) _ = _
      rw [x_pairCount x6 (ov_sym i5) (ov_irr i5)]
      rfl
    · show Option.bind (mX4_pairMany τ) _ = _
      rw [mX4_pairMany, e, Option.bind_some, hjj.1]
      rfl
  · exact ⟨σ.1 5 5, τ, rfl, by show some (τ.1 0 14, τ) = _; rw [a4], rf⟩
  · exact ⟨σ.1 5 6, τ, rfl, by show some (τ.1 0 15, τ) = _; rw [a5], rf⟩
  · exact ⟨σ.1 5 7, τ, rfl, by show some (τ.1 0 16, τ) = _; rw [a6], rf⟩
  · exact ⟨σ.1 5 8, τ, rfl, by show some (τ.1 0 17, τ) = _; rw [a7], rf⟩
  · exact ⟨σ.1 5 9, τ, rfl, by show some (τ.1 0 18, τ) = _; rw [a8], rf⟩
  · refine ⟨bI tc, τ, ?_, ?_, rf⟩
    · show (if σ.1 0 7 = 0 then some (0 : Int32) else some 1) = _
      rw [x1.2]; cases tc <;> rfl
    · show (if τ.1 0 3 = 0 then some ((0 : Int32), τ) else some (1, τ)) = _
      rw [m1.2]; cases tc <;> rfl
  · exact ⟨σ.1 0 6, τ, rfl, by show some (τ.1 0 2, τ) = _; rw [x1.1, m1.1], rf⟩
theorem P_count (σ τ : bx_St) (v1 : Int32) (h : bx_R σ τ) : ∃ u w, mX3_count v1 σ = some u ∧ mX4_count v1 τ = some w ∧ u = w.1 ∧ bx_R σ w.2 := by
  rcases cases_n v1 9 (by decide) with h1 | ⟨j, hj, rfl⟩
  · have k := fun j hj => ne_out (j := j) h1 (by decide) hj
    have k0 : ¬ v1 = 0 := k 0 (by omega)
    have k1 : ¬ v1 = 1 := k 1 (by omega)
    have k2 : ¬ v1 = 2 := k 2 (by omega)
    have k3 : ¬ v1 = 3 := k 3 (by omega)
    have k4 : ¬ v1 = 4 := k 4 (by omega)
    have k5 : ¬ v1 = 5 := k 5 (by omega)
    have k6 : ¬ v1 = 6 := k 6 (by omega)
    have k7 : ¬ v1 = 7 := k 7 (by omega)
    have k8 : ¬ v1 = 8 := k 8 (by omega)
    have k9 : ¬ v1 = 9 := k 9 (by omega)
    refine ⟨-10003, (-10003, τ), ?_, ?_, rfl, h⟩
    · simp only [mX3_count, if_neg k0, if_neg k1, if_neg k2, if_neg k3, if_neg k4, if_neg k5, if_neg k6, if_neg k7, if_neg k8, if_neg k9]
    · simp only [mX4_count, mX4_howMany, if_neg k0, if_neg k1, if_neg k2, if_neg k3, if_neg k4, if_neg k5, if_neg k6, if_neg k7, if_neg k8, if_neg k9]
      rfl
  · obtain ⟨u, τ', e1, e2, hk⟩ := howMany_eq h j (by omega)
    refine ⟨u, (u, τ'), e1, ?_, rfl, h.pk hk⟩
    rw [mX4_count, e2]
    rfl
/-! probe -/
theorem span_eq (a b : Int32) : (∃ y z : Int, a = iv y ∧ b = iv z ∧ -999 ≤ y ∧ y < z ∧ z ≤ 999 ∧ mX3_isSpan a b = 1 ∧ mX4_areEnds a b = 1) ∨ (mX3_isSpan a b = 0 ∧ mX4_areEnds a b = 0) := by
  have ea : a = iv a.toInt := by unfold iv; rw [Int32.ofInt_toInt]
  have eb : b = iv b.toInt := by unfold iv; rw [Int32.ofInt_toInt]
  have c1 : (-999 : Int32).toInt = -999 := by decide
  have c2 : (999 : Int32).toInt = 999 := by decide
  unfold mX3_isSpan mX4_areEnds mX4_within
  simp only [fa_lt, fa_le, c1, c2]
  by_cases h1 : a.toInt < -999
  · right
    simp [h1]
  by_cases h2 : b.toInt ≤ a.toInt
  · right
    simp only [if_neg h1, if_pos h2]
    refine ⟨trivial, ?_⟩
    by_cases h4 : 999 < a.toInt
    · simp only [if_pos h4]; rfl
    · simp only [if_neg h4]
      by_cases h5 : b.toInt < -999
      · simp only [if_pos h5]; rfl
      · simp only [if_neg h5]
        by_cases h6 : 999 < b.toInt
        · simp only [if_pos h6]; rfl
        · simp only [if_neg h6]; rfl
  by_cases h3 : 999 < b.toInt
  · right
    have h5 : ¬ b.toInt < -999 := by omega
    simp only [if_neg h1, if_neg h2, if_pos h3, if_neg h5]
    refine ⟨trivial, ?_⟩
    by_cases h4 : 999 < a.toInt
    · simp only [if_pos h4]; rfl
    · simp only [if_neg h4]; rfl
  · left
    have h4 : ¬ 999 < a.toInt := by omega
    have h5 : ¬ b.toInt < -999 := by omega
    refine ⟨a.toInt, b.toInt, ea, eb, by omega, by omega, by omega, ?_, ?_⟩
    · simp only [if_neg h1, if_neg h2, if_neg h3]
    · simp only [if_neg h1, if_neg h2, if_neg h3, if_neg h4, if_neg h5]
      rfl
theorem x_span1 {σ : bx_St} {V : Nat → Nat → Int} {tc : Bool} {ax : Nat} (h : XV σ V) (hk : σ.1 (8 + 5 * ax) 5 = bI tc) (hr : VR V) {b : Nat} (hb : b < 12) (ha : ax < 3) {y z : Int} (hy : -999 ≤ y ∧ y ≤ 999) (hz : -999 ≤ z ∧ z ≤ 999) : mX1_spanMeets (8 + 5 * ax) (nI b) (iv y) (iv z) σ = some (bI (decide (V ax (2 * b) < z + (if tc then 1 else 0)) && decide (y < V ax (2 * b + 1) + (if tc then 1 else 0)))) := by
  have r1 := hr ax ha (2 * b) (by omega)
  have r2 := hr ax ha (2 * b + 1) (by omega)
  simp only [mX1_spanMeets, hk, if_pos (show bx_ok (nI b) 12 from ok_nI hb (by decide)), cl_nI (show b < 2 ^ 31 by omega), (h ax ha b hb).1, (h ax ha b hb).2]
  cases tc with
  | false =>
    rw [if_pos (by rfl)]
    simp only [iv_le (show -2147483648 ≤ z ∧ z < 2147483648 by omega) (show -2147483648 ≤ V ax (2 * b) ∧ V ax (2 * b) < 2147483648 by omega), iv_le (show -2147483648 ≤ V ax (2 * b + 1) ∧ V ax (2 * b + 1) < 2147483648 by omega) (show -2147483648 ≤ y ∧ y < 2147483648 by omega)]
    by_cases e1 : z ≤ V ax (2 * b)
    · rw [if_pos e1, decide_eq_false (by simp; omega)]; rfl
    · rw [if_neg e1, decide_eq_true (by simp; omega)]
      by_cases e2 : V ax (2 * b + 1) ≤ y
      · rw [if_pos e2, decide_eq_false (by simp; omega)]; rfl
      · rw [if_neg e2, decide_eq_true (by simp; omega)]; rfl
  | true =>
    rw [if_neg (by decide)]
    simp only [iv_lt (show -2147483648 ≤ z ∧ z < 2147483648 by omega) (show -2147483648 ≤ V ax (2 * b) ∧ V ax (2 * b) < 2147483648 by omega), iv_lt (show -2147483648 ≤ V ax (2 * b + 1) ∧ V ax (2 * b + 1) < 2147483648 by omega) (show -2147483648 ≤ y ∧ y < 2147483648 by omega)]
    by_cases e1 : z < V ax (2 * b)
    · rw [if_pos e1, decide_eq_false (by simp; omega)]; rfl
    · rw [if_neg e1, decide_eq_true (by simp; omega)]
      by_cases e2 : V ax (2 * b + 1) < y
      · rw [if_pos e2, decide_eq_false (by simp; omega)]; rfl
      · rw [if_neg e2, decide_eq_true (by simp; omega)]; rfl
theorem x_span {σ : bx_St} {V : Nat → Nat → Int} {tc : Bool} (h : XV σ V) (hk : XK σ tc) (hr : VR V) {b ax : Nat} (hb : b < 12) (ha : ax < 3) {y z : Int} (hy : -999 ≤ y ∧ y ≤ 999) (hz : -999 ≤ z ∧ z ≤ 999) : mX1_spanMeets (8 + 5 * ax) (nI b) (iv y) (iv z) σ = some (bI (decide (V ax (2 * b) < z + (if tc then 1 else 0)) && decide (y < V ax (2 * b + 1) + (if tc then 1 else 0)))) := x_span1 h (hk ax ha) hr hb ha hy hz
theorem iv_add (y z : Int) : iv y + iv z = iv (y + z) := (Int32.ofInt_add y z).symm
theorem iv_tc (tc : Bool) : (if tc then (1 : Int32) else 0) = iv (if tc then 1 else 0) := by cases tc <;> decide
theorem m_probed {τ : bx_St} {V : Nat → Nat → Int} {T : Nat → Bool} {tc : Bool} (h : MV τ V) (hb0 : MB τ T tc) (hr : VR V) {b ax : Nat} (hb : b < 12) (ha : ax < 3) {y z : Int} (hy : -999 ≤ y ∧ y ≤ 999) (hz : -999 ≤ z ∧ z ≤ 999) : mX4_probed (nI b) (nI ax) (iv y) (iv z) τ = some (bI (decide (V ax (2 * b) < z + (if tc then 1 else 0)) && decide (y < V ax (2 * b + 1) + (if tc then 1 else 0)))) := by
  have r1 := hr ax ha (2 * b) (by omega)
  have r2 := hr ax ha (2 * b + 1) (by omega)
  have e0 : mX4_probed (nI b) (nI ax) (iv y) (iv z) τ = mX4_probed_12 (nI b) (nI ax) (iv y) (iv z) (iv (if tc then 1 else 0)) τ := by
    rw [mX4_probed, hb0.2]
    cases tc
    · rw [if_pos (by rfl)]; rfl
    · rw [if_neg (by decide)]; rfl
  have ht : (0 : Int) ≤ (if tc then 1 else 0) ∧ (if tc then 1 else 0 : Int) ≤ 1 := by cases tc <;> decide
  generalize (if tc then (1 : Int) else 0) = t at *
  rw [e0, mX4_probed_12, m_highOf h hb ha, m_lowOf h hb ha, Option.bind_some, Option.bind_some, iv_add, iv_add]
  simp only [iv_le (show -2147483648 ≤ V ax (2 * b + 1) + t ∧ V ax (2 * b + 1) + t < 2147483648 by omega) (show -2147483648 ≤ y ∧ y < 2147483648 by omega), iv_le (show -2147483648 ≤ z + t ∧ z + t < 2147483648 by omega) (show -2147483648 ≤ V ax (2 * b) ∧ V ax (2 * b) < 2147483648 by omega)]
  by_cases e1 : V ax (2 * b + 1) + t ≤ y
  · rw [if_pos e1, decide_eq_false (by omega : ¬ y < V ax (2 * b + 1) + t), Bool.and_false]; rfl
  · rw [if_neg e1, decide_eq_true (by omega : y < V ax (2 * b + 1) + t), Bool.and_true]
    by_cases e2 : z + t ≤ V ax (2 * b)
    · rw [if_pos e2, decide_eq_false (by omega)]; rfl
    · rw [if_neg e2, decide_eq_true (by omega)]; rfl
/-- whether a box's span on an axis meets another one -/
def sp (V : Nat → Nat → Int) (tc : Bool) (ax b : Nat) (y z : Int) : Bool := decide (V ax (2 * b) < z + (if tc then 1 else 0)) && decide (y < V ax (2 * b + 1) + (if tc then 1 else 0))
theorem probe_loop {σ τ : bx_St} {V : Nat → Nat → Int} {T : Nat → Bool} {tc : Bool} (hx : XV σ V) (hk : XK σ tc) (hB : XB σ T tc) (hm : MV τ V) (hMB : MB τ T tc) (hr : VR V) {y0 z0 y1 z1 y2 z2 : Int} (a0 : -999 ≤ y0 ∧ y0 < z0 ∧ z0 ≤ 999) (a1 : -999 ≤ y1 ∧ y1 < z1 ∧ z1 ≤ 999) (a2 : -999 ≤ y2 ∧ y2 < z2 ∧ z2 ≤ 999) : ∀ (k n i : Nat) (r : Int32), i + k = 12 → k < n → ∃ u, mX3_probe_37 n (iv y0) (iv z0) (iv y1) (iv z1) (iv y2) (iv z2) r (nI i) σ = some u ∧ mX4_probe_37 n (iv y0) (iv z0) (iv y1) (iv z1) (iv y2) (iv z2) r (nI i) τ = some u := by
  intro k
  induction k with
  | zero =>
    intro n i r hi hn
    obtain ⟨n, rfl⟩ : ∃ m, n = m + 1 := ⟨n - 1, by omega⟩
    have : i = 12 := by omega
    subst this
    exact ⟨r, by rw [mX3_probe_37, if_pos (by decide)], by rw [mX4_probe_37, if_pos (by decide)]⟩
  | succ k ih =>
    intro n i r hi hn
    obtain ⟨n, rfl⟩ : ∃ m, n = m + 1 := ⟨n - 1, by omega⟩
    have s0 := x_span hx hk hr (b := i) (ax := 0) (by omega) (by omega) (y := y0) (z := z0) (by omega) (by omega)
    have s1 := x_span hx hk hr (b := i) (ax := 1) (by omega) (by omega) (y := y1) (z := z1) (by omega) (by omega)
    have s2 := x_span hx hk hr (b := i) (ax := 2) (by omega) (by omega) (y := y2) (z := z2) (by omega) (by omega)
    have t0 := m_probed hm hMB hr (b := i) (ax := 0) (by omega) (by omega) (y := y0) (z := z0) (by omega) (by omega)
    have t1 := m_probed hm hMB hr (b := i) (ax := 1) (by omega) (by omega) (y := y1) (z := z1) (by omega) (by omega)
    have t2 := m_probed hm hMB hr (b := i) (ax := 2) (by omega) (by omega) (y := y2) (z := z2) (by omega) (by omega)
    rw [mX3_probe_37, mX4_probe_37, if_neg (n12 (by omega)), if_neg (n12 (by omega)), there_b hB (by omega), hMB.1, has_bm T (by omega)]
    cases hT : T i with
    | false =>
      rw [if_pos (by rfl), if_pos (by rfl), mX3_probe_108, mX4_probe_96, mX4_probe_97, if_pos rfl, mX4_probe_114, bz_or, nI_1]
      exact ih n (i + 1) r (by omega) (by omega)
    | true =>
      rw [if_neg (by decide), if_neg (by decide)]
      rw [show mX1_spanMeets 8 (nI i) (iv y0) (iv z0) σ = _ from s0, show mX1_spanMeets 13 (nI i) (iv y1) (iv z1) σ = _ from s1, show mX1_spanMeets 18 (nI i) (iv y2) (iv z2) σ = _ from s2, show mX4_probed (nI i) 0 (iv y0) (iv z0) τ = _ from t0, show mX4_probed (nI i) 1 (iv y1) (iv z1) τ = _ from t1, show mX4_probed (nI i) 2 (iv y2) (iv z2) τ = _ from t2]
      simp only [Option.bind_some]
      generalize (decide (V 0 (2 * i) < z0 + (if tc then 1 else 0)) && decide (y0 < V 0 (2 * i + 1) + (if tc then 1 else 0))) = p0
      generalize (decide (V 1 (2 * i) < z1 + (if tc then 1 else 0)) && decide (y1 < V 1 (2 * i + 1) + (if tc then 1 else 0))) = p1
      generalize (decide (V 2 (2 * i) < z2 + (if tc then 1 else 0)) && decide (y2 < V 2 (2 * i + 1) + (if tc then 1 else 0))) = p2
      have hno : ∃ u, mX3_probe_108 (mX3_probe_37 n) (iv y0) (iv z0) (iv y1) (iv z1) (iv y2) (iv z2) r (nI i) σ = some u ∧ mX4_probe_96 (mX4_probe_37 n) (iv y0) (iv z0) (iv y1) (iv z1) (iv y2) (iv z2) r (nI i) τ = some u := by
        rw [mX3_probe_108, mX4_probe_96, mX4_probe_97, if_pos rfl, mX4_probe_114, bz_or, nI_1]
        exact ih n (i + 1) r (by omega) (by omega)
      have hyes : ∃ u, mX3_probe_108 (mX3_probe_37 n) (iv y0) (iv z0) (iv y1) (iv z1) (iv y2) (iv z2) (r ||| mX3_bit (nI i)) (nI i) σ = some u ∧ mX4_probe_97 (mX4_probe_37 n) (iv y0) (iv z0) (iv y1) (iv z1) (iv y2) (iv z2) r (nI i) 1 τ = some u := by
        rw [mX3_probe_108, mX4_probe_97, if_neg one_ne0, mX4_probe_114, nI_1]
        exact ih n (i + 1) _ (by omega) (by omega)
      cases p0 <;> cases p1 <;> cases p2 <;> first | exact hyes | exact hno
theorem P_probe (σ τ : bx_St) (v1 v2 v3 v4 v5 v6 : Int32) (h : bx_R σ τ) : ∃ u w, mX3_probe v1 v2 v3 v4 v5 v6 σ = some u ∧ mX4_probe v1 v2 v3 v4 v5 v6 τ = some w ∧ u = w ∧ bx_R σ τ := by
  have hh := h
  obtain ⟨⟨T, tc, V, F, u, M, ⟨x1, x2, x3, x4, x5, x6⟩, ⟨m1, m2, m3, m4⟩, ⟨i1, i2, i3, i4, i5⟩⟩, -, -⟩ := hh
  rcases span_eq v1 v2 with ⟨y0, z0, rfl, rfl, b1, b2, b3, e1, f1⟩ | ⟨e1, f1⟩
  · rcases span_eq v3 v4 with ⟨y1, z1, rfl, rfl, c1, c2, c3, e2, f2⟩ | ⟨e2, f2⟩
    · rcases span_eq v5 v6 with ⟨y2, z2, rfl, rfl, d1, d2, d3, e3, f3⟩ | ⟨e3, f3⟩
      · obtain ⟨u, g1, g2⟩ := probe_loop x3 x2 x1 m2 m1 i1 ⟨b1, b2, b3⟩ ⟨c1, c2, c3⟩ ⟨d1, d2, d3⟩ 12 5000 0 0 rfl (by omega)
        refine ⟨u, u, ?_, ?_, rfl, h⟩
        · rw [mX3_probe, e1, if_neg one_ne0, e2, if_neg one_ne0, e3, if_neg one_ne0]; exact g1
        · rw [mX4_probe, f1, if_neg one_ne0, f2, if_neg one_ne0, f3, if_neg one_ne0]; exact g2
      · exact ⟨-10003, -10003, by rw [mX3_probe, e1, if_neg one_ne0, e2, if_neg one_ne0, e3, if_pos rfl], by rw [mX4_probe, f1, if_neg one_ne0, f2, if_neg one_ne0, f3, if_pos rfl], rfl, h⟩
    · exact ⟨-10003, -10003, by rw [mX3_probe, e1, if_neg one_ne0, e2, if_pos rfl], by rw [mX4_probe, f1, if_neg one_ne0, f2, if_pos rfl], rfl, h⟩
  · exact ⟨-10003, -10003, by rw [mX3_probe, e1, if_pos rfl], by rw [mX4_probe, f1, if_pos rfl], rfl, h⟩
