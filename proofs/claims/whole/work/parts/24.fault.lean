/-! the page is read -/
def RD (σ τ : bx_St) (k f v : Nat) (b : Bool) : Prop := σ.1 2 3 = nI k ∧ τ.1 0 19 = nI k ∧ σ.1 2 4 = nI f ∧ σ.1 2 5 = nI v ∧ σ.1 2 6 = bI b ∧ τ.1 0 22 = bI b ∧ τ.1 0 21 = (if f = 0 then (-10001 : Int32) else nI v) ∧ v ≤ 999 ∧ (f = 0 → v = 0) ∧ ∀ j, j < k → ∃ z : Int, -999 ≤ z ∧ z ≤ 999 ∧ σ.1 4 j = iv z ∧ τ.1 8 j = iv z
def SK (σ σ' : bx_St) : Prop := (∀ k i, k ≠ 2 → k ≠ 4 → σ'.1 k i = σ.1 k i) ∧ σ'.1 2 1 = σ.1 2 1
def TK (τ τ' : bx_St) : Prop := (∀ k i, k ≠ 0 → k ≠ 8 → τ'.1 k i = τ.1 k i) ∧ (∀ i, i ≠ 19 → i ≠ 21 → i ≠ 22 → τ'.1 0 i = τ.1 0 i)
theorem SK.refl (σ : bx_St) : SK σ σ := ⟨fun _ _ _ _ => rfl, rfl⟩
theorem TK.refl (σ : bx_St) : TK σ σ := ⟨fun _ _ _ _ => rfl, fun _ _ _ _ => rfl⟩
theorem SK.trans {a b c : bx_St} (h : SK a b) (h2 : SK b c) : SK a c := ⟨fun k i q r => (h2.1 k i q r).trans (h.1 k i q r), h2.2.trans h.2⟩
theorem TK.trans {a b c : bx_St} (h : TK a b) (h2 : TK b c) : TK a c := ⟨fun k i q r => (h2.1 k i q r).trans (h.1 k i q r), fun i p q r => (h2.2 i p q r).trans (h.2 i p q r)⟩
theorem bx_R.read {σ τ σ' τ' : bx_St} (h : bx_R σ τ) (hs : SK σ σ') (ht : TK τ τ') : bx_R σ' τ' := by
  obtain ⟨⟨T, tc, V, F, u, M, hA⟩, hG, hP⟩ := h
  refine ⟨⟨T, tc, V, F, u, M, hA.keep ?_ ?_ ?_⟩, hG.keep ?_ ?_ ?_, hP.keep hs.2 (fun i => hs.1 3 i (by omega) (by omega)) (ht.2 0 (by omega) (by omega) (by omega)) (fun i => ht.1 1 i (by omega) (by omega))⟩
  · intro k hk i; exact hs.1 k i (by omega) (by omega)
  · intro i hi; exact ht.2 i (by omega) (by omega) (by omega)
  · intro k hk i; exact ht.1 k i (by omega) (by omega)
  · intro k hk hk2 i; exact hs.1 k i (by omega) (by omega)
  · intro i hi; exact ht.2 i (by omega) (by omega) (by omega)
  · intro k hk hk2 i; exact ht.1 k i (by omega) (by omega)
theorem le0_iff {f : Nat} (h : f < 2 ^ 31) : (nI f ≤ 0) = (f = 0) := propext ⟨fun q => by
  have := (fa_le _ _).mp q
  rw [nI_toInt h, show (0 : Int32).toInt = 0 by decide] at this
  omega, fun q => by rw [q]; decide⟩
theorem eqn_iff {f n : Nat} (h : f < 2 ^ 31) (hn : n < 2 ^ 31) : (nI f = nI n) = (f = n) := propext (nI_eq h hn)
theorem eq0_iff {f : Nat} (h : f < 2 ^ 31) : (nI f = 0) = (f = 0) := eqn_iff (n := 0) h (by decide)
theorem len_iff {f n : Nat} (h : f < 2 ^ 31) (hn : n < 2 ^ 31) : (nI f ≤ nI n) = (f ≤ n) := propext (by rw [fa_le, nI_toInt h, nI_toInt hn]; omega)
theorem ltn_iff {f n : Nat} (h : f < 2 ^ 31) (hn : n < 2 ^ 31) : (nI f < nI n) = (f < n) := propext (by rw [fa_lt, nI_toInt h, nI_toInt hn]; omega)
theorem bz_if (b : Bool) : (bI b = 0) = (b = false) := propext (bI_z b)
theorem ten_iv (v d : Nat) : ((10 : Int32) * nI v) + nI d = nI (10 * v + d) := by
  show nI 10 * nI v + nI d = _
  rw [pk_mul, nI_add]
/-- a figure is taken -/
def tf (f v : Nat) (b : Bool) (d : Nat) : Bool := !(decide (0 < f) && decide (v = 0)) && !(b && decide (f = 0) && decide (d = 0)) && decide (10 * v + d ≤ 999)
theorem x_figure {σ τ : bx_St} {k f v : Nat} {b : Bool} (h : RD σ τ k f v b) (hf : f < 1000) {d : Nat} (hd : d ≤ 9) : mX2_takesFigure (nI d) σ = some (bI (tf f v b d), if tf f v b d then bx_up (bx_up σ 2 5 (nI (10 * v + d))) 2 4 (nI (f + 1)) else σ) := by
  obtain ⟨h1, h2, h3, h4, h5, h6, h7, h8, h9, h10⟩ := h
  have c3 : (nI (10 * v + d) ≤ (999 : Int32)) = (10 * v + d ≤ 999) := len_iff (n := 999) (by omega) (by decide)
  have e : ∀ x : Int32, (bx_up σ 2 5 x).1 2 4 = nI f := by intro x; rw [up_get, if_pos rfl, if_neg (by decide), h3]
  simp only [mX2_takesFigure, mX2_takesFigure_18, mX2_takesFigure_19, mX2_takesFigure_42, mX2_takesFigure_43, h3, h4, h5, ten_iv, bx_let, e, nI_1, le0_iff (show f < 2 ^ 31 by omega), eq0_iff (show f < 2 ^ 31 by omega), eq0_iff (show v < 2 ^ 31 by omega), eq0_iff (show d < 2 ^ 31 by omega), bz_if, c3]
  have o : ¬ (1 : Int32) = 0 := by decide
  have fz : ∀ m, m + 1 = f → 0 < f := fun m hm => by omega
  by_cases q1 : f = 0
  · have := h9 q1
    have q5 : d ≤ 999 := by omega
    cases b <;> by_cases q3 : d = 0 <;> simp [tf, q1, q3, q5, this, bI]
  · have q1' : 0 < f := by omega
    cases b <;> by_cases q2 : v = 0 <;> by_cases q4 : 10 * v + d ≤ 999 <;> simp [tf, q1, q1', q2, q4, bI] <;> omega
theorem m_figure {σ τ : bx_St} {k f v : Nat} {b : Bool} (h : RD σ τ k f v b) (hf : f < 1000) {d : Nat} (hd : d ≤ 9) : mX4_takesFigure (nI d) τ = some (bI (tf f v b d), if tf f v b d then bx_up τ 0 21 (nI (10 * v + d)) else bx_up τ 0 21 (τ.1 0 21)) := by
  obtain ⟨h1, h2, h3, h4, h5, h6, h7, h8, h9, h10⟩ := h
  have c3 : ∀ x : Nat, x < 2 ^ 31 → ((999 : Int32) < nI x) = (999 < x) := fun x hx => ltn_iff (f := 999) (by decide) hx
  have c4 : ∀ x : Nat, x < 2 ^ 31 → ((0 : Int32) < nI x) = (0 < x) := fun x hx => ltn_iff (f := 0) (by decide) hx
  have b1 : bx_bo (1 : Int32) := bI_bo true
  have b0 : bx_bo (0 : Int32) := bI_bo false
  have n0 : ¬ ((-10001 : Int32) = 0) := by decide
  by_cases q1 : f = 0
  · have hv := h9 q1
    have t : τ.1 0 21 = -10001 := by rw [h7, if_pos q1]
    simp only [mX4_takesFigure, t, if_true, mX4_takesFigure_23, mX4_takesFigure_49, mX4_takesFigure_53, mX4_takesFigure_54, if_pos b0, if_pos b1, if_neg n0, c3 d (by omega), c4 d (by omega), h6, bz_if]
    have q5 : d ≤ 999 := by omega
    have q6 : ¬ 999 < d := by omega
    have q7 : ¬ d = 0 → 0 < d := by omega
    cases b <;> by_cases q3 : d = 0 <;> simp [tf, q1, q3, q5, q6, q7, hv, bI]
  · have t : τ.1 0 21 = nI v := by rw [h7, if_neg q1]
    have t2 : ¬ (nI v = (-10001 : Int32)) := fun e => by
      have := (fa_eq _ _).mp e
      rw [nI_toInt (by omega), show (-10001 : Int32).toInt = -10001 by decide] at this
      omega
    have q1' : 0 < f := by omega
    simp only [mX4_takesFigure, t, if_neg t2, ten_iv, mX4_takesFigure_23, mX4_takesFigure_49, mX4_takesFigure_53, mX4_takesFigure_54, if_pos b0, if_pos b1, c3 (10 * v + d) (by omega), c4 (10 * v + d) (by omega), h6, bz_if, eq0_iff (show v < 2 ^ 31 by omega)]
    by_cases q2 : v = 0
    · cases b <;> simp [tf, q1, q1', q2, bI]
    · have q6 : 0 < 10 * v + d := by omega
      by_cases q4 : 10 * v + d ≤ 999
      · have q5 : ¬ 999 < 10 * v + d := by omega
        cases b <;> simp [tf, q1, q1', q2, q4, q5, q6, bI]
      · have q5 : 999 < 10 * v + d := by omega
        cases b <;> simp [tf, q1, q1', q2, q4, q5, q6, bI]
/-- a number is kept -/
theorem nI_iv (v : Nat) : nI v = iv (v : Int) := rfl
theorem iv_neg (z : Int) : -(iv z) = iv (-z) := (Int32.ofInt_neg z).symm
def nz (v : Nat) (b : Bool) : Int := if b then -(v : Int) else v
theorem x_endNumber {σ τ : bx_St} {k f v : Nat} {b : Bool} (h : RD σ τ k f v b) (hk : k < 24) : ∃ σ', mX2_endNumber σ = some σ' ∧ SK σ σ' ∧ σ'.1 2 3 = nI (k + 1) ∧ σ'.1 2 4 = nI 0 ∧ σ'.1 2 5 = nI 0 ∧ σ'.1 2 6 = bI false ∧ (∀ j, j < k → σ'.1 4 j = σ.1 4 j) ∧ σ'.1 4 k = iv (nz v b) := by
  obtain ⟨h1, h2, h3, h4, h5, h6, h7, h8, h9, h10⟩ := h
  have e : ∀ x, x = iv (nz v b) → ∃ σ', mX2_endNumber_36 x (nI k) σ = some σ' ∧ SK σ σ' ∧ σ'.1 2 3 = nI (k + 1) ∧ σ'.1 2 4 = nI 0 ∧ σ'.1 2 5 = nI 0 ∧ σ'.1 2 6 = bI false ∧ (∀ j, j < k → σ'.1 4 j = σ.1 4 j) ∧ σ'.1 4 k = iv (nz v b) := by
    intro x hx
    refine ⟨_, by rw [mX2_endNumber_36, if_pos (ok_nI hk (by decide)), cl_nI (by omega), bx_let, mX2_endNumber_47], ⟨?_, ?_⟩, ?_, rfl, rfl, rfl, ?_, ?_⟩
    · intro k' i q1 q2
      simp only [mX2_beginNumber, bx_let, up_get, if_neg q1, if_neg q2]
    · simp [mX2_beginNumber, bx_let, up_get]
    · simp [mX2_beginNumber, bx_let, up_get, h1, nI_1]
    · intro j hj
      have : ¬ j = k := by omega
      simp [mX2_beginNumber, bx_let, up_get, this]
    · simp [mX2_beginNumber, bx_let, up_get, hx]
  rw [mX2_endNumber, h1, if_neg (n24 hk), h5, h4]
  cases b with
  | false => rw [if_pos (by rfl)]; exact e _ rfl
  | true => rw [if_neg (by decide)]; exact e _ (iv_neg (v : Int))
theorem m_keepNumber {σ τ : bx_St} {k f v : Nat} {b : Bool} (h : RD σ τ k f v b) (hk : k < 24) (hf : 0 < f) : ∃ τ', mX4_keepNumber τ = some τ' ∧ TK τ τ' ∧ τ'.1 0 19 = nI (k + 1) ∧ τ'.1 0 21 = (-10001 : Int32) ∧ τ'.1 0 22 = bI false ∧ (∀ j, j < k → τ'.1 8 j = τ.1 8 j) ∧ τ'.1 8 k = iv (nz v b) := by
  obtain ⟨h1, h2, h3, h4, h5, h6, h7, h8, h9, h10⟩ := h
  have t : τ.1 0 21 = nI v := by rw [h7, if_neg (by omega)]
  have e : ∀ x, x = iv (nz v b) → ∃ τ', mX4_keepNumber_27 x (nI k) τ = some τ' ∧ TK τ τ' ∧ τ'.1 0 19 = nI (k + 1) ∧ τ'.1 0 21 = (-10001 : Int32) ∧ τ'.1 0 22 = bI false ∧ (∀ j, j < k → τ'.1 8 j = τ.1 8 j) ∧ τ'.1 8 k = iv (nz v b) := by
    intro x hx
    refine ⟨_, by rw [mX4_keepNumber_27, if_pos (ok_nI hk (by decide)), cl_nI (by omega), bx_let, bx_let], ⟨?_, ?_⟩, ?_, rfl, rfl, ?_, ?_⟩
    · intro k' i q1 q2
      simp only [up_get, if_neg q1, if_neg q2]
    · intro i q1 q2 q3
      simp [up_get, q1, q2, q3]
    · simp [up_get, h2, nI_1]
    · intro j hj
      have : ¬ j = k := by omega
      simp [up_get, this]
    · simp [up_get, hx]
  rw [mX4_keepNumber, h2, h6, t]
  cases b with
  | false => rw [if_pos (by rfl)]; exact e _ rfl
  | true => rw [if_neg (by decide)]; exact e _ (iv_neg (v : Int))
theorem RD_next {σ τ : bx_St} {k f v : Nat} {b : Bool} (h : RD σ τ k f v b) (hk : k < 24) (hf : 0 < f) : ∃ σ' τ', mX2_endNumber σ = some σ' ∧ mX4_keepNumber τ = some τ' ∧ SK σ σ' ∧ TK τ τ' ∧ RD σ' τ' (k + 1) 0 0 false := by
  obtain ⟨σ', e1, s1, s2, s3, s4, s5, s6, s7⟩ := x_endNumber h hk
  obtain ⟨τ', e2, t1, t2, t3, t4, t5, t6⟩ := m_keepNumber h hk hf
  obtain ⟨h1, h2, h3, h4, h5, h6, h7, h8, h9, h10⟩ := h
  refine ⟨σ', τ', e1, e2, s1, t1, s2, t2, s3, s4, s5, t4, t3, by omega, fun _ => rfl, fun j hj => ?_⟩
  by_cases q : j = k
  · subst q
    refine ⟨nz v b, ?_, ?_, s7, t6⟩ <;> cases b <;> simp [nz] <;> omega
  · obtain ⟨z, z1, z2, z3, z4⟩ := h10 j (by omega)
    exact ⟨z, z1, z2, by rw [s6 j (by omega), z3], by rw [t5 j (by omega), z4]⟩
/-- the mark that is due -/
def mk (c : Int32) (k : Nat) : Bool := if k % 2 = 0 then decide (c = 58) else if (k + 1) % 6 = 0 then (decide (c = 59) && decide (k < 23)) else decide (c = 44)
theorem x_markDue {σ τ : bx_St} {k f v : Nat} {b : Bool} (h : RD σ τ k f v b) (hk : k < 24) {c : Int32} (hc : ¬ c = 0) : (c = mX2_markDue σ) ↔ mk c k = true := by
  have r2 : bx_rem (nI k) (2 : Int32) = nI (k % 2) := m_rem2 (by omega)
  have r6 : bx_rem (nI (k + 1)) (6 : Int32) = nI ((k + 1) % 6) := pk_rem (d := 6) (by omega) (by omega) (by decide)
  have c24 : ((24 : Int32) ≤ nI (k + 1)) = (24 ≤ k + 1) := len_iff (f := 24) (by decide) (by omega)
  simp only [mX2_markDue, h.1, nI_1, r2, r6, eq0_iff (show k % 2 < 2 ^ 31 by omega), eq0_iff (show (k + 1) % 6 < 2 ^ 31 by omega), c24, mk]
  by_cases q1 : k % 2 = 0
  · rw [if_pos q1, if_pos q1]; simp
  · rw [if_neg q1, if_neg q1]
    by_cases q2 : (k + 1) % 6 = 0
    · rw [if_pos q2, if_pos q2]
      by_cases q3 : 24 ≤ k + 1
      · rw [if_pos q3, decide_eq_false (by omega : ¬ k < 23)]; simp [hc]
      · rw [if_neg q3, decide_eq_true (by omega : k < 23)]; simp
    · rw [if_neg q2, if_neg q2]; simp
theorem m_mark {σ τ : bx_St} {k f v : Nat} {b : Bool} (h : RD σ τ k f v b) (hk : k < 24) (c : Int32) : mX4_takes_50 c τ = mX4_takes_117 (bI (mk c k)) τ := by
  have r6 : bx_rem (nI k) (6 : Int32) = nI (k % 6) := pk_rem (d := 6) (by omega) (by omega) (by decide)
  have r2 : bx_rem (nI (k % 6)) (2 : Int32) = nI (k % 6 % 2) := m_rem2 (by omega)
  have c5 : ((5 : Int32) ≤ nI (k % 6)) = (5 ≤ k % 6) := len_iff (f := 5) (by decide) (by omega)
  have c23 : ((23 : Int32) ≤ nI k) = (23 ≤ k) := len_iff (f := 23) (by decide) (by omega)
  simp only [mX4_takes_50, h.2.1, r6, r2, eq0_iff (show k % 6 % 2 < 2 ^ 31 by omega), c5, c23, mX4_takes_116, mk]
  by_cases q1 : k % 2 = 0
  · rw [if_pos q1, if_pos (by omega)]
    by_cases q3 : c = 58
    · rw [if_pos q3, decide_eq_true q3]; rfl
    · rw [if_neg q3, decide_eq_false q3]; rfl
  · rw [if_neg q1, if_neg (by omega)]
    by_cases q2 : (k + 1) % 6 = 0
    · rw [if_pos q2, if_pos (by omega)]
      by_cases q3 : c = 59
      · rw [if_pos q3, decide_eq_true q3]
        by_cases q4 : 23 ≤ k
        · rw [if_pos q4, decide_eq_false (by omega : ¬ k < 23)]; rfl
        · rw [if_neg q4, decide_eq_true (by omega : k < 23)]; rfl
      · rw [if_neg q3, decide_eq_false q3]; rfl
    · rw [if_neg q2, if_neg (by omega)]
      by_cases q3 : c = 44
      · rw [if_pos q3, decide_eq_true q3]; rfl
      · rw [if_neg q3, decide_eq_false q3]; rfl
theorem mk_lt {c : Int32} {k : Nat} (h : mk c k = true) (hk : k < 24) : k + 1 < 24 := by
  unfold mk at h
  by_cases q1 : k % 2 = 0
  · omega
  · rw [if_neg q1] at h
    by_cases q2 : (k + 1) % 6 = 0
    · rw [if_pos q2] at h
      have := of_decide_eq_true (Bool.and_eq_true_iff.mp h).2
      omega
    · omega
theorem mk_45 (k : Nat) : mk 45 k = false := by
  unfold mk
  split
  · decide
  · split
    · rw [show decide ((45 : Int32) = 59) = false by decide, Bool.false_and]
    · decide
theorem RD_fig {σ τ : bx_St} {k f v : Nat} {b : Bool} (h : RD σ τ k f v b) {d : Nat} (hd : 10 * v + d ≤ 999) : RD (bx_up (bx_up σ 2 5 (nI (10 * v + d))) 2 4 (nI (f + 1))) (bx_up τ 0 21 (nI (10 * v + d))) k (f + 1) (10 * v + d) b := by
  obtain ⟨h1, h2, h3, h4, h5, h6, h7, h8, h9, h10⟩ := h
  refine ⟨?_, ?_, ?_, ?_, ?_, ?_, ?_, hd, fun q => absurd q (by omega), fun j hj => ?_⟩
  · simp [up_get, h1]
  · simp [up_get, h2]
  · simp [up_get]
  · simp [up_get]
  · simp [up_get, h5]
  · simp [up_get, h6]
  · simp [up_get]
  · obtain ⟨z, z1, z2, z3, z4⟩ := h10 j hj
    exact ⟨z, z1, z2, by simp [up_get, z3], by simp [up_get, z4]⟩
theorem RD_same {σ τ τ' : bx_St} {k f v : Nat} {b : Bool} (h : RD σ τ k f v b) (e : ∀ k i, τ'.1 k i = τ.1 k i) : RD σ τ' k f v b := by
  obtain ⟨h1, h2, h3, h4, h5, h6, h7, h8, h9, h10⟩ := h
  exact ⟨h1, by rw [e, h2], h3, h4, h5, by rw [e, h6], by rw [e, h7], h8, h9, fun j hj => by rw [e]; exact h10 j hj⟩
theorem up_self (τ : bx_St) (k i : Nat) : ∀ k' j, (bx_up τ k i (τ.1 k i)).1 k' j = τ.1 k' j := by
  intro k' j
  rw [up_get]
  by_cases q : k' = k
  · rw [if_pos q]
    by_cases q2 : j = i
    · rw [if_pos q2, q, q2]
    · rw [if_neg q2, q]
  · rw [if_neg q]
theorem takes_eq {σ τ : bx_St} {k f v : Nat} {b : Bool} (h : RD σ τ k f v b) (hk : k < 24) (hf : f < 1000) {c : Int32} (hc : ¬ c = 0) : ∃ (r : Bool) (σ' τ' : bx_St), mX2_takes c σ = some (bI r, σ') ∧ mX4_takes c τ = some (bI r, τ') ∧ SK σ σ' ∧ TK τ τ' ∧ ∃ k' f' v' b', RD σ' τ' k' f' v' b' ∧ k' < 24 ∧ f' ≤ f + 1 := by
  have hh := h
  obtain ⟨h1, h2, h3, h4, h5, h6, h7, h8, h9, h10⟩ := h
  have t21 : (τ.1 0 21 = (-10001 : Int32)) = (f = 0) := by
    by_cases q : f = 0
    · rw [h7, if_pos q]; simp [q]
    · rw [h7, if_neg q]
      refine propext ⟨fun e => ?_, fun e => absurd e q⟩
      have := (fa_eq _ _).mp e
      rw [nI_toInt (by omega), show (-10001 : Int32).toInt = -10001 by decide] at this
      omega
  have b1 : bx_bo (1 : Int32) := bI_bo true
  have b0 : bx_bo (0 : Int32) := bI_bo false
  by_cases q45 : c = 45
  · subst q45
    have w : mX4_within (45 : Int32) 48 57 = 0 := by decide
    have m50 : mX4_takes_50 45 τ = some (0, τ) := by
      rw [m_mark hh hk, mk_45, mX4_takes_117]
      by_cases q : τ.1 0 21 = -10001
      · rw [if_pos q]
      · rw [if_neg q, if_pos (by rfl)]
    by_cases q : f = 0
    · cases b with
      | false =>
        refine ⟨true, bx_up σ 2 6 1, bx_up τ 0 22 1, ?_, ?_, ⟨?_, ?_⟩, ⟨?_, ?_⟩, k, f, v, true, ⟨?_, ?_, ?_, ?_, ?_, ?_, ?_, h8, h9, ?_⟩, hk, by omega⟩
        · rw [mX2_takes, if_pos rfl, mX2_takesMinus, h5, if_pos (by rfl), h3, if_pos (by rw [q]; decide), Option.bind_some, if_pos b1]; rfl
        · rw [mX4_takes, if_pos w, if_pos rfl, if_pos (by rw [t21]; exact q), if_pos (by rw [h6]; rfl)]; rfl
        · intro k' i q1 q2; rw [up_get, if_neg q1]
        · simp [up_get]
        · intro k' i q1 q2; rw [up_get, if_neg q1]
        · intro i q1 q2 q3; rw [up_get, if_pos rfl, if_neg q3]
        · simp [up_get, h1]
        · simp [up_get, h2]
        · simp [up_get, h3]
        · simp [up_get, h4]
        · simp [up_get]; rfl
        · simp [up_get]; rfl
        · simp [up_get, h7]
        · intro j hj
          obtain ⟨z, z1, z2, z3, z4⟩ := h10 j hj
          exact ⟨z, z1, z2, by simp [up_get, z3], by simp [up_get, z4]⟩
      | true =>
        refine ⟨false, σ, τ, ?_, ?_, SK.refl _, TK.refl _, k, f, v, true, hh, hk, by omega⟩
        · rw [mX2_takes, if_pos rfl, mX2_takesMinus, h5, if_neg (by decide), Option.bind_some, if_pos b0]; rfl
        · rw [mX4_takes, if_pos w, if_pos rfl, if_pos (by rw [t21]; exact q), if_neg (by rw [h6]; decide), m50]; rfl
    · refine ⟨false, σ, τ, ?_, ?_, SK.refl _, TK.refl _, k, f, v, b, hh, hk, by omega⟩
      · rw [mX2_takes, if_pos rfl, mX2_takesMinus, h5, h3]
        have : ¬ nI f ≤ 0 := by rw [le0_iff (by omega)]; exact q
        rw [if_neg this, ite_self, Option.bind_some, if_pos b0]; rfl
      · rw [mX4_takes, if_pos w, if_pos rfl, if_neg (by rw [t21]; exact q), m50]; rfl
  by_cases q1 : c < 48 ∨ 57 < c
  · have w : mX4_within c 48 57 = 0 := within_no q1
    have e32 : mX2_takes c σ = mX2_takes_32 c σ := by
      rw [mX2_takes, if_neg q45]
      by_cases q2 : c < 48
      · rw [if_pos q2]
      · rw [if_neg q2, if_pos (by rcases q1 with q | q; exact absurd q q2; exact q)]
    have e50 : mX4_takes c τ = mX4_takes_117 (bI (mk c k)) τ := by rw [mX4_takes, if_pos w, if_neg q45, m_mark hh hk]
    have no : ¬ (¬ f = 0 ∧ mk c k = true) → ∃ (r : Bool) (σ' τ' : bx_St), mX2_takes c σ = some (bI r, σ') ∧ mX4_takes c τ = some (bI r, τ') ∧ SK σ σ' ∧ TK τ τ' ∧ ∃ k' f' v' b', RD σ' τ' k' f' v' b' ∧ k' < 24 ∧ f' ≤ f + 1 := by
      intro q
      refine ⟨false, σ, τ, ?_, ?_, SK.refl _, TK.refl _, k, f, v, b, hh, hk, by omega⟩
      · rw [e32, mX2_takes_32, mX2_takesMark, h3]
        by_cases q2 : f = 0
        · rw [if_pos (by rw [q2]; rfl), Option.bind_some, if_pos b0]; rfl
        · rw [if_neg (by rw [eq0_iff (by omega)]; exact q2), if_neg (fun e => q ⟨q2, (x_markDue hh hk hc).mp e⟩), Option.bind_some, if_pos b0]; rfl
      · rw [e50, mX4_takes_117]
        by_cases q2 : f = 0
        · rw [if_pos (by rw [t21]; exact q2)]; rfl
        · rw [if_neg (by rw [t21]; exact q2), if_pos]
          · rfl
          · rw [bI_z]
            cases hm : mk c k with
            | false => rfl
            | true => exact absurd ⟨q2, hm⟩ q
    by_cases q : ¬ f = 0 ∧ mk c k = true
    · obtain ⟨σ', τ', e1, e2, s, t, r⟩ := RD_next hh hk (by omega)
      refine ⟨true, σ', τ', ?_, ?_, s, t, k + 1, 0, 0, false, r, mk_lt q.2 hk, by omega⟩
      · rw [e32, mX2_takes_32, mX2_takesMark, h3, if_neg (by rw [eq0_iff (by omega)]; exact q.1), if_pos ((x_markDue hh hk hc).mpr q.2), e1, Option.bind_some, Option.bind_some, if_pos b1]; rfl
      · rw [e50, mX4_takes_117, if_neg (by rw [t21]; exact q.1), if_neg (by rw [q.2]; decide), e2, Option.bind_some]; rfl
    · exact no q
  · have q2 : ¬ c < 48 := fun q => q1 (Or.inl q)
    have q3 : ¬ 57 < c := fun q => q1 (Or.inr q)
    obtain ⟨d, hd, ed⟩ : ∃ d : Nat, d ≤ 9 ∧ c - (48 : Int32) = nI d := by
      rcases cases_n c 57 (by decide) with q | ⟨j, hj, rfl⟩
      · rcases q with q | q
        · exact absurd (by rw [fa_lt] at q ⊢; have : (48 : Int32).toInt = 48 := by decide
                           have : (0 : Int32).toInt = 0 := by decide
                           omega) q2
        · exact absurd q q3
      · have : ¬ j < 48 := fun q => q2 (nI_lt (b := 48) q (by decide))
        refine ⟨j - 48, by omega, ?_⟩
        obtain ⟨d, rfl⟩ : ∃ d, j = 48 + d := ⟨j - 48, by omega⟩
        rw [show 48 + d - 48 = d by omega, ← nI_add]
        show nI 48 + nI d - nI 48 = nI d
        rw [Int32.add_comm, Int32.add_sub_cancel]
    have w : mX4_within c 48 57 = 1 := within_yes q2 q3
    have e1 : mX2_takes c σ = some (bI (tf f v b d), if tf f v b d then bx_up (bx_up σ 2 5 (nI (10 * v + d))) 2 4 (nI (f + 1)) else σ) := by
      rw [mX2_takes, if_neg q45, if_neg q2, if_neg q3, ed, x_figure hh hf hd, Option.bind_some, if_pos (bI_bo _)]
    have e2 : mX4_takes c τ = some (bI (tf f v b d), if tf f v b d then bx_up τ 0 21 (nI (10 * v + d)) else bx_up τ 0 21 (τ.1 0 21)) := by
      rw [mX4_takes, w, if_neg one_ne0, ed, m_figure hh hf hd, Option.bind_some, if_pos (bI_bo _)]
    refine ⟨_, _, _, e1, e2, ?_⟩
    cases ht : tf f v b d with
    | false =>
      rw [if_neg (by decide), if_neg (by decide)]
      exact ⟨SK.refl _, ⟨fun k' i _ _ => up_self τ 0 21 k' i, fun i _ _ _ => up_self τ 0 21 0 i⟩, k, f, v, b, RD_same hh (up_self τ 0 21), hk, by omega⟩
    | true =>
      rw [if_pos rfl, if_pos rfl]
      have hd2 : 10 * v + d ≤ 999 := of_decide_eq_true (Bool.and_eq_true_iff.mp ht).2
      refine ⟨⟨?_, ?_⟩, ⟨?_, ?_⟩, k, f + 1, 10 * v + d, b, RD_fig hh hd2, hk, by omega⟩
      · intro k' i p1 p2; rw [up_get, if_neg p1, up_get, if_neg p1]
      · simp [up_get]
      · intro k' i p1 p2; rw [up_get, if_neg p1]
      · intro i p1 p2 p3; rw [up_get, if_pos rfl, if_neg p2]
theorem read_loop : ∀ (n0 k n i : Nat) (σ τ : bx_St) (kk f v : Nat) (b : Bool), i + k = n0 → k < n → n0 ≤ 60 → σ.1 2 1 = nI n0 → τ.1 0 0 = nI n0 → (∀ i, i < n0 → ¬ σ.1 3 i = 0) → (∀ i, σ.1 3 i = τ.1 1 i) → RD σ τ kk f v b → kk < 24 → f ≤ i → ∃ (j : Nat) (σ' τ' : bx_St), mX2_firstWrong_6 n (nI i) σ = some (nI j, σ') ∧ mX4_read_19 n (nI i) τ = some (nI j, τ') ∧ j ≤ n0 ∧ SK σ σ' ∧ TK τ τ' ∧ ∃ k' f' v' b', RD σ' τ' k' f' v' b' ∧ k' < 24 ∧ f' ≤ 100 := by
  intro n0 k
  induction k with
  | zero =>
    intro n i σ τ kk f v b hi hn h60 e1 e2 e3 e4 hR hk hf
    obtain ⟨n, rfl⟩ : ∃ m, n = m + 1 := ⟨n - 1, by omega⟩
    have : i = n0 := by omega
    subst this
    refine ⟨i, σ, τ, ?_, ?_, by omega, SK.refl _, TK.refl _, kk, f, v, b, hR, hk, by omega⟩
    · rw [mX2_firstWrong_6, e1, if_pos (by rw [fa_le]; omega)]
    · rw [mX4_read_19, e2, if_pos (by rw [fa_le]; omega)]
  | succ k ih =>
    intro n i σ τ kk f v b hi hn h60 e1 e2 e3 e4 hR hk hf
    obtain ⟨n, rfl⟩ : ∃ m, n = m + 1 := ⟨n - 1, by omega⟩
    have hge : ¬ nI n0 ≤ nI i := nI_ge (by omega) (by omega)
    obtain ⟨r, σ', τ', t1, t2, s, t, k', f', v', b', hR', hk', hf'⟩ := takes_eq hR hk (by omega) (c := σ.1 3 i) (e3 i (by omega))
    rw [mX2_firstWrong_6, e1, if_neg hge, if_pos (ok_nI (by omega) (by decide)), cl_nI (by omega), t1, Option.bind_some, mX4_read_19, e2, if_neg hge, if_pos (ok_nI (by omega) (by decide)), cl_nI (by omega), ← e4 i, t2, Option.bind_some]
    cases r with
    | false =>
      rw [if_pos (by rfl), if_pos (by rfl)]
      exact ⟨i, σ', τ', rfl, rfl, by omega, s, t, k', f', v', b', hR', hk', by omega⟩
    | true =>
      have ne1 : ¬ bI true = 0 := by decide
      rw [if_neg (show ¬ (bI true, σ').1 = 0 from ne1), if_neg (show ¬ (bI true, τ').1 = 0 from ne1), nI_1]
      obtain ⟨j, σ2, τ2, g1, g2, g3, g4, g5, g6⟩ := ih n (i + 1) σ' τ' k' f' v' b' (by omega) (by omega) h60 (by rw [s.2, e1]) (by rw [t.2 0 (by omega) (by omega) (by omega), e2]) (fun i hi => by rw [s.1 3 i (by omega) (by omega)]; exact e3 i hi) (fun i => by rw [s.1 3 i (by omega) (by omega), t.1 1 i (by omega) (by omega)]; exact e4 i) hR' hk' (by omega)
      exact ⟨j, σ2, τ2, g1, g2, g3, s.trans g4, t.trans g5, g6⟩
theorem read_eq {σ τ : bx_St} (h : RP σ τ) : ∃ (n0 j : Nat) (σ' τ' : bx_St), mX2_firstWrong σ = some (nI j, σ') ∧ mX4_read τ = some (nI j, τ') ∧ n0 ≤ 60 ∧ j ≤ n0 ∧ σ'.1 2 1 = nI n0 ∧ τ'.1 0 0 = nI n0 ∧ SK σ σ' ∧ TK τ τ' ∧ ∃ k' f' v' b', RD σ' τ' k' f' v' b' ∧ k' < 24 ∧ f' ≤ 100 := by
  obtain ⟨⟨n0, hn, e1, e2⟩, e3⟩ := h
  have s0 : SK σ (mX2_beginReading σ) := by
    refine ⟨fun k i p q => ?_, ?_⟩
    · simp only [mX2_beginReading, mX2_beginNumber, bx_let, up_get, if_neg p]
    · simp [mX2_beginReading, mX2_beginNumber, bx_let, up_get]
  have t0 : TK τ (bx_up (bx_up (bx_up τ 0 19 0) 0 21 (-10001)) 0 22 0) := by
    refine ⟨fun k i p q => ?_, fun i p q r => ?_⟩
    · simp only [up_get, if_neg p]
    · simp [up_get, p, q, r]
  have r0 : RD (mX2_beginReading σ) (bx_up (bx_up (bx_up τ 0 19 0) 0 21 (-10001)) 0 22 0) 0 0 0 false := ⟨rfl, rfl, rfl, rfl, rfl, rfl, rfl, by omega, fun _ => rfl, fun j hj => absurd hj (Nat.not_lt_zero j)⟩
  obtain ⟨j, σ', τ', g1, g2, g3, g4, g5, g6⟩ := read_loop n0 n0 5000 0 _ _ 0 0 0 false (by omega) (by omega) hn.1 (by rw [s0.2, e1]) (by rw [t0.2 0 (by omega) (by omega) (by omega), e2]) (fun i hi => by rw [s0.1 3 i (by omega) (by omega)]; exact hn.2 i hi) (fun i => by rw [s0.1 3 i (by omega) (by omega), t0.1 1 i (by omega) (by omega)]; exact e3 i) r0 (by omega) (by omega)
  have bF : bx_F = 5000 := rfl
  refine ⟨n0, j, σ', τ', by rw [mX2_firstWrong, bF, nI_00]; exact g1, by rw [mX4_read, bx_let, bF]; exact g2, hn.1, g3, by rw [g4.2, s0.2, e1], by rw [g5.2 0 (by omega) (by omega) (by omega), t0.2 0 (by omega) (by omega) (by omega), e2], s0.trans g4, t0.trans g5, g6⟩
theorem P_fault (σ τ : bx_St) (h : bx_R σ τ) : ∃ u w, mX3_fault σ = some u ∧ mX4_fault τ = some w ∧ u.1 = w.1 ∧ bx_R u.2 w.2 := by
  obtain ⟨n0, j, σ', τ', g1, g2, -, -, -, -, g4, g5, -⟩ := read_eq h.2.2
  exact ⟨(nI j, σ'), (nI j, τ'), by rw [mX3_fault, g1, Option.bind_some], by rw [mX4_fault, g2, Option.bind_some], rfl, h.read g4 g5⟩
