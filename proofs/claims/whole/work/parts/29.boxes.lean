/-! a batch of boxes -/
def BN (σ τ : bx_St) (N : Nat) (z : Nat → Int) : Prop := σ.1 2 3 = nI N ∧ τ.1 0 19 = nI N ∧ ∀ j, j < N → -999 ≤ z j ∧ z j ≤ 999 ∧ σ.1 4 j = iv (z j) ∧ τ.1 8 j = iv (z j)
theorem m_batch0 {τ : bx_St} {N : Nat} (hN : N ≤ 24) (h : τ.1 0 19 = nI N) : ∀ (k n p : Nat), p + 2 * k = N + 1 ∨ p + 2 * k = N → k < n → mX4_isBatch_42 n 0 (nI p) τ = some (0, τ) := by
  have b0 : bx_bo (0 : Int32) := bI_bo false
  intro k
  induction k with
  | zero =>
    intro n p hp hn
    obtain ⟨n, rfl⟩ : ∃ m, n = m + 1 := ⟨n - 1, by omega⟩
    rw [mX4_isBatch_42, h, if_pos (nI_le (by omega) (by omega)), if_pos b0]
  | succ k ih =>
    intro n p hp hn
    obtain ⟨n, rfl⟩ : ∃ m, n = m + 1 := ⟨n - 1, by omega⟩
    have e2 : nI p + 2 = nI (p + 2) := nI_add p 2
    by_cases q : N ≤ p
    · rw [mX4_isBatch_42, h, if_pos (nI_le q (by omega)), if_pos b0]
    · rw [mX4_isBatch_42, h, if_neg (nI_ge (by omega) (by omega)), if_pos rfl, mX4_isBatch_75, mX4_isBatch_76, e2]
      exact ih n (p + 2) (by omega) (by omega)
theorem batch_loop {σ τ : bx_St} {N : Nat} {z : Nat → Int} (hB : BN σ τ N z) (hN : N ≤ 24) (hE : N % 2 = 0) : ∀ (k n q : Nat), 2 * q + 2 * k = N → k < n → (∀ j, j < q → z (2 * j) < z (2 * j + 1)) → ∃ r : Bool, mX2_isBatch_38 n (nI (2 * q)) σ = some (bI r, σ) ∧ mX4_isBatch_42 n 1 (nI (2 * q)) τ = some (bI r, τ) ∧ (r = true → ∀ j, 2 * j < N → z (2 * j) < z (2 * j + 1)) := by
  obtain ⟨h1, h2, h3⟩ := hB
  have b1 : bx_bo (1 : Int32) := bI_bo true
  intro k
  induction k with
  | zero =>
    intro n q hq hn hz
    obtain ⟨n, rfl⟩ : ∃ m, n = m + 1 := ⟨n - 1, by omega⟩
    refine ⟨true, ?_, ?_, fun _ j hj => hz j (by omega)⟩
    · rw [mX2_isBatch_38, h1, nI_1, if_pos (nI_le (by omega) (by omega))]; rfl
    · rw [mX4_isBatch_42, h2, if_pos (nI_le (by omega) (by omega)), if_pos b1]; rfl
  | succ k ih =>
    intro n q hq hn hz
    obtain ⟨n, rfl⟩ : ∃ m, n = m + 1 := ⟨n - 1, by omega⟩
    have e2 : nI (2 * q) + 2 = nI (2 * q + 2) := nI_add (2 * q) 2
    obtain ⟨z1, z2, z3, z4⟩ := h3 (2 * q) (by omega)
    obtain ⟨y1, y2, y3, y4⟩ := h3 (2 * q + 1) (by omega)
    rw [mX2_isBatch_38, h1, nI_1, if_neg (nI_ge (by omega) (by omega)), if_pos (ok_nI (by omega) (by decide)), if_pos (ok_nI (by omega) (by decide)), cl_nI (by omega), cl_nI (by omega), z3, y3, mX4_isBatch_42, h2, if_neg (nI_ge (by omega) (by omega)), if_neg one_ne0, if_pos (ok_nI (by omega) (by decide)), nI_1, if_pos (ok_nI (by omega) (by decide)), cl_nI (by omega), cl_nI (by omega), z4, y4, mX4_isBatch_75, mX4_isBatch_76, mX4_isBatch_76, e2]
    by_cases g : z (2 * q) < z (2 * q + 1)
    · rw [if_pos ((iv_lt (by omega) (by omega)).mpr g), if_neg (fun w => by have := (iv_le (by omega) (by omega)).mp w; omega)]
      exact ih n (q + 1) (by omega) (by omega) (fun j hj => by
        by_cases w : j = q
        · rw [w]; exact g
        · exact hz j (by omega))
    · rw [if_neg (fun w => g ((iv_lt (by omega) (by omega)).mp w)), if_pos ((iv_le (by omega) (by omega)).mpr (by omega))]
      exact ⟨false, rfl, m_batch0 hN h2 k n (2 * q + 2) (by omega) (by omega), fun q => by cases q⟩
theorem batch_eq {σ τ : bx_St} (h : RP σ τ) : ∃ (r : Bool) (σ' τ' : bx_St), mX2_isBatch σ = some (bI r, σ') ∧ mX4_isBatch τ = some (bI r, τ') ∧ SK σ σ' ∧ TK τ τ' ∧ (r = true → ∃ m z, m ≤ 4 ∧ BN σ' τ' (6 * m) z ∧ ∀ j, 2 * j < 6 * m → z (2 * j) < z (2 * j + 1)) := by
  have bF : bx_F = 5000 := rfl
  obtain ⟨n0, j, σ1, τ1, g1, g2, h60, hj, e1, e2, s1, t1, k, f, v, b, hR, hk, hf⟩ := read_eq h
  have hR' := hR
  obtain ⟨h1, h2, h3, h4, h5, h6, h7, h8, h9, h10⟩ := hR'
  rw [mX2_isBatch, g1, Option.bind_some, mX4_isBatch, g2, Option.bind_some]
  show ∃ (r : Bool) (σ' τ' : bx_St), (if nI j < σ1.1 2 1 then _ else _) = _ ∧ (if nI j < τ1.1 0 0 then _ else _) = _ ∧ _
  rw [e1, e2]
  by_cases q1 : j < n0
  · rw [if_pos (nI_lt q1 (by omega)), if_pos (nI_lt q1 (by omega))]
    exact ⟨false, σ1, τ1, rfl, rfl, s1, t1, fun q => by cases q⟩
  rw [if_neg (nI_nlt (by omega) (by omega)), if_neg (nI_nlt (by omega) (by omega))]
  show ∃ (r : Bool) (σ' τ' : bx_St), (if σ1.1 2 4 = 0 then _ else _) = _ ∧ (if τ1.1 0 21 = -10001 then _ else _) = _ ∧ _
  rw [h3, h7]
  by_cases q2 : f = 0
  · rw [if_pos (by rw [q2]; rfl), if_pos (by rw [if_pos q2])]
    exact ⟨false, σ1, τ1, rfl, rfl, s1, t1, fun q => by cases q⟩
  have t2 : ¬ (nI v = (-10001 : Int32)) := fun e => by
    have := (fa_eq _ _).mp e
    rw [nI_toInt (by omega), show (-10001 : Int32).toInt = -10001 by decide] at this
    omega
  rw [if_neg (by rw [eq0_iff (by omega)]; exact q2), if_neg (by rw [if_neg q2]; exact t2)]
  obtain ⟨σ2, τ2, f1, f2, s2, u2, hR2⟩ := RD_next hR hk (by omega)
  show ∃ (r : Bool) (σ' τ' : bx_St), Option.bind (mX2_endNumber σ1) _ = _ ∧ (if bx_rem (τ1.1 0 19) 6 = 5 then _ else _) = _ ∧ _
  have r1 : bx_rem (nI (k + 1)) (6 : Int32) = nI ((k + 1) % 6) := pk_rem (d := 6) (by omega) (by omega) (by decide)
  have r2 : bx_rem (nI k) (6 : Int32) = nI (k % 6) := pk_rem (d := 6) (by omega) (by omega) (by decide)
  have r5 : (nI (k % 6) = (5 : Int32)) = (k % 6 = 5) := eqn_iff (n := 5) (by omega) (by decide)
  rw [f1, Option.bind_some, hR2.1, r1, h2, r2]
  by_cases q3 : k % 6 = 5
  · rw [if_pos (by rw [eq0_iff (by omega)]; omega), if_pos (by rw [r5]; exact q3)]
    show ∃ (r : Bool) (σ' τ' : bx_St), _ ∧ (Option.bind (mX4_keepNumber τ1) _ = _) ∧ _
    rw [f2, Option.bind_some]
    obtain ⟨w1, w2, -, -, -, -, -, -, -, w10⟩ := hR2
    have hz : ∃ z : Nat → Int, ∀ j, j < k + 1 → -999 ≤ z j ∧ z j ≤ 999 ∧ σ2.1 4 j = iv (z j) ∧ τ2.1 8 j = iv (z j) :=
      ⟨fun j => if hj : j < k + 1 then (w10 j hj).choose else 0, fun j hj => by
        show -999 ≤ (if hj : j < k + 1 then (w10 j hj).choose else 0) ∧ (if hj : j < k + 1 then (w10 j hj).choose else 0) ≤ 999 ∧ σ2.1 4 j = iv (if hj : j < k + 1 then (w10 j hj).choose else 0) ∧ τ2.1 8 j = iv (if hj : j < k + 1 then (w10 j hj).choose else 0)
        rw [dif_pos hj]
        exact (w10 j hj).choose_spec⟩
    obtain ⟨z, hz⟩ := hz
    have hBN : BN σ2 τ2 (k + 1) z := ⟨w1, w2, hz⟩
    obtain ⟨r, c1, c2, c3⟩ := batch_loop hBN (by omega) (by omega) ((k + 1) / 2) 5000 0 (by omega) (by omega) (fun j hj => absurd hj (Nat.not_lt_zero j))
    have c1' : mX2_isBatch_38 5000 0 σ2 = some (bI r, σ2) := c1
    have c2' : mX4_isBatch_42 5000 1 0 τ2 = some (bI r, τ2) := c2
    rw [bF, c1', c2']
    refine ⟨r, σ2, τ2, rfl, rfl, s1.trans s2, t1.trans u2, fun q => ⟨(k + 1) / 6, z, by omega, ?_, ?_⟩⟩
    · rw [show 6 * ((k + 1) / 6) = k + 1 by omega]; exact hBN
    · intro j hj; exact c3 q j (by omega)
  · rw [if_neg (by rw [eq0_iff (by omega)]; omega), if_neg (by rw [r5]; exact q3)]
    exact ⟨false, σ2, τ1, rfl, rfl, s1.trans s2, t1, fun q => by cases q⟩
