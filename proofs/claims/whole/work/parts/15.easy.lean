theorem le_nlt {a b : Int32} (h : a ≤ b) : ¬ b < a := by rw [fa_le] at h; rw [fa_lt]; omega
theorem lt_nle {a b : Int32} (h : a < b) : ¬ b ≤ a := by rw [fa_lt] at h; rw [fa_le]; omega
theorem P_letter (σ τ : bx_St) (v1 : Int32) (h : bx_R σ τ) : ∃ u w, mX3_letter v1 σ = some u ∧ mX4_letter v1 τ = some w ∧ u.1 = w.1 ∧ bx_R u.2 w.2 := by
  by_cases h1 : v1 < 32
  · exact ⟨(-10003, σ), (-10003, τ), by simp [mX3_letter, h1], by simp [mX4_letter, mX4_within, h1], rfl, h⟩
  by_cases h2 : v1 ≤ 126
  · have h2' := le_nlt h2
    have hh := h
    obtain ⟨⟨T, tc, V, F, u, M, hA⟩, hG, ⟨⟨n, hn, e1, e2⟩, e3⟩⟩ := hh
    by_cases h3 : n < 60
    · have ok : bx_ok (nI n) 60 := ok_nI h3 (by decide)
      have k1 : nI n < 60 := nI_lt (b := 60) h3 (by decide)
      have k2 : ¬ nI n = 60 := fun e => by have := (nI_eq (a := n) (b := 60) (by omega) (by decide)).mp e; omega
      have c1 : (nI n).toNatClampNeg = n := cl_nI (by omega)
      refine ⟨(nI (n + 1), bx_up (bx_up σ 3 n v1) 2 1 (nI (n + 1))), (nI (n + 1), bx_up (bx_up τ 1 n v1) 0 0 (nI (n + 1))), ?_, ?_, rfl, ?_⟩
      · simp only [mX3_letter, if_neg h1, if_pos h2, mX2_append, e1, if_pos k1, if_pos ok, bx_let, Option.bind_some, c1, up_ne (show (2 : Nat) ≠ 3 by decide), nI_1]
        rw [if_neg (by decide), up_eq]
        simp [upd, e1, nI_1]
      · simp only [mX4_letter, mX4_within, if_neg h1, if_neg h2', e2, if_neg k2, if_pos ok, bx_let, c1, up_ne (show (0 : Nat) ≠ 1 by decide), nI_1]
        rw [if_neg (by decide), up_eq]
        simp [upd, e2, nI_1]
      · refine ⟨⟨T, tc, V, F, u, M, hA.keep ?_ ?_ ?_⟩, hG.keep ?_ ?_ ?_, ⟨⟨n + 1, ⟨by omega, ?_⟩, by simp [up_get], by simp [up_get]⟩, ?_⟩⟩
        · intro k hk i; rw [up_get, if_neg (by omega), up_get, if_neg (by omega)]
        · intro i hi; rw [up_get, if_pos rfl, if_neg (by omega), up_get, if_neg (by omega)]
        · intro k hk i; rw [up_get, if_neg (by omega), up_get, if_neg (by omega)]
        · intro k hk hk2 i; rw [up_get, if_neg (by omega), up_get, if_neg (by omega)]
        · intro i hi; rw [up_get, if_pos rfl, if_neg (by omega), up_get, if_neg (by omega)]
        · intro k hk hk2 i; rw [up_get, if_neg (by omega), up_get, if_neg (by omega)]
        · intro i hi
          rw [up_get, if_neg (by omega), up_get, if_pos rfl]
          by_cases q : i = n
          · rw [if_pos q]
            intro q2
            rw [q2] at h1
            exact h1 (by decide)
          · rw [if_neg q]; exact hn.2 i (by omega)
        · intro i
          simp [up_get, e3]
    · have : n = 60 := by omega
      subst this
      have k1 : ¬ nI 60 < 60 := nI_nlt (a := 60) (b := 60) (by omega) (by decide)
      refine ⟨(-10005, σ), (-10005, τ), ?_, ?_, rfl, h⟩
      · simp only [mX3_letter, if_neg h1, if_pos h2, mX2_append, e1, if_neg k1, Option.bind_some]
        rfl
      · simp only [mX4_letter, mX4_within, if_neg h1, if_neg h2', e2]
        rw [if_neg (by decide), if_pos (by decide)]
  · have h2' : 126 < v1 := fa_of_nle h2
    exact ⟨(-10003, σ), (-10003, τ), by simp [mX3_letter, h1, h2], by simp [mX4_letter, mX4_within, h1, h2'], rfl, h⟩
theorem P_blank (σ τ : bx_St) (h : bx_R σ τ) : ∃ u w, mX3_blank σ = some u ∧ mX4_blank τ = some w ∧ u.1 = w.1 ∧ bx_R u.2 w.2 := by
  obtain ⟨⟨T, tc, V, F, u, M, hA⟩, hG, ⟨⟨n, hn, e1, e2⟩, e3⟩⟩ := h
  refine ⟨_, _, rfl, rfl, e1.trans e2.symm, ⟨T, tc, V, F, u, M, hA.keep ?_ ?_ ?_⟩, hG.keep ?_ ?_ ?_, ⟨⟨0, ⟨by omega, fun i h => absurd h (Nat.not_lt_zero i)⟩, rfl, rfl⟩, ?_⟩⟩
  · intro k hk i; rw [mX2_clear, up_get, if_neg (by omega)]
  · intro i hi; rw [up_get, if_pos rfl, if_neg (by omega)]
  · intro k hk i; rw [up_get, if_neg (by omega)]
  · intro k hk hk2 i; rw [mX2_clear, up_get, if_neg (by omega)]
  · intro i hi; rw [up_get, if_pos rfl, if_neg (by omega)]
  · intro k hk hk2 i; rw [up_get, if_neg (by omega)]
  · intro i
    rw [mX2_clear, up_get, if_neg (by decide), up_get, if_neg (by decide), e3 i]
theorem ok3_0 : bx_ok (0 : Int32) 3 := by decide
theorem ok3_1 : bx_ok (1 : Int32) 3 := by decide
theorem ok3_2 : bx_ok (2 : Int32) 3 := by decide
/-- an int between 0 and n, or not: as the reference tests it -/
theorem within_no {v lo hi : Int32} (h : v < lo ∨ hi < v) : mX4_within v lo hi = 0 := by
  unfold mX4_within
  rcases h with h | h
  · rw [if_pos h]
  · by_cases h2 : v < lo
    · rw [if_pos h2]
    · rw [if_neg h2, if_pos h]
theorem within_yes {v lo hi : Int32} (h : ¬ v < lo) (h2 : ¬ hi < v) : mX4_within v lo hi = 1 := by
  unfold mX4_within
  rw [if_neg h, if_neg h2]
theorem one_ne0 : ¬ (1 : Int32) = 0 := by decide
/-- one of the numbers 0 to n, or none -/
theorem cases_n (v : Int32) (n : Nat) (hn : n < 2 ^ 31) : (v < 0 ∨ nI n < v) ∨ ∃ j, j ≤ n ∧ v = nI j := by
  by_cases h : v < 0
  · exact Or.inl (Or.inl h)
  · by_cases h2 : nI n < v
    · exact Or.inl (Or.inr h2)
    · obtain ⟨j, hj, rfl⟩ := nI_of h
      refine Or.inr ⟨j, ?_, rfl⟩
      rw [nI_ltI hn hj] at h2
      omega
theorem ne_out {v : Int32} {n j : Nat} (h : v < 0 ∨ nI n < v) (hn : n < 2 ^ 31) (hj : j ≤ n) : ¬ v = nI j := by
  intro e
  subst e
  rcases h with h | h
  · exact nI_pos (by omega) h
  · rw [nI_ltI hn (by omega)] at h
    omega
theorem latestNow_eq {σ τ : bx_St} (h : RG σ τ) : ∀ j, j < 7 → ∃ u, mX3_latest (nI j) σ = some u ∧ mX4_latestNow (nI j) τ = some u := by
  obtain ⟨a1, a2, a3, a4, a5, a6, a7, a8, a9, E, e1, e2, e3⟩ := h
  have s0 := a9 0 (by omega)
  have s1 := a9 1 (by omega)
  have s2 := a9 2 (by omega)
  intro j hj
  rcases (by omega : j = 0 ∨ j = 1 ∨ j = 2 ∨ j = 3 ∨ j = 4 ∨ j = 5 ∨ j = 6) with rfl | rfl | rfl | rfl | rfl | rfl | rfl
  · exact ⟨σ.1 5 2 + σ.1 5 3, rfl, by show some (τ.1 0 8) = _; rw [a2]⟩
  · exact ⟨σ.1 5 2, rfl, by show some (τ.1 0 11) = _; rw [a1]⟩
  · refine ⟨σ.1 5 3, rfl, ?_⟩
    show some (τ.1 0 8 - τ.1 0 11) = _
    rw [a1, a2, Int32.add_comm, Int32.add_sub_cancel]
  · exact ⟨σ.1 5 4, rfl, by show some (τ.1 0 12) = _; rw [a3]⟩
  · exact ⟨σ.1 7 0, rfl, by show some (τ.1 7 0) = _; rw [s0]⟩
  · exact ⟨σ.1 7 1, rfl, by show some (τ.1 7 1) = _; rw [s1]⟩
  · exact ⟨σ.1 7 2, rfl, by show some (τ.1 7 2) = _; rw [s2]⟩
theorem P_latest (σ τ : bx_St) (v1 : Int32) (h : bx_R σ τ) : ∃ u w, mX3_latest v1 σ = some u ∧ mX4_latest v1 τ = some w ∧ u = w ∧ bx_R σ τ := by
  rcases cases_n v1 6 (by decide) with h1 | ⟨j, hj, rfl⟩
  · have k := fun j hj => ne_out (j := j) h1 (by decide) hj
    refine ⟨-10003, -10003, ?_, ?_, rfl, h⟩
    · have k0 : ¬ v1 = 0 := k 0 (by omega)
      have k1 : ¬ v1 = 1 := k 1 (by omega)
      have k2 : ¬ v1 = 2 := k 2 (by omega)
      have k3 : ¬ v1 = 3 := k 3 (by omega)
      have k4 : ¬ v1 = 4 := k 4 (by omega)
      have k5 : ¬ v1 = 5 := k 5 (by omega)
      have k6 : ¬ v1 = 6 := k 6 (by omega)
      simp only [mX3_latest, if_neg k0, if_neg k1, if_neg k2, if_neg k3, if_neg k4, if_neg k5, if_neg k6]
    · rw [mX4_latest, within_no (v := v1) (lo := 0) (hi := 6) h1, if_pos rfl]
  · obtain ⟨u, e1, e2⟩ := latestNow_eq h.2.1 j (by omega)
    refine ⟨u, u, e1, ?_, rfl, h⟩
    rw [mX4_latest, within_yes (nI_pos (by omega)) (g6 hj), if_neg one_ne0, e2]
    rfl
theorem event_eq {σ τ : bx_St} (h : RG σ τ) : ∃ E, E ≤ 66 ∧ τ.1 0 8 = nI E ∧ mX0_eventCount σ = nI E ∧ ∀ j, j < E → (∃ u, mX3_event (nI j) 0 σ = some u ∧ τ.1 5 j = u) ∧ (∃ u, mX3_event (nI j) 1 σ = some u ∧ τ.1 6 j = u) := by
  obtain ⟨a1, a2, a3, a4, a5, a6, a7, a8, a9, E, e1, e2, e3⟩ := h
  have hc : mX0_eventCount σ = nI E := a2.symm.trans e2
  refine ⟨E, e1, e2, hc, fun j hj => ?_⟩
  obtain ⟨c, b, hc1, t5, t6, s6⟩ := e3 j hj
  have hlt : nI j < nI E := nI_lt hj (by omega)
  have ok : bx_ok (nI j) 66 := ok_nI (by omega) (by decide)
  have cl : (nI j).toNatClampNeg = j := cl_nI (by omega)
  have hodd : ∀ b : Bool, (nI (2 * c + (if b then 1 else 0)) >>> ((1 : Int32) &&& 31)) = nI c ∧ (nI (2 * c + (if b then 1 else 0)) &&& (1 : Int32)) = bI b := by
    intro b
    have hs : (2 * c + (if b then 1 else 0)) / 2 ^ 1 = c := by cases b <;> simp <;> omega
    have hm : (2 * c + (if b then 1 else 0)) % 2 ^ 1 = if b then 1 else 0 := by cases b <;> simp <;> omega
    refine ⟨?_, ?_⟩
    · rw [pk_shrN (by cases b <;> simp <;> omega) _ 1 (by decide), hs]
    · rw [pk_andN (by cases b <;> simp <;> omega) 1 (by decide), hm, bI_nI]
  obtain ⟨o1, o2⟩ := hodd b
  refine ⟨⟨nI c, ?_, t5⟩, ⟨bI b, ?_, t6⟩⟩
  · rw [mX3_event, if_neg (nI_pos (by omega)), hc, if_pos hlt, if_pos rfl, mX0_eventPair, if_pos ok, cl, s6, o1]
    rfl
  · rw [mX3_event, if_neg (nI_pos (by omega)), hc, if_pos hlt, if_neg one_ne0, if_pos rfl, mX0_eventBegan, if_pos ok, cl, s6, o2]
    cases b <;> rfl
theorem P_event (σ τ : bx_St) (v1 v2 : Int32) (h : bx_R σ τ) : ∃ u w, mX3_event v1 v2 σ = some u ∧ mX4_event v1 v2 τ = some w ∧ u = w ∧ bx_R σ τ := by
  obtain ⟨E, hE, t8, hc, hev⟩ := event_eq h.2.1
  by_cases h1 : v1 < 0
  · exact ⟨-10002, -10002, by rw [mX3_event, if_pos h1], by rw [mX4_event, within_no (Or.inl h1), if_pos rfl], rfl, h⟩
  obtain ⟨j, hj, rfl⟩ := nI_of h1
  by_cases h2 : j < E
  · obtain ⟨⟨u0, x0, y0⟩, ⟨u1, x1, y1⟩⟩ := hev j h2
    have hlt : nI j < nI E := nI_lt h2 (by omega)
    have ok : bx_ok (nI j) 66 := ok_nI (by omega) (by decide)
    have cl : (nI j).toNatClampNeg = j := cl_nI (by omega)
    have hw : mX4_within (nI j) 0 (nI E - 1) = 1 := by
      obtain ⟨E', rfl⟩ : ∃ E', E = E' + 1 := ⟨E - 1, by omega⟩
      rw [nI_pred]
      exact within_yes h1 (nI_nlt (by omega) (by omega))
    by_cases c0 : v2 = 0
    · subst c0
      refine ⟨u0, u0, x0, ?_, rfl, h⟩
      rw [mX4_event, t8, hw, if_neg one_ne0, if_pos rfl, if_pos ok, cl, y0]
    by_cases c1 : v2 = 1
    · subst c1
      refine ⟨u1, u1, x1, ?_, rfl, h⟩
      rw [mX4_event, t8, hw, if_neg one_ne0, if_neg one_ne0, if_pos rfl, if_pos ok, cl, y1]
    refine ⟨-10003, -10003, ?_, ?_, rfl, h⟩
    · simp only [mX3_event, if_neg h1, hc, if_pos hlt, if_neg c0, if_neg c1]
    · simp only [mX4_event, t8, hw, if_neg one_ne0, if_neg c0, if_neg c1]
  · refine ⟨-10002, -10002, ?_, ?_, rfl, h⟩
    · rw [mX3_event, if_neg h1, hc, if_neg (nI_nlt (by omega) (by omega))]
    · rw [mX4_event, t8, within_no, if_pos rfl]
      right
      cases E with
      | zero => rw [show nI 0 - 1 = (-1 : Int32) by decide, fa_lt, nI_toInt hj, show (-1 : Int32).toInt = -1 by decide]; omega
      | succ E' => rw [nI_pred]; exact nI_lt (by omega) hj
