theorem shift_on {σ τ : bx_St} {T : Nat → Bool} {tc : Bool} {V : Nat → Nat → Int} {F : Nat → Nat → Nat} {u : Nat} {P : Nat → Nat → Nat} {O : Nat → Nat → Bool} {t ax b : Nat} {w : Int} (h : MR σ τ T tc V F u P O t) (ha : ax < 3) (hb : b < 12) (hT : T b = true) (h1 : -999 ≤ V ax (2 * b) + w) (h2 : V ax (2 * b + 1) + w ≤ 999) (hV : VL T V) (hS : ∀ a, a < 3 → SO (ky tc V a) (F a) u) (K : Int32 → Int32 → Int32 → Int32 → Int32 → bx_St → Option (Int32 × bx_St)) (v2 v3 v4 : Int32) : ∃ σ' τ' V' F' P' t', mX3_layOn (nI ax) (nI b) (σ.1 (8 + 5 * ax + 1) b + iv w) (σ.1 (8 + 5 * ax + 2) b + iv w) σ = some σ' ∧ mX4_move_81 K (nI b) v2 v3 v4 (nI ax) (iv w) τ = K (nI b) v2 v3 v4 (nI (ax + 1)) τ' ∧ MR σ' τ' T tc V' F' u P' O t' ∧ t' ≤ t + 96 ∧ VL T V' ∧ (∀ a, a < 3 → SO (ky tc V' a) (F' a) u) ∧ (∀ a e, a ≠ ax → V' a e = V a e) := by
  have v := hV ax ha b hb hT
  obtain ⟨σ', τ', V', F', P', t', b1, b2, b3, b4, b5, b6, b7⟩ := lay_eq h ha hb hT h1 (by omega : V ax (2 * b) + w < V ax (2 * b + 1) + w) h2 hV hS
  refine ⟨σ', τ', V', F', P', t', ?_, ?_, b3, b4, b5, b6, b7⟩
  · rw [(h.1.2.2.1 ax ha b hb).1, (h.1.2.2.1 ax ha b hb).2, iv_add, iv_add]; exact b1
  · rw [mX4_move_81, m_lowOf h.2.1.2.1 hb ha, Option.bind_some, m_highOf h.2.1.2.1 hb ha, Option.bind_some, iv_add, iv_add, b2, Option.bind_some, nI_1]
theorem P_move (σ τ : bx_St) (v1 v2 v3 v4 : Int32) (h : bx_R σ τ) : ∃ u w, mX3_move v1 v2 v3 v4 σ = some u ∧ mX4_move v1 v2 v3 v4 τ = some w ∧ u.1 = w.1 ∧ bx_R u.2 w.2 := by
  have hh := h
  have bF : bx_F = 5000 := rfl
  obtain ⟨⟨T, tc, V, F, u, M, hA⟩, hG, hP⟩ := hh
  have hA' := hA
  obtain ⟨⟨x1, x2, x3, x4, x5, x6⟩, ⟨m1, m2, m3, m4⟩, ⟨i1, i2, i3, i4, i5⟩⟩ := hA'
  rcases there_eq x1 m1 v1 with ⟨b, hb, rfl, hT, e1, e2⟩ | ⟨e1, e2⟩
  · obtain ⟨g0, s0, t0, r0⟩ := shift_eq (T := T) (tc := tc) x3 m2 i1 (show 0 < 3 by omega) hb v2
    obtain ⟨g1, s1, t1, r1⟩ := shift_eq (T := T) (tc := tc) x3 m2 i1 (show 1 < 3 by omega) hb v3
    obtain ⟨g2, s2, t2, r2⟩ := shift_eq (T := T) (tc := tc) x3 m2 i1 (show 2 < 3 by omega) hb v4
    have s0' : mX1_canShift 8 (nI b) v2 σ = some (bI g0) := s0
    have s1' : mX1_canShift 13 (nI b) v3 σ = some (bI g1) := s1
    have s2' : mX1_canShift 18 (nI b) v4 σ = some (bI g2) := s2
    have t0' : mX4_canMove (nI b) 0 v2 τ = some (bI g0) := t0
    have t1' : mX4_canMove (nI b) 1 v3 τ = some (bI g1) := t1
    have t2' : mX4_canMove (nI b) 2 v4 τ = some (bI g2) := t2
    have ne1 : ¬ bI true = 0 := by decide
    have z0 : bI false = 0 := rfl
    rw [mX3_move, e1, if_neg one_ne0, s0', Option.bind_some, mX4_move, e2, if_neg one_ne0, t0', Option.bind_some]
    cases g0 with
    | false =>
      rw [if_pos z0, if_pos z0]
      exact ⟨_, _, rfl, rfl, rfl, h⟩
    | true =>
      rw [if_neg ne1, if_neg ne1, s1', t1', Option.bind_some, Option.bind_some]
      cases g1 with
      | false =>
        rw [if_pos z0, if_pos z0]
        exact ⟨_, _, rfl, rfl, rfl, h⟩
      | true =>
        rw [if_neg ne1, if_neg ne1, s2', t2', Option.bind_some, Option.bind_some]
        cases g2 with
        | false =>
          rw [if_pos z0, if_pos z0]
          exact ⟨_, _, rfl, rfl, rfl, h⟩
        | true =>
          obtain ⟨w0, rfl, -, -, a0, b0⟩ := r0 rfl
          obtain ⟨w1, rfl, -, -, a1, b1⟩ := r1 rfl
          obtain ⟨w2, rfl, -, -, a2, b2⟩ := r2 rfl
          obtain ⟨σ1, τ1, P, O, o1, o2, hM⟩ := MR_open hA hG hP
          obtain ⟨σ2, τ2, V2, F2, P2, n2, c1, c2, c3, c4, c5, c6, c7⟩ := shift_on hM (show 0 < 3 by omega) hb hT a0 b0 i2 (fun a h => i4 a h) (mX4_move_54 4999) (iv w0) (iv w1) (iv w2)
          obtain ⟨σ3, τ3, V3, F3, P3, n3', d1, d2, d3, d4, d5, d6, d7⟩ := shift_on c3 (show 1 < 3 by omega) hb hT (by rw [c7 1 _ (by omega)]; exact a1) (by rw [c7 1 _ (by omega)]; exact b1) c5 c6 (mX4_move_54 4998) (iv w0) (iv w1) (iv w2)
          obtain ⟨σ4, τ4, V4, F4, P4, n4', f1, f2, f3, f4, f5, f6, f7⟩ := shift_on d3 (show 2 < 3 by omega) hb hT (by rw [d7 2 _ (by omega), c7 2 _ (by omega)]; exact a2) (by rw [d7 2 _ (by omega), c7 2 _ (by omega)]; exact b2) d5 d6 (mX4_move_54 4997) (iv w0) (iv w1) (iv w2)
          obtain ⟨σ5, τ5, r, k1, k2, k3, k4⟩ := MR_end f3 (by omega) f5 f6
          have ok : bx_ok (nI b) 12 := ok_nI hb (by decide)
          have cl : (nI b).toNatClampNeg = b := cl_nI (by omega)
          have c1' : mX3_layOn 0 (nI b) (σ1.1 (8 + 1) b + iv w0) (σ1.1 (8 + 2) b + iv w0) σ1 = some σ2 := c1
          have d1' : mX3_layOn 1 (nI b) (σ2.1 (13 + 1) b + iv w1) (σ2.1 (13 + 2) b + iv w1) σ2 = some σ3 := d1
          have f1' : mX3_layOn 2 (nI b) (σ3.1 (18 + 1) b + iv w2) (σ3.1 (18 + 2) b + iv w2) σ3 = some σ4 := f1
          have c2' : mX4_move_81 (mX4_move_54 4999) (nI b) (iv w0) (iv w1) (iv w2) 0 (iv w0) τ1 = mX4_move_54 4999 (nI b) (iv w0) (iv w1) (iv w2) 1 τ2 := c2
          have d2' : mX4_move_81 (mX4_move_54 4998) (nI b) (iv w0) (iv w1) (iv w2) 1 (iv w1) τ2 = mX4_move_54 4998 (nI b) (iv w0) (iv w1) (iv w2) 2 τ3 := d2
          have f2' : mX4_move_81 (mX4_move_54 4997) (nI b) (iv w0) (iv w1) (iv w2) 2 (iv w2) τ3 = mX4_move_54 4997 (nI b) (iv w0) (iv w1) (iv w2) 3 τ4 := f2
          refine ⟨(r, σ5), (r, τ5), ?_, ?_, rfl, k4⟩
          · rw [if_neg ne1, o1, Option.bind_some]
            simp only [if_pos ok, cl]
            rw [c1', Option.bind_some, d1', Option.bind_some, f1', Option.bind_some, k1, Option.bind_some, k2, Option.bind_some]
          · rw [if_neg ne1, o2, Option.bind_some, bF, mX4_move_54, if_neg (by decide), if_pos rfl, c2', mX4_move_54, if_neg (by decide), if_neg (by decide), if_pos rfl, d2', mX4_move_54, if_neg (by decide), if_neg (by decide), if_neg (by decide), f2', mX4_move_54, if_pos (by decide), k3, Option.bind_some]
  · exact ⟨(-10002, σ), (-10002, τ), by rw [mX3_move, e1, if_pos rfl], by rw [mX4_move, e2, if_pos rfl], rfl, h⟩
