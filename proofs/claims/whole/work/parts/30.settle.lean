def vW (b t x : Nat) (z : Nat → Int) (V : Nat → Nat → Int) (a c : Nat) : Int := if c / 2 = b ∧ a < x then z (6 * t + 2 * a + c % 2) else V a c
theorem x_settle_loop {m t b : Nat} {z : Nat → Int} {V : Nat → Nat → Int} (ht : t < m) (hm : m ≤ 4) (hb : b < 12) : ∀ (k n ax : Nat) (σ : bx_St), ax + k = 3 → k < n → (∀ j, j < 6 * m → σ.1 4 j = iv (z j)) → XV σ (vW b t ax z V) → ∃ σ', mX3_settle_15 n (nI b) (nI t) (nI ax) σ = some σ' ∧ XV σ' (vW b t 3 z V) ∧ (∀ k i, (∀ a, a < 3 → k ≠ 8 + 5 * a + 1 ∧ k ≠ 8 + 5 * a + 2) → σ'.1 k i = σ.1 k i) := by
  intro k
  induction k with
  | zero =>
    intro n ax σ hx hn hz hv
    obtain ⟨n, rfl⟩ : ∃ m, n = m + 1 := ⟨n - 1, by omega⟩
    have : ax = 3 := by omega
    subst this
    exact ⟨σ, by rw [mX3_settle_15, if_pos (by decide)], hv, fun _ _ _ => rfl⟩
  | succ k ih =>
    intro n ax σ hx hn hz hv
    obtain ⟨n, rfl⟩ : ∃ m, n = m + 1 := ⟨n - 1, by omega⟩
    have ha : ax < 3 := by omega
    have i0 : (nI t * (6 : Int32)) + ((2 : Int32) * nI ax) = nI (6 * t + 2 * ax) := by
      show nI t * nI 6 + nI 2 * nI ax = _
      rw [pk_mul, pk_mul, nI_add]; congr 1; omega
    have lo : mX2_lowOf (nI t) (nI ax) σ = some (iv (z (6 * t + 2 * ax))) := by
      rw [mX2_lowOf, i0, if_pos (ok_nI (by omega) (by decide)), cl_nI (by omega), hz _ (by omega)]
    have hi : ∀ x, mX2_highOf (nI t) (nI ax) (bx_up σ (8 + 5 * ax + 1) b x) = some (iv (z (6 * t + 2 * ax + 1))) := by
      intro x
      rw [mX2_highOf, i0, nI_1, if_pos (ok_nI (by omega) (by decide)), cl_nI (by omega), up_get, if_neg (by omega), hz _ (by omega)]
    rw [mX3_settle_15, if_neg (n3 ha), lo, Option.bind_some, lineOf_eq ax ha, if_pos (ok_nI hb (by decide))]
    simp only [cl_nI (show b < 2 ^ 31 by omega)]
    rw [bx_let, hi, Option.bind_some, if_pos (ok_nI hb (by decide)), bx_let, nI_1]
    obtain ⟨σ', g1, g2, g3⟩ := ih n (ax + 1) (bx_up (bx_up σ (8 + 5 * ax + 1) b (iv (z (6 * t + 2 * ax)))) (8 + 5 * ax + 2) b (iv (z (6 * t + 2 * ax + 1)))) (by omega) (by omega) (fun j hj => by rw [up_get, if_neg (by omega), up_get, if_neg (by omega)]; exact hz j hj) (fun a h c hc => by
      have hh := hv a h c hc
      have d0 : 2 * c / 2 = c := by omega
      have d1 : (2 * c + 1) / 2 = c := by omega
      have r0 : 2 * c % 2 = 0 := by omega
      have r1 : (2 * c + 1) % 2 = 1 := by omega
      have n1 : ∀ a b : Nat, ¬ 8 + 5 * a + 1 = 8 + 5 * b + 2 := by omega
      have n2 : ∀ a b : Nat, ¬ 8 + 5 * a + 2 = 8 + 5 * b + 1 := by omega
      unfold vW at hh ⊢
      rw [d0, d1, r0, r1] at hh ⊢
      rw [up_get, if_neg (n1 a ax), up_get, up_get (k' := 8 + 5 * a + 2), up_get (k' := 8 + 5 * a + 2), if_neg (n2 a ax)]
      by_cases q : a = ax
      · subst q
        by_cases q2 : c = b
        · subst q2
          rw [if_pos rfl, if_pos rfl, if_pos rfl, if_pos rfl, if_pos ⟨rfl, by omega⟩, if_pos ⟨rfl, by omega⟩]
          exact ⟨rfl, rfl⟩
        · rw [if_pos rfl, if_neg q2, if_pos rfl, if_neg q2, up_get, if_neg (n2 a a), if_neg (fun w => q2 w.1), if_neg (fun w => q2 w.1)]
          rw [if_neg (fun w => q2 w.1), if_neg (fun w => q2 w.1)] at hh
          exact hh
      · rw [if_neg (by omega : ¬ 8 + 5 * a + 1 = 8 + 5 * ax + 1), if_neg (by omega : ¬ 8 + 5 * a + 2 = 8 + 5 * ax + 2)]
        have e : (c = b ∧ a < ax + 1) = (c = b ∧ a < ax) := propext ⟨fun w => ⟨w.1, by omega⟩, fun w => ⟨w.1, by omega⟩⟩
        simp only [e]
        exact hh)
    refine ⟨σ', g1, g2, fun k' i q => ?_⟩
    have := q ax ha
    rw [g3 k' i q, up_get, if_neg this.2, up_get, if_neg this.1]
theorem x_settle {m t b : Nat} {z : Nat → Int} {V : Nat → Nat → Int} {T : Nat → Bool} (ht : t < m) (hm : m ≤ 4) (hb : b < 12) {σ : bx_St} (hT : σ.1 0 6 = bm T) (hz : ∀ j, j < 6 * m → σ.1 4 j = iv (z j)) (hv : XV σ V) : ∃ σ', mX3_settle (nI b) (nI t) σ = some σ' ∧ XV σ' (vW b t 3 z V) ∧ σ'.1 0 6 = bm (fun i => T i || decide (i = b)) ∧ (∀ k i, k ≠ 0 → (∀ a, a < 3 → k ≠ 8 + 5 * a + 1 ∧ k ≠ 8 + 5 * a + 2) → σ'.1 k i = σ.1 k i) ∧ (∀ i, i ≠ 6 → σ'.1 0 i = σ.1 0 i) := by
  have bF : bx_F = 5000 := rfl
  have v0 : XV (bx_up σ 0 6 (bm (fun i => T i || decide (i = b)))) (vW b t 0 z V) := fun a h c hc => by
    have := hv a h c hc
    unfold vW
    rw [if_neg (by omega), if_neg (by omega), up_get, if_neg (by omega), up_get, if_neg (by omega)]
    exact this
  obtain ⟨σ', g1, g2, g3⟩ := x_settle_loop ht hm hb 3 5000 0 (bx_up σ 0 6 (bm (fun i => T i || decide (i = b)))) rfl (by omega) (fun j hj => by rw [up_get, if_neg (by decide)]; exact hz j hj) v0
  refine ⟨σ', by rw [mX3_settle, hT, bm_or hb, bF]; exact g1, g2, ?_, ?_, ?_⟩
  · rw [g3 _ _ (by omega), up_get, if_pos rfl, if_pos rfl]
  · intro k i q1 q2; rw [g3 _ _ q2, up_get, if_neg q1]
  · intro i q; rw [g3 _ _ (by omega), up_get, if_pos rfl, if_neg q]
theorem m_copy {m t b : Nat} {z : Nat → Int} (ht : t < m) (hm : m ≤ 4) (hb : b < 12) (K : Int32 → Int32 → bx_St → Option (Int32 × bx_St)) : ∀ (k n i : Nat) (τ : bx_St), i + k = 6 → k < n → (∀ j, j < 6 * m → τ.1 8 j = iv (z j)) → (∀ j, j < i → τ.1 2 (6 * b + j) = iv (z (6 * t + j))) → ∃ τ', mX4_boxes_79 K n (nI m) (nI t) (nI b) (nI i) τ = K (nI m) (nI (t + 1)) τ' ∧ (∀ j, j < 6 → τ'.1 2 (6 * b + j) = iv (z (6 * t + j))) ∧ (∀ k j, (k = 2 → j < 6 * b ∨ 6 * b + 6 ≤ j) → τ'.1 k j = τ.1 k j) := by
  intro k
  induction k with
  | zero =>
    intro n i τ hi hn hz hd
    obtain ⟨n, rfl⟩ : ∃ m, n = m + 1 := ⟨n - 1, by omega⟩
    have : i = 6 := by omega
    subst this
    exact ⟨τ, by rw [mX4_boxes_79, if_pos (by decide), nI_1], hd, fun _ _ _ => rfl⟩
  | succ k ih =>
    intro n i τ hi hn hz hd
    obtain ⟨n, rfl⟩ : ∃ m, n = m + 1 := ⟨n - 1, by omega⟩
    have i0 : ((6 : Int32) * nI t) + nI i = nI (6 * t + i) := by
      show nI 6 * nI t + nI i = _
      rw [pk_mul, nI_add]
    have i1 : ((6 : Int32) * nI b) + nI i = nI (6 * b + i) := by
      show nI 6 * nI b + nI i = _
      rw [pk_mul, nI_add]
    rw [mX4_boxes_79, if_neg (n6 (by omega)), i0, i1, if_pos (ok_nI (by omega) (by decide)), if_pos (ok_nI (by omega) (by decide)), cl_nI (by omega), cl_nI (by omega), bx_let, hz _ (by omega), nI_1]
    obtain ⟨τ', g1, g2, g3⟩ := ih n (i + 1) (bx_up τ 2 (6 * b + i) (iv (z (6 * t + i)))) (by omega) (by omega) (fun j hj => by rw [up_get, if_neg (by decide)]; exact hz j hj) (fun j hj => by
      rw [up_get, if_pos rfl]
      by_cases q : j = i
      · rw [q, if_pos rfl]
      · rw [if_neg (by omega)]; exact hd j (by omega))
    refine ⟨τ', g1, g2, fun k' j q => ?_⟩
    rw [g3 k' j q, up_get]
    by_cases q2 : k' = 2
    · have := q q2
      rw [if_pos q2, if_neg (by omega), q2]
    · rw [if_neg q2]
theorem m_least_free {m t b : Nat} {T : Nat → Bool} (hb : b < 12) (hT : ∀ i, i < b → T i = true) (hF : T b = false) (K : Int32 → Int32 → bx_St → Option (Int32 × bx_St)) {τ : bx_St} (h2 : τ.1 0 2 = bm T) : ∀ (k n j : Nat), j + k = b → k < n → mX4_boxes_47 K n (nI m) (nI t) (nI j) τ = mX4_boxes_79 K 5000 (nI m) (nI t) (nI b) 0 (bx_up τ 0 2 (bm (fun i => T i || decide (i = b)))) := by
  intro k
  have bF : bx_F = 5000 := rfl
  induction k with
  | zero =>
    intro n j hj hn
    obtain ⟨n, rfl⟩ : ∃ m, n = m + 1 := ⟨n - 1, by omega⟩
    have : j = b := by omega
    subst this
    rw [mX4_boxes_47, h2, has_bm _ hb, hF, if_pos (by rfl), bx_let, bF]
    have : bm T ||| ((1 : Int32) <<< (nI j &&& 31)) = bm (fun i => T i || decide (i = j)) := bm_or hb
    rw [this]
  | succ k ih =>
    intro n j hj hn
    obtain ⟨n, rfl⟩ : ∃ m, n = m + 1 := ⟨n - 1, by omega⟩
    rw [mX4_boxes_47, h2, has_bm _ (by omega), hT j (by omega), if_neg (by decide), nI_1]
    exact ih n (j + 1) (by omega) (by omega)
theorem boxes_loop {m : Nat} {z : Nat → Int} {tc : Bool} (hm : m ≤ 4) (hzo : ∀ j, 2 * j < 6 * m → z (2 * j) < z (2 * j + 1)) (hzr : ∀ j, j < 6 * m → -999 ≤ z j ∧ z j ≤ 999) : ∀ (k n n' b t : Nat) (σ τ : bx_St) (T : Nat → Bool) (V : Nat → Nat → Int), b + k = 12 → k < n → m - t < n' → t ≤ m → XB σ T tc → MB τ T tc → XV σ V → MV τ V → VR V → VL T V → (∀ j, j < 6 * m → σ.1 4 j = iv (z j)) → (∀ j, j < 6 * m → τ.1 8 j = iv (z j)) → (∀ i, i < b → T i = true) → fb_ct T 12 + (m - t) ≤ 12 → ∃ σ' τ' T' V', mX3_boxes_51 n (nI m) (nI t) (nI b) σ = mX3_boxes_85 (nI m) σ' ∧ mX4_boxes_40 n' (nI m) (nI t) τ = (Option.bind (mX4_layAll τ') fun u2 => (Option.bind (mX4_endChange (0 : Int32) u2) fun u4 => (some (nI m, (bx_up u4 0 0 (0 : Int32)))))) ∧ XB σ' T' tc ∧ MB τ' T' tc ∧ XV σ' V' ∧ MV τ' V' ∧ VR V' ∧ VL T' V' ∧ (∀ k i, k ≠ 0 → (∀ a, a < 3 → k ≠ 8 + 5 * a + 1 ∧ k ≠ 8 + 5 * a + 2) → σ'.1 k i = σ.1 k i) ∧ (∀ k i, k ≠ 0 → k ≠ 2 → τ'.1 k i = τ.1 k i) ∧ (∀ i, i ≠ 2 → τ'.1 0 i = τ.1 0 i) := by
  intro k
  have bF : bx_F = 5000 := rfl
  induction k with
  | zero =>
    intro n n' b t σ τ T V hb hn hn' ht x1 m1 x3 m2 i1 i2 z4 z8 hT hc
    obtain ⟨n, rfl⟩ : ∃ m, n = m + 1 := ⟨n - 1, by omega⟩
    obtain ⟨n', rfl⟩ : ∃ m, n' = m + 1 := ⟨n' - 1, by omega⟩
    have : b = 12 := by omega
    subst this
    have := fb_ct_all.mpr hT
    have : t = m := by omega
    subst this
    exact ⟨σ, τ, T, V, by rw [mX3_boxes_51, if_pos (by decide)], by rw [mX4_boxes_40, if_pos (nI_le (by omega) (by omega))], x1, m1, x3, m2, i1, i2, fun _ _ _ _ => rfl, fun _ _ _ _ => rfl, fun _ _ => rfl⟩
  | succ k ih =>
    intro n n' b t σ τ T V hb hn hn' ht x1 m1 x3 m2 i1 i2 z4 z8 hT hc
    obtain ⟨n, rfl⟩ : ∃ m, n = m + 1 := ⟨n - 1, by omega⟩
    have hb12 : b < 12 := by omega
    by_cases q : t = m
    · subst q
      obtain ⟨n', rfl⟩ : ∃ m, n' = m + 1 := ⟨n' - 1, by omega⟩
      refine ⟨σ, τ, T, V, ?_, by rw [mX4_boxes_40, if_pos (nI_le (by omega) (by omega))], x1, m1, x3, m2, i1, i2, fun _ _ _ _ => rfl, fun _ _ _ _ => rfl, fun _ _ => rfl⟩
      rw [mX3_boxes_51, if_neg (n12 hb12), if_pos (nI_le (by omega) (by omega))]
    rw [mX3_boxes_51, if_neg (n12 hb12), if_neg (nI_ge (by omega) (by omega)), there_b x1 hb12]
    cases hTb : T b with
    | true =>
      rw [if_neg (by decide), mX3_boxes_79, nI_1]
      exact ih n n' (b + 1) t σ τ T V (by omega) (by omega) hn' ht x1 m1 x3 m2 i1 i2 z4 z8 (fun i hi => by
        by_cases q2 : i = b
        · rw [q2]; exact hTb
        · exact hT i (by omega)) hc
    | false =>
      obtain ⟨n', rfl⟩ : ∃ m, n' = m + 1 := ⟨n' - 1, by omega⟩
      have ht2 : t < m := by omega
      obtain ⟨σ1, a1, a2, a3, a4, a5⟩ := x_settle ht2 hm hb12 x1.1 z4 x3
      obtain ⟨τ1, b1, b2, b3⟩ := m_copy (z := z) ht2 hm hb12 (mX4_boxes_40 n') 6 5000 0 (bx_up τ 0 2 (bm (fun i => T i || decide (i = b)))) rfl (by omega) (fun j hj => by rw [up_get, if_neg (by decide)]; exact z8 j hj) (fun j hj => absurd hj (Nat.not_lt_zero j))
      have b1' : mX4_boxes_79 (mX4_boxes_40 n') 5000 (nI m) (nI t) (nI b) 0 (bx_up τ 0 2 (bm (fun i => T i || decide (i = b)))) = mX4_boxes_40 n' (nI m) (nI (t + 1)) τ1 := b1
      have lf := m_least_free (m := m) (t := t) hb12 hT hTb (mX4_boxes_40 n') m1.1 b 5000 0 (by omega) (by omega)
      have lf' : mX4_boxes_47 (mX4_boxes_40 n') 5000 (nI m) (nI t) 0 τ = _ := lf
      rw [if_pos (by rfl), a1, Option.bind_some, mX3_boxes_79, nI_1, nI_1, mX4_boxes_40, if_neg (nI_ge (by omega) (by omega)), bF, lf', b1']
      have mk : ∀ i, i ≠ 2 → τ1.1 0 i = τ.1 0 i := fun i w => by rw [b3 _ _ (fun q => by omega), up_get, if_pos rfl, if_neg w]
      have mk2 : ∀ k i, k ≠ 0 → k ≠ 2 → τ1.1 k i = τ.1 k i := fun k i w1 w2 => by rw [b3 _ _ (fun q => absurd q w2), up_get, if_neg w1]
      have cc : fb_ct (fun i => T i || decide (i = b)) 12 = fb_ct T 12 + 1 := by
        have := fb_ct_upd T true hb12
        rw [hTb] at this
        have e : fb_ct (fun i => T i || decide (i = b)) 12 = fb_ct (fun k => if k = b then true else T k) 12 := fb_ct_cong (fun k _ => by
          by_cases w : k = b
          · rw [if_pos w, decide_eq_true w, Bool.or_true]
          · rw [if_neg w, decide_eq_false w, Bool.or_false])
        rw [e]
        simpa using this
      obtain ⟨σ', τ', T', V', g1, g2, g3, g4, g5, g6, g7, g8, g9, g10, g11⟩ := ih n n' (b + 1) (t + 1) σ1 τ1 (fun i => T i || decide (i = b)) (vW b t 3 z V) (by omega) (by omega) (by omega) (by omega) ⟨a3, by rw [a5 _ (by decide)]; exact x1.2⟩ ⟨by rw [b3 _ _ (fun q => by omega), up_get, if_pos rfl, if_pos rfl], by rw [mk _ (by decide)]; exact m1.2⟩ a2 (fun a h c hc i hi => by
          unfold vW
          by_cases w : c = b
          · rw [if_pos ⟨by omega, h⟩, w, show 6 * b + 2 * a + i = 6 * b + (2 * a + i) by omega, b2 _ (by omega), show (2 * b + i) % 2 = i by omega, show 6 * t + (2 * a + i) = 6 * t + 2 * a + i by omega]
          · rw [if_neg (fun w2 => by omega), b3 _ _ (fun _ => by omega), up_get, if_neg (by decide)]
            exact m2 a h c hc i hi) (fun a h c hc => by
          unfold vW
          by_cases w : c / 2 = b
          · rw [if_pos ⟨w, h⟩]; exact hzr _ (by omega)
          · rw [if_neg (fun w2 => w w2.1)]; exact i1 a h c hc) (fun a h c hc w => by
          unfold vW
          by_cases w2 : c = b
          · rw [if_pos ⟨by omega, h⟩, if_pos ⟨by omega, h⟩, show 6 * t + 2 * a + 2 * c % 2 = 2 * (3 * t + a) by omega, show 6 * t + 2 * a + (2 * c + 1) % 2 = 2 * (3 * t + a) + 1 by omega]
            exact hzo _ (by omega)
          · rw [if_neg (fun w3 => by omega), if_neg (fun w3 => by omega)]
            refine i2 a h c hc ?_
            have w' : (T c || decide (c = b)) = true := w
            rw [decide_eq_false w2, Bool.or_false] at w'
            exact w') (fun j hj => by rw [a4 _ _ (by omega) (by omega)]; exact z4 j hj) (fun j hj => by rw [mk2 _ _ (by decide) (by decide)]; exact z8 j hj) (fun i hi => by
          by_cases w : i = b
          · show (T i || decide (i = b)) = true
            rw [decide_eq_true w, Bool.or_true]
          · show (T i || decide (i = b)) = true
            rw [hT i (by omega)]; rfl) (by rw [cc]; omega)
      exact ⟨σ', τ', T', V', g1, g2, g3, g4, g5, g6, g7, g8, fun k i w1 w2 => (g9 k i w1 w2).trans (a4 k i w1 w2), fun k i w1 w2 => (g10 k i w1 w2).trans (mk2 k i w1 w2), fun i w => (g11 i w).trans (mk i w)⟩
theorem P_boxes (σ τ : bx_St) (h : bx_R σ τ) : ∃ u w, mX3_boxes σ = some u ∧ mX4_boxes τ = some w ∧ u.1 = w.1 ∧ bx_R u.2 w.2 := by
  have bF : bx_F = 5000 := rfl
  obtain ⟨r, σ0, τ0, e1, e2, s, t, hr⟩ := batch_eq h.2.2
  have h0 := h.read s t
  rw [mX3_boxes, e1, Option.bind_some, mX4_boxes, e2, Option.bind_some]
  show ∃ u w, (if bI r = 0 then _ else _) = _ ∧ (if bI r = 0 then _ else _) = _ ∧ _
  cases r with
  | false =>
    rw [if_pos (by rfl), if_pos (by rfl)]
    exact ⟨_, _, rfl, rfl, rfl, h0⟩
  | true =>
    obtain ⟨m, z, hm, ⟨b1, b2, b3⟩, hzo⟩ := hr rfl
    have hh := h0
    obtain ⟨⟨T, tc, V, F, u, M, hA⟩, hG, hP⟩ := hh
    have hA' := hA
    obtain ⟨⟨x1, x2, x3, x4, x5, x6⟩, ⟨m1, m2, m3, m4⟩, ⟨i1, i2, i3, i4, i5⟩⟩ := hA'
    have d6 : nI (6 * m) / (6 : Int32) = nI m := by
      have : nI (6 * m) / (6 : Int32) = nI (6 * m / 6) := pk_div (d := 6) (by omega) (by omega) (by decide)
      rw [this]; congr 1; omega
    have hct := fb_ct_le T 12
    have ne1 : ¬ bI true = 0 := by decide
    rw [if_neg ne1, if_neg ne1]
    show ∃ u w, (if mJ6_bitCount_0f7a4 (σ0.1 0 6) + mX2_batchSize σ0 ≤ 12 then Option.bind (mX0_open σ0) (fun u5 => mX3_boxes_51 bx_F (mX2_batchSize σ0) 0 0 u5) else some (-10005, σ0)) = some u ∧ (Option.bind (mX4_boxMany τ0) fun u4 => (if (u4 + ((τ0.1 0 19) / (6 : Int32))) ≤ 12 then (Option.bind (mX4_beginChange τ0) fun u7 => (mX4_boxes_40 bx_F ((τ0.1 0 19) / (6 : Int32)) 0 u7)) else (some (-10005, τ0)))) = some w ∧ _
    rw [mX2_batchSize, b1, b2, d6, x1.1, bc_bm, m_boxMany m1.1, Option.bind_some, nI_add]
    have c12 : (nI (fb_ct T 12 + m) ≤ (12 : Int32)) = (fb_ct T 12 + m ≤ 12) := len_iff (n := 12) (by omega) (by decide)
    by_cases q : fb_ct T 12 + m ≤ 12
    · rw [if_pos (by rw [c12]; exact q), if_pos (by rw [c12]; exact q)]
      obtain ⟨σ1, τ1, a1, a2, hA1, hW, hL, s1, t1, t0, -⟩ := begin_eq hA hG
      obtain ⟨⟨y1, y2, y3, y4, y5, y6⟩, ⟨n1, n2, n3', n4'⟩, -⟩ := hA1
      obtain ⟨σ2, τ2, T', V', g1, g2, g3, g4, g5, g6, g7, g8, g9, g10, g11⟩ := boxes_loop (tc := tc) hm hzo (fun j hj => ⟨(b3 j hj).1, (b3 j hj).2.1⟩) 12 5000 5000 0 0 σ1 τ1 T V rfl (by omega) (by omega) (by omega) y1 n1 y3 n2 i1 i2 (fun j hj => by rw [s1 _ _ (by omega) (by omega)]; exact (b3 j hj).2.2.1) (fun j hj => by rw [t1 _ _ (by omega) (by omega) (by omega)]; exact (b3 j hj).2.2.2) (fun i hi => absurd hi (Nat.not_lt_zero i)) (by omega)
      obtain ⟨σ3, τ3, τ4, F', u', c1, c2, c3, hA2, hG2, k1, k2, k3, -⟩ := anew_R (σ := mX2_clear σ2) (τ := τ2) (T := T') (tc := tc) (V := V') (F := F) (O := ov M) ⟨by rw [mX2_clear, up_get, if_neg (by decide)]; exact g3.1, by rw [mX2_clear, up_get, if_neg (by decide)]; exact g3.2⟩ (by rw [mX2_clear]; exact g5.put (by omega)) (fun ax ha p hp => by rw [mX2_clear, up_get, if_neg (by omega), g9 _ _ (by omega) (by omega)]; exact (y4 ax ha).2 p hp) g4 g6 (fun ax ha p hp => by rw [g10 _ _ (by omega) (by omega)]; exact n3'.2 ax ha p hp) g7 g8 (fun a ha => by rw [mX2_clear, up_get, if_neg (by decide), g9 _ _ (by omega) (by omega)]; exact y6 a ha) (fun a b ha hb => by rw [g10 _ _ (by omega) (by omega)]; exact hW a b ha hb) (hL.same (fun i => by rw [mX2_clear, up_get, if_neg (by decide), g9 _ _ (by omega) (by omega)]) (fun i => by rw [mX2_clear, up_get, if_neg (by decide), g9 _ _ (by omega) (by omega)]) (fun i hi => g11 i (by omega)) (fun i => g10 _ _ (by omega) (by omega)))
      have g1' : mX3_boxes_51 5000 (nI m) 0 0 σ1 = mX3_boxes_85 (nI m) σ2 := g1
      have g2' : mX4_boxes_40 5000 (nI m) 0 τ1 = _ := g2
      refine ⟨(nI m, σ3), (nI m, bx_up τ4 0 0 0), ?_, ?_, rfl, ⟨⟨_, _, _, _, _, _, hA2.keep (fun _ _ _ => rfl) (fun i hi => ?_) (fun k hk i => ?_)⟩, hG2.keep (fun _ _ _ _ => rfl) (fun i hi => ?_) (fun k hk hk2 i => ?_), ⟨⟨0, ⟨by omega, fun i hi => absurd hi (Nat.not_lt_zero i)⟩, ?_, ?_⟩, fun i => ?_⟩⟩⟩
      · rw [a1, Option.bind_some, bF, g1', mX3_boxes_85, c1, Option.bind_some]
      · rw [a2, Option.bind_some, bF, g2', c2, Option.bind_some, c3, Option.bind_some]
      · rw [up_get, if_pos rfl, if_neg (by omega)]
      · rw [up_get, if_neg (by omega)]
      · rw [up_get, if_pos rfl, if_neg (by omega)]
      · rw [up_get, if_neg (by omega)]
      · rw [k1 _ _ (by omega), mX2_clear, up_get, if_pos rfl, if_pos rfl]; rfl
      · rw [up_get, if_pos rfl, if_pos rfl]; rfl
      · rw [k1 _ _ (by omega), mX2_clear, up_get, if_neg (by decide), g9 _ _ (by omega) (by omega), s1 _ _ (by omega) (by omega), up_get, if_neg (by decide), k3, g10 _ _ (by omega) (by omega), t1 _ _ (by omega) (by omega) (by omega)]
        exact hP.2 i
    · rw [if_neg (by rw [c12]; exact q), if_neg (by rw [c12]; exact q)]
      exact ⟨_, _, rfl, rfl, rfl, h0⟩
