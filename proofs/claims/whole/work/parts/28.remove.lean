/-- both sides open a change -/
theorem begin_eq {σ τ : bx_St} {T : Nat → Bool} {tc : Bool} {V : Nat → Nat → Int} {F : Nat → Nat → Nat} {u : Nat} {M : Nat → Nat → Nat → Bool} (hA : RA σ τ T tc V F u M) (hG : RG σ τ) : ∃ σ1 τ1, mX0_open σ = some σ1 ∧ mX4_beginChange τ = some τ1 ∧ RA σ1 τ1 T tc V F u M ∧ (∀ a b, a < 12 → b < 12 → τ1.1 9 (12 * a + b) = bI (ov M a b)) ∧ LG σ1 τ1 0 ∧ (∀ k i, k ≠ 5 → k ≠ 7 → σ1.1 k i = σ.1 k i) ∧ (∀ k i, k ≠ 0 → k ≠ 7 → k ≠ 9 → τ1.1 k i = τ.1 k i) ∧ (∀ i, i ≠ 24 → τ1.1 0 i = τ.1 0 i) ∧ (∀ i, i < 3 → σ1.1 7 i = 0) := by
  obtain ⟨σ1, a1, a2, a3, a4, a5, a6, a7⟩ := x_open σ
  obtain ⟨τ1, b1, b2, b3, b4, b5, b6⟩ := m_begin hA.2.1.2.2.2
  obtain ⟨g1, g2, g3, g4, g5, g6, g7, g8, g9, -⟩ := hG
  refine ⟨σ1, τ1, a1, b1, hA.keep (fun k hk i => a2 k i (by omega) (by omega)) (fun i hi => b3 i (by omega)) (fun k hk i => b2 k i (by omega) (by omega) (by omega)), b6, ⟨a4, a5, a6, b4, ?_, ?_, ?_, ?_, ?_, ?_⟩, a2, b2, b3, a7⟩
  · rw [b3 _ (by omega), a3 _ (by omega) (by omega) (by omega)]; exact g4
  · rw [b3 _ (by omega), a3 _ (by omega) (by omega) (by omega)]; exact g5
  · rw [b3 _ (by omega), a3 _ (by omega) (by omega) (by omega)]; exact g6
  · rw [b3 _ (by omega), a3 _ (by omega) (by omega) (by omega)]; exact g7
  · rw [b3 _ (by omega), a3 _ (by omega) (by omega) (by omega)]; exact g8
  · intro i hi; rw [b5 i hi, a7 i hi]
theorem XF.lo {σ : bx_St} {F : Nat → Nat → Nat} {u : Nat} (h : XF σ F u) : ∀ ax, ax < 3 → LO σ ax (F ax) := fun ax ha p hp => (h ax ha).2 p hp
theorem MF.ro {τ : bx_St} {F : Nat → Nat → Nat} {u : Nat} (h : MF τ F u) : ∀ ax, ax < 3 → RO τ ax (F ax) := fun ax ha p hp => h.2 ax ha p hp
theorem LG.same {σ τ σ' τ' : bx_St} {t : Nat} (h : LG σ τ t) (h5 : ∀ i, σ'.1 5 i = σ.1 5 i) (h7 : ∀ i, σ'.1 7 i = σ.1 7 i) (h0 : ∀ i, 14 ≤ i → τ'.1 0 i = τ.1 0 i) (m7 : ∀ i, τ'.1 7 i = τ.1 7 i) : LG σ' τ' t := by
  obtain ⟨l1, l2, l3, l4, l5, l6, l7, l8, l9, l10⟩ := h
  exact ⟨by rw [h5]; exact l1, by rw [h5]; exact l2, by rw [h5]; exact l3, by rw [h0 _ (by omega)]; exact l4, by rw [h5, h0 _ (by omega)]; exact l5, by rw [h5, h0 _ (by omega)]; exact l6, by rw [h5, h0 _ (by omega)]; exact l7, by rw [h5, h0 _ (by omega)]; exact l8, by rw [h5, h0 _ (by omega)]; exact l9, fun i h => by rw [h7, m7]; exact l10 i h⟩
theorem P_remove (σ τ : bx_St) (v1 : Int32) (h : bx_R σ τ) : ∃ u w, mX3_remove v1 σ = some u ∧ mX4_remove v1 τ = some w ∧ u.1 = w.1 ∧ bx_R u.2 w.2 := by
  have hh := h
  obtain ⟨⟨T, tc, V, F, u, M, hA⟩, hG, hP⟩ := hh
  have hA' := hA
  obtain ⟨⟨x1, x2, x3, x4, x5, x6⟩, ⟨m1, m2, m3, m4⟩, ⟨i1, i2, i3, i4, i5⟩⟩ := hA'
  by_cases z : v1 = 0
  · exact ⟨(-10003, σ), (-10003, τ), by rw [mX3_remove, if_pos z], by rw [mX4_remove, if_pos z], rfl, h⟩
  by_cases w : (v1 &&& (bm T ^^^ (-1 : Int32))) = 0
  · have wb := (bz_iff _).mp w
    have hv : v1 = bm (bt v1) := bm_of (fun i hi h12 => by
      have := wb i hi
      rw [b_and, b_xor, bm_bt, b_m1 i hi, decide_eq_false (by omega : ¬ i < 12)] at this
      simpa using this)
    have hsub : ∀ i, i < 12 → bt v1 i = true → T i = true := fun i hi q => by
      have := wb i (by omega)
      rw [b_and, b_xor, bm_bt, b_m1 i (by omega), decide_eq_true hi, q] at this
      simpa using this
    generalize bt v1 = W at *
    subst hv
    obtain ⟨σ1, τ1, a1, a2, hA1, hW, hL, s1, t1, t0, -⟩ := begin_eq hA hG
    obtain ⟨⟨y1, y2, y3, y4, y5, y6⟩, ⟨n1, n2, n3', n4'⟩, -⟩ := hA1
    have eσ : (σ1.1 0 6) &&& (bm W ^^^ (-1 : Int32)) = bm (fun i => T i && !W i) := by rw [y1.1, bm_andn]
    have eτ : (τ1.1 0 2) &&& (bm W ^^^ (-1 : Int32)) = bm (fun i => T i && !W i) := by rw [n1.1, bm_andn]
    obtain ⟨σ2, τ2, τ3, F', u', c1, c2, c3, hA2, hG2, k1, k2, k3, -⟩ := anew_R (σ := bx_up σ1 0 6 (bm (fun i => T i && !W i))) (τ := bx_up τ1 0 2 (bm (fun i => T i && !W i))) (T := fun i => T i && !W i) (tc := tc) (V := V) (F := F) (O := ov M) ⟨by rw [up_get, if_pos rfl, if_pos rfl], by rw [up_get, if_pos rfl, if_neg (by decide)]; exact y1.2⟩ (y3.put (by omega)) (fun ax ha p hp => by rw [up_get, if_neg (by omega)]; exact (y4 ax ha).2 p hp) ⟨by rw [up_get, if_pos rfl, if_pos rfl], by rw [up_get, if_pos rfl, if_neg (by decide)]; exact n1.2⟩ (n2.put (by decide)) (fun ax ha p hp => by rw [up_get, if_neg (by decide)]; exact n3'.2 ax ha p hp) i1 (fun ax ha b hb q => i2 ax ha b hb (Bool.and_eq_true_iff.mp q).1) (fun a ha => by rw [up_get, if_neg (by decide)]; exact y6 a ha) (fun a b ha hb => by rw [up_get, if_neg (by decide)]; exact hW a b ha hb) (hL.same (fun i => by rw [up_get, if_neg (by decide)]) (fun i => by rw [up_get, if_neg (by decide)]) (fun i hi => by rw [up_get, if_pos rfl, if_neg (by omega)]) (fun i => by rw [up_get, if_neg (by decide)]))
    have cw := m_boxMany m1.1
    have ca := m_boxMany hA2.2.1.1.1
    refine ⟨(nI (fb_ct W 12), σ2), (nI (fb_ct W 12), τ3), ?_, ?_, rfl, ⟨⟨_, _, _, _, _, _, hA2⟩, hG2, ?_⟩⟩
    · rw [mX3_remove, if_neg z, x1.1, if_pos w, a1, Option.bind_some, bx_let, eσ, c1, Option.bind_some, bc_bm]
    · rw [mX4_remove, if_neg z, m1.1, if_pos w, cw, Option.bind_some, a2, Option.bind_some, bx_let, eτ, c2, Option.bind_some, c3, Option.bind_some, ca, Option.bind_some]
      have e : fb_ct T 12 = fb_ct (fun i => T i && !W i) 12 + fb_ct W 12 := by
        rw [← fb_ct_or (fun k _ q => by
          have := q.1
          rw [q.2] at this
          simp at this)]
        refine fb_ct_cong (fun k hk => ?_)
        cases q : W k with
        | false => simp
        | true => rw [hsub k hk q]; rfl
      rw [e, ← nI_add, Int32.add_comm, Int32.add_sub_cancel]
    · refine hP.keep ?_ ?_ ?_ ?_
      · rw [k1 _ _ (by omega), up_get, if_neg (by decide), s1 _ _ (by omega) (by omega)]
      · intro i; rw [k1 _ _ (by omega), up_get, if_neg (by decide), s1 _ _ (by omega) (by omega)]
      · rw [k2, up_get, if_pos rfl, if_neg (by decide), t0 _ (by omega)]
      · intro i; rw [k3, up_get, if_neg (by decide), t1 _ _ (by omega) (by omega) (by omega)]
  · exact ⟨(-10003, σ), (-10003, τ), by rw [mX3_remove, if_neg z, x1.1, if_neg w], by rw [mX4_remove, if_neg z, m1.1, if_neg w], rfl, h⟩
theorem P_touch (σ τ : bx_St) (v1 : Int32) (h : bx_R σ τ) (hv : bx_bo v1) : ∃ u w, mX3_touch v1 σ = some u ∧ mX4_touch v1 τ = some w ∧ u.1 = w.1 ∧ bx_R u.2 w.2 := by
  obtain ⟨⟨T, tc, V, F, u, M, hA⟩, hG, hP⟩ := h
  have hA' := hA
  obtain ⟨⟨x1, x2, x3, x4, x5, x6⟩, ⟨m1, m2, m3, m4⟩, ⟨i1, i2, i3, i4, i5⟩⟩ := hA'
  obtain ⟨g, rfl⟩ : ∃ g : Bool, v1 = bI g := by
    rcases hv with q | q
    · exact ⟨false, q⟩
    · exact ⟨true, q⟩
  obtain ⟨σ1, τ1, a1, a2, hA1, hW, hL, s1, t1, t0, -⟩ := begin_eq hA hG
  obtain ⟨⟨y1, y2, y3, y4, y5, y6⟩, ⟨n1, n2, n3', n4'⟩, -⟩ := hA1
  obtain ⟨σ2, τ2, τ3, F', u', c1, c2, c3, hA2, hG2, k1, k2, k3, -⟩ := anew_R (σ := bx_up σ1 0 7 (bI g)) (τ := bx_up τ1 0 3 (bI g)) (T := T) (tc := g) (V := V) (F := F) (O := ov M) ⟨by rw [up_get, if_pos rfl, if_neg (by decide)]; exact y1.1, by rw [up_get, if_pos rfl, if_pos rfl]⟩ (y3.put (by omega)) (fun ax ha p hp => by rw [up_get, if_neg (by omega)]; exact (y4 ax ha).2 p hp) ⟨by rw [up_get, if_pos rfl, if_neg (by decide)]; exact n1.1, by rw [up_get, if_pos rfl, if_pos rfl]⟩ (n2.put (by decide)) (fun ax ha p hp => by rw [up_get, if_neg (by decide)]; exact n3'.2 ax ha p hp) i1 i2 (fun a ha => by rw [up_get, if_neg (by decide)]; exact y6 a ha) (fun a b ha hb => by rw [up_get, if_neg (by decide)]; exact hW a b ha hb) (hL.same (fun i => by rw [up_get, if_neg (by decide)]) (fun i => by rw [up_get, if_neg (by decide)]) (fun i hi => by rw [up_get, if_pos rfl, if_neg (by omega)]) (fun i => by rw [up_get, if_neg (by decide)]))
  have e1 : ∀ x, mX3_touch_12 (bI g) x σ = some (x, σ2) := fun x => by rw [mX3_touch_12, a1, Option.bind_some, if_pos (bI_bo g), c1, Option.bind_some]
  have e2 : ∀ x, mX4_touch_12 (bI g) x τ = some (x, τ3) := fun x => by rw [mX4_touch_12, a2, Option.bind_some, if_pos (bI_bo g), c2, Option.bind_some, c3, Option.bind_some]
  refine ⟨(bI tc, σ2), (bI tc, τ3), ?_, ?_, rfl, ⟨⟨_, _, _, _, _, _, hA2⟩, hG2, ?_⟩⟩
  · rw [mX3_touch, x1.2, e1, e1]
    cases tc with
    | false => rw [if_pos (by rfl)]; rfl
    | true => rw [if_neg (by decide)]; rfl
  · rw [mX4_touch, m1.2, e2, e2]
    cases tc with
    | false => rw [if_pos (by rfl)]; rfl
    | true => rw [if_neg (by decide)]; rfl
  · refine hP.keep ?_ ?_ ?_ ?_
    · rw [k1 _ _ (by omega), up_get, if_neg (by decide), s1 _ _ (by omega) (by omega)]
    · intro i; rw [k1 _ _ (by omega), up_get, if_neg (by decide), s1 _ _ (by omega) (by omega)]
    · rw [k2, up_get, if_pos rfl, if_neg (by decide), t0 _ (by omega)]
    · intro i; rw [k3, up_get, if_neg (by decide), t1 _ _ (by omega) (by omega) (by omega)]
