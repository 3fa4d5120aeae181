def mkM (T : Nat → Bool) (tc : Bool) (V : Nat → Nat → Int) (ax a b : Nat) : Bool := decide (a ≠ b) && T a && T b && decide (ky tc V ax (2 * a) < ky tc V ax (2 * b + 1)) && decide (ky tc V ax (2 * b) < ky tc V ax (2 * a + 1))
theorem mkM_MK (T : Nat → Bool) (tc : Bool) (V : Nat → Nat → Int) : MK T tc V (mkM T tc V) := fun _ _ _ _ _ _ => rfl
theorem mkM_sp {T : Nat → Bool} {tc : Bool} {V : Nat → Nat → Int} {ax a b : Nat} (ha : a < 12) (hb : b < 12) (hne : a ≠ b) (hTa : T a = true) (hTb : T b = true) : mkM T tc V ax a b = (decide (V ax (2 * a) < V ax (2 * b + 1) + (if tc then 1 else 0)) && decide (V ax (2 * b) < V ax (2 * a + 1) + (if tc then 1 else 0))) := by
  rw [mkM, decide_eq_true hne, hTa, hTb, Bool.true_and, Bool.true_and, Bool.true_and]
  congr 1
  · exact decide_eq_decide.mpr (ky_lh tc V ax ha hb)
  · exact decide_eq_decide.mpr (ky_lh tc V ax hb ha)
theorem bm_sf {g : Nat → Bool} {o : Nat} (h : g o = false) : bm (fun j => decide (j < o) && g j) = bm (fun j => decide (j < o + 1) && g j) := by
  refine bm_cong (fun j _ => ?_)
  by_cases q : j = o
  · subst q; rw [h]; simp
  · by_cases q2 : j < o
    · rw [decide_eq_true q2, decide_eq_true (by omega : j < o + 1)]
    · rw [decide_eq_false q2, decide_eq_false (by omega : ¬ j < o + 1)]
theorem bm_st {g : Nat → Bool} {o : Nat} (ho : o < 12) (h : g o = true) : bm (fun j => decide (j < o) && g j) ||| mX3_bit (nI o) = bm (fun j => decide (j < o + 1) && g j) := by
  rw [bm_or ho]
  refine bm_cong (fun j _ => ?_)
  by_cases q : j = o
  · subst q; rw [h]; simp
  · by_cases q2 : j < o
    · rw [decide_eq_true q2, decide_eq_true (by omega : j < o + 1), decide_eq_false q, Bool.or_false]
    · rw [decide_eq_false q2, decide_eq_false (by omega : ¬ j < o + 1), decide_eq_false q, Bool.or_false]
theorem x_find_loop {V : Nat → Nat → Int} {T : Nat → Bool} {tc : Bool} (hr : VR V) {ax b : Nat} (ha : ax < 3) (hb : b < 12) (hT : T b = true) : ∀ (k n o : Nat) (σ : bx_St), o + k = 12 → k < n → XV σ V → σ.1 (8 + 5 * ax) 5 = bI tc → σ.1 (8 + 5 * ax + 4) b = bm (fun j => decide (j < o) && mkM T tc V ax b j) → ∃ σ', mX1_findMeets_2 (8 + 5 * ax) n (bm T) (nI b) (nI o) σ = some σ' ∧ σ'.1 (8 + 5 * ax + 4) b = bm (mkM T tc V ax b) ∧ (∀ k i, (k = 8 + 5 * ax + 4 → i ≠ b) → σ'.1 k i = σ.1 k i) := by
  intro k
  induction k with
  | zero =>
    intro n o σ ho hn hv hk hm
    obtain ⟨n, rfl⟩ : ∃ m, n = m + 1 := ⟨n - 1, by omega⟩
    have : o = 12 := by omega
    subst this
    refine ⟨σ, by rw [mX1_findMeets_2, if_pos (by decide)], ?_, fun _ _ _ => rfl⟩
    rw [hm]
    exact bm_cong (fun j hj => by rw [decide_eq_true hj, Bool.true_and])
  | succ k ih =>
    intro n o σ ho hn hv hk hm
    obtain ⟨n, rfl⟩ : ∃ m, n = m + 1 := ⟨n - 1, by omega⟩
    have ho12 : o < 12 := by omega
    have skip : mkM T tc V ax b o = false → ∃ σ', mX1_findMeets_54 (8 + 5 * ax) (mX1_findMeets_2 (8 + 5 * ax) n) (bm T) (nI b) (nI o) σ = some σ' ∧ σ'.1 (8 + 5 * ax + 4) b = bm (mkM T tc V ax b) ∧ (∀ k i, (k = 8 + 5 * ax + 4 → i ≠ b) → σ'.1 k i = σ.1 k i) := by
      intro q
      rw [mX1_findMeets_54, nI_1]
      exact ih n (o + 1) σ (by omega) (by omega) hv hk (by rw [hm, bm_sf q])
    rw [mX1_findMeets_2, if_neg (n12 ho12)]
    by_cases q1 : o = b
    · rw [if_pos (by rw [q1])]
      exact skip (by rw [mkM, decide_eq_false (by omega : ¬ b ≠ o)]; rfl)
    rw [if_neg (by rw [eqn_iff (by omega) (by omega)]; exact q1), hold_bm _ ho12]
    cases q2 : T o with
    | false =>
      rw [if_pos (by rfl)]
      exact skip (by rw [mkM, q2]; simp)
    | true =>
      have e1 := mkM_sp (tc := tc) (V := V) (ax := ax) hb ho12 (Ne.symm q1) hT q2
      rw [if_neg (by decide), if_pos (ok_nI ho12 (by decide)), if_pos (ok_nI ho12 (by decide)), cl_nI (by omega), (hv ax ha o ho12).1, (hv ax ha o ho12).2, x_span1 hv hk hr hb ha (hr ax ha _ (by omega)) (hr ax ha _ (by omega)), Option.bind_some, ← e1]
      cases q3 : mkM T tc V ax b o with
      | false =>
        rw [if_pos (by rfl)]
        exact skip q3
      | true =>
        rw [if_neg (by decide), if_pos (ok_nI hb (by decide)), if_pos (ok_nI hb (by decide)), cl_nI (by omega), bx_let, mX1_findMeets_54, nI_1, hm, bm_st ho12 q3]
        obtain ⟨σ', g1, g2, g3⟩ := ih n (o + 1) (bx_up σ (8 + 5 * ax + 4) b (bm (fun j => decide (j < o + 1) && mkM T tc V ax b j))) (by omega) (by omega) (hv.put (by omega)) (by rw [up_get, if_neg (by omega), hk]) (by rw [up_get, if_pos rfl, if_pos rfl])
        refine ⟨σ', g1, g2, fun k' i q => ?_⟩
        rw [g3 k' i q, up_get]
        by_cases q4 : k' = 8 + 5 * ax + 4
        · rw [if_pos q4, if_neg (q q4), q4]
        · rw [if_neg q4]
theorem XV.same {σ σ' : bx_St} {V : Nat → Nat → Int} (h : XV σ V) (e : ∀ ax, ax < 3 → ∀ i, σ'.1 (8 + 5 * ax + 1) i = σ.1 (8 + 5 * ax + 1) i ∧ σ'.1 (8 + 5 * ax + 2) i = σ.1 (8 + 5 * ax + 2) i) : XV σ' V := by
  intro a ha b hb
  rw [(e a ha b).1, (e a ha b).2]
  exact h a ha b hb
/-- of a line nothing changes but its order and what meets -/
def KA (ax : Nat) (σ σ' : bx_St) : Prop := ∀ k i, k ≠ 8 + 5 * ax + 3 → k ≠ 8 + 5 * ax + 4 → (k = 8 + 5 * ax → i ≠ 4) → σ'.1 k i = σ.1 k i
theorem KA.XV {ax : Nat} {σ σ' : bx_St} {V : Nat → Nat → Int} (h : KA ax σ σ') (hv : XV σ V) : XV σ' V := hv.same (fun a ha i => ⟨h _ _ (by omega) (by omega) (fun q => by omega), h _ _ (by omega) (by omega) (fun q => by omega)⟩)
theorem KA.trans {ax : Nat} {a b c : bx_St} (h : KA ax a b) (h2 : KA ax b c) : KA ax a c := fun k i q1 q2 q3 => (h2 k i q1 q2 q3).trans (h k i q1 q2 q3)
theorem x_insert {V : Nat → Nat → Int} {T : Nat → Bool} {tc : Bool} (hr : VR V) {ax e : Nat} (ha : ax < 3) (he : e < 24) (hT : T (e / 2) = true) {f0 : Nat → Nat} {σ : bx_St} (hv : XV σ V) (hk : σ.1 (8 + 5 * ax) 5 = bI tc) (hl : LO σ ax (rowF T (klt tc V ax) f0 e)) (hu : σ.1 (8 + 5 * ax) 4 = nI (cnt T e)) : ∃ σ', mX1_insert (8 + 5 * ax) (nI e) σ = some σ' ∧ LO σ' ax (rowF T (klt tc V ax) f0 (e + 1)) ∧ σ'.1 (8 + 5 * ax) 4 = nI (cnt T (e + 1)) ∧ (∀ k i, k ≠ 8 + 5 * ax + 3 → (k = 8 + 5 * ax → i ≠ 4) → σ'.1 k i = σ.1 k i) := by
  have hc := cnt_le T e
  obtain ⟨k1, -, -⟩ := rowF_ok T tc V ax f0 e (by omega)
  obtain ⟨σ', g1, g2, g3, g4⟩ := x_ins_loop hr ha he (cnt T e) 5000 (rowF T (klt tc V ax) f0 e) σ (by omega) (by omega) hv hk hl (fun i hi => by have := (k1 i hi).1; omega)
  refine ⟨σ', by rw [mX1_insert, hu]; exact g1, ?_, ?_, g4⟩
  · rw [rowF, if_pos hT]; exact g2
  · rw [g3, hu, nI_1, cnt_succ, if_pos hT]
theorem x_arr_loop {V : Nat → Nat → Int} {T : Nat → Bool} {tc : Bool} (hr : VR V) {ax : Nat} (ha : ax < 3) (f0 : Nat → Nat) : ∀ (k n b : Nat) (σ : bx_St), b + k = 12 → k < n → XV σ V → σ.1 (8 + 5 * ax) 5 = bI tc → LO σ ax (rowF T (klt tc V ax) f0 (2 * b)) → σ.1 (8 + 5 * ax) 4 = nI (cnt T (2 * b)) → (∀ a, a < b → σ.1 (8 + 5 * ax + 4) a = bm (mkM T tc V ax a)) → ∃ σ', mX1_arrange_12 (8 + 5 * ax) n (bm T) (nI b) σ = some σ' ∧ LO σ' ax (rowF T (klt tc V ax) f0 24) ∧ σ'.1 (8 + 5 * ax) 4 = nI (cnt T 24) ∧ (∀ a, a < 12 → σ'.1 (8 + 5 * ax + 4) a = bm (mkM T tc V ax a)) ∧ KA ax σ σ' := by
  intro k
  induction k with
  | zero =>
    intro n b σ hb hn hv hk hl hu hm
    obtain ⟨n, rfl⟩ : ∃ m, n = m + 1 := ⟨n - 1, by omega⟩
    have : b = 12 := by omega
    subst this
    exact ⟨σ, by rw [mX1_arrange_12, if_pos (by decide)], hl, hu, hm, fun _ _ _ _ _ => rfl⟩
  | succ k ih =>
    intro n b σ hb hn hv hk hl hu hm
    obtain ⟨n, rfl⟩ : ∃ m, n = m + 1 := ⟨n - 1, by omega⟩
    have hb12 : b < 12 := by omega
    rw [mX1_arrange_12, if_neg (n12 hb12), if_pos (ok_nI hb12 (by decide)), cl_nI (by omega), bx_let, hold_bm _ hb12]
    have k0 : KA ax σ (bx_up σ (8 + 5 * ax + 4) b 0) := fun k i q1 q2 q3 => by rw [up_get, if_neg q2]
    have v0 := k0.XV hv
    have kk0 : (bx_up σ (8 + 5 * ax + 4) b 0).1 (8 + 5 * ax) 5 = bI tc := by rw [up_get, if_neg (by omega), hk]
    have ku0 : (bx_up σ (8 + 5 * ax + 4) b 0).1 (8 + 5 * ax) 4 = nI (cnt T (2 * b)) := by rw [up_get, if_neg (by omega), hu]
    have l0 : LO (bx_up σ (8 + 5 * ax + 4) b 0) ax (rowF T (klt tc V ax) f0 (2 * b)) := fun p hp => by rw [up_get, if_neg (by omega)]; exact hl p hp
    have m0 : ∀ a, a < b → (bx_up σ (8 + 5 * ax + 4) b 0).1 (8 + 5 * ax + 4) a = bm (mkM T tc V ax a) := fun a h => by rw [up_get, if_pos rfl, if_neg (by omega)]; exact hm a h
    have mb : (bx_up σ (8 + 5 * ax + 4) b 0).1 (8 + 5 * ax + 4) b = 0 := by rw [up_get, if_pos rfl, if_pos rfl]
    have d1 : 2 * b / 2 = b := by omega
    have d2 : (2 * b + 1) / 2 = b := by omega
    cases hT : T b with
    | false =>
      rw [if_pos (by rfl), mX1_arrange_55, nI_1]
      obtain ⟨σ', g1, g2, g3, g4, g5⟩ := ih n (b + 1) _ (by omega) (by omega) v0 kk0 (by
        rw [show 2 * (b + 1) = 2 * b + 1 + 1 by omega, rowF, d2, hT, if_neg (by decide), rowF, d1, hT, if_neg (by decide)]
        exact l0) (by
        rw [show 2 * (b + 1) = 2 * b + 1 + 1 by omega, cnt_succ, d2, hT, cnt_succ, d1, hT]
        exact ku0) (fun a h => by
        by_cases q : a = b
        · rw [q, mb, ← bm_0]
          exact bm_cong (fun j _ => by rw [mkM, hT]; simp)
        · exact m0 a (by omega))
      exact ⟨σ', g1, g2, g3, g4, k0.trans g5⟩
    | true =>
      have t0 : mX1_lowEnd (nI b) = nI (2 * b) := by rw [mX1_lowEnd]; show nI 2 * nI b = _; rw [pk_mul]
      have t1 : mX1_highEnd (nI b) = nI (2 * b + 1) := by rw [mX1_highEnd]; show nI 2 * nI b + 1 = _; rw [pk_mul, nI_1]
      obtain ⟨σ1, a1, a2, a3, a4⟩ := x_insert hr ha (e := 2 * b) (by omega) (by rw [d1]; exact hT) v0 kk0 l0 ku0
      have k1 : KA ax (bx_up σ (8 + 5 * ax + 4) b 0) σ1 := fun k i q1 q2 q3 => a4 k i q1 q3
      obtain ⟨σ2, b1, b2, b3, b4⟩ := x_insert hr ha (e := 2 * b + 1) (by omega) (by rw [d2]; exact hT) (k1.XV v0) (by rw [a4 _ _ (by omega) (fun _ => by omega), kk0]) a2 a3
      have k2 : KA ax σ1 σ2 := fun k i q1 q2 q3 => b4 k i q1 q3
      have m2 : ∀ a, σ2.1 (8 + 5 * ax + 4) a = (bx_up σ (8 + 5 * ax + 4) b 0).1 (8 + 5 * ax + 4) a := fun a => by rw [b4 _ _ (by omega) (fun q => by omega), a4 _ _ (by omega) (fun q => by omega)]
      have kk2 : σ2.1 (8 + 5 * ax) 5 = bI tc := by rw [b4 _ _ (by omega) (fun _ => by omega), a4 _ _ (by omega) (fun _ => by omega), kk0]
      obtain ⟨σ3, c1, c2, c3⟩ := x_find_loop hr ha hb12 hT 12 5000 0 σ2 rfl (by omega) (k2.XV (k1.XV v0)) kk2 (by rw [m2, mb, ← bm_0]; exact bm_cong (fun j _ => by simp))
      have k3 : KA ax σ2 σ3 := fun k i q1 q2 q3 => c3 k i (fun q => absurd q q2)
      have c1' : mX1_findMeets (8 + 5 * ax) (bm T) (nI b) σ2 = some σ3 := by rw [mX1_findMeets]; exact c1
      rw [if_neg (by decide), t0, a1, Option.bind_some, t1, b1, Option.bind_some, c1', Option.bind_some, mX1_arrange_55, nI_1]
      obtain ⟨σ', g1, g2, g3, g4, g5⟩ := ih n (b + 1) σ3 (by omega) (by omega) (k3.XV (k2.XV (k1.XV v0))) (by rw [c3 _ _ (fun q => by omega), kk2]) (by
        intro p hp
        rw [c3 _ _ (fun q => by omega)]
        exact b2 p hp) (by rw [c3 _ _ (fun q => by omega), b3]; rfl) (fun a h => by
        by_cases q : a = b
        · rw [q, c2]
        · rw [c3 _ _ (fun _ => q), m2]; exact m0 a (by omega))
      exact ⟨σ', g1, g2, g3, g4, k0.trans (k1.trans (k2.trans (k3.trans g5)))⟩
/-- a line is in order -/
def LA (σ : bx_St) (T : Nat → Bool) (tc : Bool) (V : Nat → Nat → Int) (F : Nat → Nat → Nat) (ax : Nat) : Prop := σ.1 (8 + 5 * ax) 5 = bI tc ∧ LO σ ax (rowF T (klt tc V ax) (F ax) 24) ∧ σ.1 (8 + 5 * ax) 4 = nI (cnt T 24) ∧ (∀ a, a < 12 → σ.1 (8 + 5 * ax + 4) a = bm (mkM T tc V ax a))
theorem x_arrange {V : Nat → Nat → Int} {T : Nat → Bool} {tc : Bool} (hr : VR V) {ax : Nat} (ha : ax < 3) {F : Nat → Nat → Nat} {σ : bx_St} (hv : XV σ V) (hl : LO σ ax (F ax)) : ∃ σ', mX1_arrange (8 + 5 * ax) (bm T) (bI tc) σ = some σ' ∧ LA σ' T tc V F ax ∧ (∀ k i, k ≠ 8 + 5 * ax → k ≠ 8 + 5 * ax + 3 → k ≠ 8 + 5 * ax + 4 → σ'.1 k i = σ.1 k i) := by
  have bF : bx_F = 5000 := rfl
  obtain ⟨σ', g1, g2, g3, g4, g5⟩ := x_arr_loop (T := T) (tc := tc) hr ha (F ax) 12 5000 0 (bx_up (bx_up σ (8 + 5 * ax) 5 (bI tc)) (8 + 5 * ax) 4 0) rfl (by omega) ((hv.put (by omega)).put (by omega)) (by rw [up_get, if_pos rfl, if_neg (by decide), up_get, if_pos rfl, if_pos rfl]) (fun p hp => by
    rw [up_get, if_neg (by omega), up_get, if_neg (by omega)]
    exact hl p hp) (by rw [up_get, if_pos rfl, if_pos rfl]; rfl) (fun a h => absurd h (Nat.not_lt_zero a))
  refine ⟨σ', by rw [mX1_arrange, if_pos (bI_bo tc), bF]; exact g1, ⟨?_, g2, g3, g4⟩, ?_⟩
  · rw [g5 _ _ (by omega) (by omega) (fun _ => by omega), up_get, if_pos rfl, if_neg (by decide), up_get, if_pos rfl, if_pos rfl]
  · intro k i q1 q2 q3
    rw [g5 k i q2 q3 (fun q => absurd q q1), up_get, if_neg q1, up_get, if_neg q1]
theorem LA.same {σ σ' : bx_St} {T : Nat → Bool} {tc : Bool} {V : Nat → Nat → Int} {F : Nat → Nat → Nat} {ax : Nat} (h : LA σ T tc V F ax) (e : ∀ k i, k = 8 + 5 * ax ∨ k = 8 + 5 * ax + 3 ∨ k = 8 + 5 * ax + 4 → σ'.1 k i = σ.1 k i) : LA σ' T tc V F ax := by
  obtain ⟨h1, h2, h3, h4⟩ := h
  exact ⟨by rw [e _ _ (by omega)]; exact h1, fun p hp => by rw [e _ _ (by omega)]; exact h2 p hp, by rw [e _ _ (by omega)]; exact h3, fun a h => by rw [e _ _ (by omega)]; exact h4 a h⟩
/-- of the lines nothing changes but order, how many, touching, what meets -/
def KL (σ σ' : bx_St) : Prop := ∀ k i, (∀ ax, ax < 3 → k ≠ 8 + 5 * ax ∧ k ≠ 8 + 5 * ax + 3 ∧ k ≠ 8 + 5 * ax + 4) → σ'.1 k i = σ.1 k i
theorem KL.XV {σ σ' : bx_St} {V : Nat → Nat → Int} (h : KL σ σ') (hv : XV σ V) : XV σ' V := hv.same (fun a ha i => ⟨h _ _ (by omega), h _ _ (by omega)⟩)
theorem x_rearr_loop {V : Nat → Nat → Int} {T : Nat → Bool} {tc : Bool} (hr : VR V) {F : Nat → Nat → Nat} : ∀ (k n ax : Nat) (σ : bx_St), ax + k = 3 → k < n → XB σ T tc → XV σ V → (∀ a, ax ≤ a → a < 3 → LO σ a (F a)) → (∀ a, a < ax → LA σ T tc V F a) → ∃ σ', mX3_rearrange_2 n (nI ax) σ = (Option.bind (mX3_tellEvents σ') fun u2 => some u2) ∧ (∀ a, a < 3 → LA σ' T tc V F a) ∧ KL σ σ' := by
  intro k
  induction k with
  | zero =>
    intro n ax σ hx hn hB hv hl hA
    obtain ⟨n, rfl⟩ : ∃ m, n = m + 1 := ⟨n - 1, by omega⟩
    have : ax = 3 := by omega
    subst this
    exact ⟨σ, by rw [mX3_rearrange_2, if_pos (by decide)], hA, fun _ _ _ => rfl⟩
  | succ k ih =>
    intro n ax σ hx hn hB hv hl hA
    obtain ⟨n, rfl⟩ : ∃ m, n = m + 1 := ⟨n - 1, by omega⟩
    have ha : ax < 3 := by omega
    obtain ⟨σ1, e1, e2, e3⟩ := x_arrange (T := T) (tc := tc) hr ha hv (hl ax (by omega) ha)
    have kl : KL σ σ1 := fun k i q => e3 k i (q ax ha).1 (q ax ha).2.1 (q ax ha).2.2
    rw [mX3_rearrange_2, if_neg (n3 ha), lineOf_eq ax ha, hB.1, hB.2, e1, Option.bind_some, nI_1]
    obtain ⟨σ2, g1, g2, g3⟩ := ih n (ax + 1) σ1 (by omega) (by omega) ⟨by rw [kl 0 6 (by omega)]; exact hB.1, by rw [kl 0 7 (by omega)]; exact hB.2⟩ (kl.XV hv) (fun a h1 h2 p hp => by rw [e3 _ _ (by omega) (by omega) (by omega)]; exact hl a (by omega) h2 p hp) (fun a h => by
      by_cases q : a = ax
      · rw [q]; exact e2
      · exact (hA a (by omega)).same (fun k i q2 => e3 k i (by omega) (by omega) (by omega)))
    exact ⟨σ2, g1, g2, fun k i q => (g3 k i q).trans (kl k i q)⟩
/-! the reference lays all anew -/
theorem m_row_loop {V : Nat → Nat → Int} {T : Nat → Bool} {tc : Bool} (hr : VR V) {ax : Nat} (ha : ax < 3) (f0 : Nat → Nat) : ∀ (k n e : Nat) (τ : bx_St), e + k = 24 → k < n → MV τ V → MB τ T tc → RO τ ax (rowF T (klt tc V ax) f0 e) → τ.1 0 5 = nI (cnt T e) → ∃ τ', mX4_layRow_7 n (nI ax) (nI e) τ = some τ' ∧ RO τ' ax (rowF T (klt tc V ax) f0 24) ∧ τ'.1 0 5 = nI (cnt T 24) ∧ (∀ k i, (k = 3 → i < 24 * ax ∨ 24 * ax + 24 ≤ i) → (k = 0 → i ≠ 5) → τ'.1 k i = τ.1 k i) := by
  intro k
  induction k with
  | zero =>
    intro n e τ he hn hv hB hl hu
    obtain ⟨n, rfl⟩ : ∃ m, n = m + 1 := ⟨n - 1, by omega⟩
    have : e = 24 := by omega
    subst this
    exact ⟨τ, by rw [mX4_layRow_7, if_pos (by decide)], hl, hu, fun _ _ _ _ => rfl⟩
  | succ k ih =>
    intro n e τ he hn hv hB hl hu
    obtain ⟨n, rfl⟩ : ∃ m, n = m + 1 := ⟨n - 1, by omega⟩
    have he24 : e < 24 := by omega
    have hc := cnt_le T e
    have bF : bx_F = 5000 := rfl
    rw [mX4_layRow_7, if_neg (n24 he24), hB.1, m_div2 (by omega), has_bm _ (by omega)]
    cases hT : T (e / 2) with
    | false =>
      rw [if_pos (by rfl), mX4_layRow_115, nI_1]
      exact ih n (e + 1) τ (by omega) (by omega) hv hB (by rw [rowF, hT, if_neg (by decide)]; exact hl) (by rw [cnt_succ, hT]; exact hu)
    | true =>
      obtain ⟨k1, -, -⟩ := rowF_ok T tc V ax f0 e (by omega)
      obtain ⟨τ1, g1, g2, g3, g4⟩ := m_ins_loop hr ha he24 (mX4_layRow_7 n) (cnt T e) 5000 _ τ (by omega) (by omega) hv hB hl (fun i hi => by have := (k1 i hi).1; omega)
      rw [if_neg (by decide), hu, bF, g1]
      obtain ⟨τ2, f1, f2, f3, f4⟩ := ih n (e + 1) τ1 (by omega) (by omega) (fun a h b hb j hj => by rw [g4 _ _ (fun q => by omega) (fun q => by omega)]; exact hv a h b hb j hj) ⟨by rw [g4 _ _ (fun q => by omega) (fun q => by omega)]; exact hB.1, by rw [g4 _ _ (fun q => by omega) (fun q => by omega)]; exact hB.2⟩ (by rw [rowF, hT, if_pos rfl]; exact g2) (by rw [g3, hu, nI_1, cnt_succ, hT]; rfl)
      exact ⟨τ2, f1, f2, f3, fun k i q1 q2 => (f4 k i q1 q2).trans (g4 k i q1 q2)⟩
theorem m_areMeeting {τ : bx_St} {V : Nat → Nat → Int} {T : Nat → Bool} {tc : Bool} (h : MV τ V) (hB : MB τ T tc) (hr : VR V) {a b ax : Nat} (ha : a < 12) (hb : b < 12) (hx : ax < 3) : mX4_areMeeting (nI a) (nI b) (nI ax) τ = some (bI (decide (V ax (2 * a) < V ax (2 * b + 1) + (if tc then 1 else 0)) && decide (V ax (2 * b) < V ax (2 * a + 1) + (if tc then 1 else 0)))) := by
  have r1 := hr ax hx (2 * a) (by omega)
  have r2 := hr ax hx (2 * a + 1) (by omega)
  have r3 := hr ax hx (2 * b) (by omega)
  have r4 := hr ax hx (2 * b + 1) (by omega)
  have key : ∀ t : Int, 0 ≤ t → t ≤ 1 → mX4_areMeeting_12 (nI a) (nI b) (nI ax) (iv t) τ = some (bI (decide (V ax (2 * a) < V ax (2 * b + 1) + t) && decide (V ax (2 * b) < V ax (2 * a + 1) + t))) := by
    intro t t0 t1
    rw [mX4_areMeeting_12, m_lowOf h ha hx, Option.bind_some, m_highOf h hb hx, Option.bind_some, iv_add, m_lowOf h hb hx, Option.bind_some, m_highOf h ha hx, Option.bind_some, iv_add]
    by_cases q1 : V ax (2 * b + 1) + t ≤ V ax (2 * a)
    · rw [if_pos ((iv_le (by omega) (by omega)).mpr q1), decide_eq_false (by omega : ¬ V ax (2 * a) < V ax (2 * b + 1) + t)]; rfl
    · rw [if_neg (fun q => q1 ((iv_le (by omega) (by omega)).mp q)), decide_eq_true (by omega : V ax (2 * a) < V ax (2 * b + 1) + t)]
      by_cases q2 : V ax (2 * a + 1) + t ≤ V ax (2 * b)
      · rw [if_pos ((iv_le (by omega) (by omega)).mpr q2), decide_eq_false (by omega : ¬ V ax (2 * b) < V ax (2 * a + 1) + t)]; rfl
      · rw [if_neg (fun q => q2 ((iv_le (by omega) (by omega)).mp q)), decide_eq_true (by omega : V ax (2 * b) < V ax (2 * a + 1) + t)]; rfl
  rw [mX4_areMeeting, hB.2]
  cases tc with
  | false => rw [if_pos (by rfl)]; exact key 0 (by omega) (by omega)
  | true => rw [if_neg (by decide)]; exact key 1 (by omega) (by omega)
theorem m_meets_in {V : Nat → Nat → Int} {T : Nat → Bool} {tc : Bool} (hr : VR V) {a b : Nat} (ha : a < 12) (hb : b < 12) (hne : a ≠ b) (hTa : T a = true) (hTb : T b = true) (K : Int32 → bx_St → Option bx_St) : ∀ (k n x : Nat) (τ : bx_St), x + k = 3 → k < n → MV τ V → MB τ T tc → τ.1 4 (12 * a + b) = bm (fun ax => decide (ax < x) && mkM T tc V ax a b) → ∃ τ', mX4_layAll_47 K n (nI (12 * a + b)) (nI a) (nI b) (nI x) τ = K (nI (12 * a + b + 1)) τ' ∧ τ'.1 4 (12 * a + b) = bm (fun ax => decide (ax < 3) && mkM T tc V ax a b) ∧ (∀ k i, (k = 4 → i ≠ 12 * a + b) → τ'.1 k i = τ.1 k i) := by
  intro k
  induction k with
  | zero =>
    intro n x τ hx hn hv hB hm
    obtain ⟨n, rfl⟩ : ∃ m, n = m + 1 := ⟨n - 1, by omega⟩
    have : x = 3 := by omega
    subst this
    exact ⟨τ, by rw [mX4_layAll_47, if_pos (by decide), mX4_layAll_114, nI_1], hm, fun _ _ _ => rfl⟩
  | succ k ih =>
    intro n x τ hx hn hv hB hm
    obtain ⟨n, rfl⟩ : ∃ m, n = m + 1 := ⟨n - 1, by omega⟩
    have hx3 : x < 3 := by omega
    have ok : bx_ok (nI (12 * a + b)) 144 := ok_nI (by omega) (by decide)
    rw [mX4_layAll_47, if_neg (n3 hx3), if_neg (by rw [eqn_iff (by omega) (by omega)]; exact hne), hB.1, has_bm _ ha, has_bm _ hb, hTa, hTb, if_neg (by decide), if_neg (by decide), if_pos ok, m_areMeeting hv hB hr ha hb hx3, Option.bind_some, ← mkM_sp (tc := tc) (V := V) (ax := x) ha hb hne hTa hTb, cl_nI (by omega), hm]
    have st : ∀ y, y = bm (fun ax => decide (ax < x + 1) && mkM T tc V ax a b) → ∀ s0 s1 : Int32, s1 ||| s0 = y → ∃ τ', mX4_layAll_106 K (mX4_layAll_47 K n) (nI (12 * a + b)) (nI a) (nI b) (nI x) s0 s1 (nI (12 * a + b)) τ = K (nI (12 * a + b + 1)) τ' ∧ τ'.1 4 (12 * a + b) = bm (fun ax => decide (ax < 3) && mkM T tc V ax a b) ∧ (∀ k i, (k = 4 → i ≠ 12 * a + b) → τ'.1 k i = τ.1 k i) := by
      intro y hy s0 s1 hs
      rw [mX4_layAll_106, if_pos ok, cl_nI (by omega), nI_1, hs]
      obtain ⟨τ', g1, g2, g3⟩ := ih n (x + 1) (bx_up τ 4 (12 * a + b) y) (by omega) (by omega) (hv.put (by decide)) ⟨by rw [up_get, if_neg (by decide)]; exact hB.1, by rw [up_get, if_neg (by decide)]; exact hB.2⟩ (by rw [up_get, if_pos rfl, if_pos rfl, hy])
      refine ⟨τ', g1, g2, fun k' i q => ?_⟩
      rw [g3 k' i q, up_get]
      by_cases q2 : k' = 4
      · rw [if_pos q2, if_neg (q q2), q2]
      · rw [if_neg q2]
    cases q : mkM T tc V x a b with
    | false =>
      rw [if_pos (by rfl)]
      exact st _ (bm_sf (g := fun ax => mkM T tc V ax a b) q) _ _ (bz_or _)
    | true =>
      rw [if_neg (by decide)]
      exact st _ (bm_st (g := fun ax => mkM T tc V ax a b) (by omega) q) _ _ rfl
theorem m_meets_out {V : Nat → Nat → Int} {T : Nat → Bool} {tc : Bool} (hr : VR V) : ∀ (k n c : Nat) (τ : bx_St), c + k = 144 → k < n → MV τ V → MB τ T tc → (∀ d, d < c → τ.1 4 d = bm (fun ax => decide (ax < 3) && mkM T tc V ax (d / 12) (d % 12))) → ∃ τ', mX4_layAll_20 n (nI c) τ = some τ' ∧ (∀ d, d < 144 → τ'.1 4 d = bm (fun ax => decide (ax < 3) && mkM T tc V ax (d / 12) (d % 12))) ∧ (∀ k i, k ≠ 4 → τ'.1 k i = τ.1 k i) := by
  intro k
  induction k with
  | zero =>
    intro n c τ hc hn hv hB hm
    obtain ⟨n, rfl⟩ : ∃ m, n = m + 1 := ⟨n - 1, by omega⟩
    have : c = 144 := by omega
    subst this
    exact ⟨τ, by rw [mX4_layAll_20, if_pos (by decide)], hm, fun _ _ _ => rfl⟩
  | succ k ih =>
    intro n c τ hc hn hv hB hm
    obtain ⟨n, rfl⟩ : ∃ m, n = m + 1 := ⟨n - 1, by omega⟩
    have hc144 : c < 144 := by omega
    have bF : bx_F = 5000 := rfl
    obtain ⟨a, b, hab, ha, hb⟩ : ∃ a b, c = 12 * a + b ∧ a < 12 ∧ b < 12 := ⟨c / 12, c % 12, by omega, by omega, by omega⟩
    have e1 : nI c / (12 : Int32) = nI a := by
      have : nI c / (12 : Int32) = nI (c / 12) := pk_div (d := 12) (by omega) (by omega) (by decide)
      rw [this]; congr 1; omega
    have e2 : bx_rem (nI c) (12 : Int32) = nI b := by
      have : bx_rem (nI c) (12 : Int32) = nI (c % 12) := pk_rem (d := 12) (by omega) (by omega) (by decide)
      rw [this]; congr 1; omega
    have hv0 : MV (bx_up τ 4 c 0) V := hv.put (by decide)
    have hB0 : MB (bx_up τ 4 c 0) T tc := ⟨by rw [up_get, if_neg (by decide)]; exact hB.1, by rw [up_get, if_neg (by decide)]; exact hB.2⟩
    have z0 : (bx_up τ 4 c 0).1 4 c = 0 := by rw [up_get, if_pos rfl, if_pos rfl]
    rw [mX4_layAll_20, if_neg (n144 hc144), if_pos (ok_nI hc144 (by decide)), e1, e2, cl_nI (by omega)]
    have go : ∀ τ1 : bx_St, τ1.1 4 c = bm (fun ax => decide (ax < 3) && mkM T tc V ax a b) → (∀ k i, (k = 4 → i ≠ c) → τ1.1 k i = (bx_up τ 4 c 0).1 k i) → ∃ τ', mX4_layAll_20 n (nI (c + 1)) τ1 = some τ' ∧ (∀ d, d < 144 → τ'.1 4 d = bm (fun ax => decide (ax < 3) && mkM T tc V ax (d / 12) (d % 12))) ∧ (∀ k i, k ≠ 4 → τ'.1 k i = τ.1 k i) := by
      intro τ1 h1 h2
      have h2' : ∀ k i, k ≠ 4 → τ1.1 k i = τ.1 k i := fun k i q => by rw [h2 k i (fun q2 => absurd q2 q), up_get, if_neg q]
      obtain ⟨τ', g1, g2, g3⟩ := ih n (c + 1) τ1 (by omega) (by omega) (fun x hx y hy j hj => by rw [h2' 2 _ (by decide)]; exact hv x hx y hy j hj) ⟨by rw [h2' 0 _ (by decide)]; exact hB.1, by rw [h2' 0 _ (by decide)]; exact hB.2⟩ (fun d hd => by
        by_cases q : d = c
        · rw [q, h1, hab, show (12 * a + b) / 12 = a by omega, show (12 * a + b) % 12 = b by omega]
        · rw [h2 4 d (fun _ => q), up_get, if_pos rfl, if_neg q]; exact hm d (by omega))
      exact ⟨τ', g1, g2, fun k i q => (g3 k i q).trans (h2' k i q)⟩
    by_cases q : a ≠ b ∧ T a = true ∧ T b = true
    · subst hab
      obtain ⟨τ1, f1, f2, f3⟩ := m_meets_in (tc := tc) hr ha hb q.1 q.2.1 q.2.2 (mX4_layAll_20 n) 3 5000 0 (bx_up τ 4 (12 * a + b) 0) rfl (by omega) hv0 hB0 (by rw [z0, ← bm_0]; exact bm_cong (fun j _ => by simp))
      have f1' : mX4_layAll_47 (mX4_layAll_20 n) 5000 (nI (12 * a + b)) (nI a) (nI b) 0 (bx_up τ 4 (12 * a + b) 0) = mX4_layAll_20 n (nI (12 * a + b + 1)) τ1 := f1
      rw [bF, f1']
      exact go τ1 f2 f3
    · have zz : bm (fun ax => decide (ax < 3) && mkM T tc V ax a b) = 0 := by
        rw [← bm_0]
        refine bm_cong (fun j _ => ?_)
        rw [mkM]
        by_cases q1 : a = b
        · rw [decide_eq_false (by omega : ¬ a ≠ b)]; simp
        · cases ta : T a with
          | false => simp
          | true =>
            cases tb : T b with
            | false => simp
            | true => exact absurd ⟨q1, ta, tb⟩ q
      have st : mX4_layAll_47 (mX4_layAll_20 n) bx_F (nI c) (nI a) (nI b) 0 (bx_up τ 4 c 0) = mX4_layAll_20 n (nI (c + 1)) (bx_up τ 4 c 0) := by
        rw [bF, mX4_layAll_47, if_neg (by decide), hB0.1, has_bm _ ha, has_bm _ hb, mX4_layAll_114, nI_1]
        by_cases q1 : a = b
        · rw [if_pos (by rw [q1])]
        · rw [if_neg (by rw [eqn_iff (by omega) (by omega)]; exact q1)]
          cases ta : T a with
          | false => rw [if_pos (by rfl)]
          | true =>
            cases tb : T b with
            | false => rw [if_neg (by decide), if_pos (by rfl)]
            | true => exact absurd ⟨q1, ta, tb⟩ q
      rw [st]
      exact go _ (by rw [z0, zz]) (fun _ _ _ => rfl)
theorem m_lay_loop {V : Nat → Nat → Int} {T : Nat → Bool} {tc : Bool} (hr : VR V) {F : Nat → Nat → Nat} : ∀ (k n ax : Nat) (τ : bx_St), ax + k = 3 → k < n → MV τ V → MB τ T tc → (∀ a, ax ≤ a → a < 3 → RO τ a (F a)) → (∀ a, a < ax → RO τ a (rowF T (klt tc V a) (F a) 24)) → (ax = 0 ∨ τ.1 0 5 = nI (cnt T 24)) → ∃ τ', mX4_layAll_2 n (nI ax) τ = some τ' ∧ (∀ a, a < 3 → RO τ' a (rowF T (klt tc V a) (F a) 24)) ∧ τ'.1 0 5 = nI (cnt T 24) ∧ MM τ' (mkM T tc V) ∧ (∀ k i, k ≠ 3 → k ≠ 4 → (k = 0 → i ≠ 5) → τ'.1 k i = τ.1 k i) := by
  intro k
  have bF : bx_F = 5000 := rfl
  induction k with
  | zero =>
    intro n ax τ hx hn hv hB hl hd hu
    obtain ⟨n, rfl⟩ : ∃ m, n = m + 1 := ⟨n - 1, by omega⟩
    have : ax = 3 := by omega
    subst this
    obtain ⟨τ', g1, g2, g3⟩ := m_meets_out (tc := tc) hr 144 5000 0 τ rfl (by omega) hv hB (fun d h => absurd h (Nat.not_lt_zero d))
    refine ⟨τ', by rw [mX4_layAll_2, if_pos (by decide), bF]; exact g1, fun a h p hp => by rw [g3 _ _ (by decide)]; exact hd a h p hp, ?_, fun a ha b hb => ?_, fun k i q1 q2 q3 => g3 k i q2⟩
    · rw [g3 _ _ (by decide)]
      rcases hu with hu | hu
      · omega
      · exact hu
    · rw [g2 _ (by omega), show (12 * a + b) / 12 = a by omega, show (12 * a + b) % 12 = b by omega]
  | succ k ih =>
    intro n ax τ hx hn hv hB hl hd hu
    obtain ⟨n, rfl⟩ : ∃ m, n = m + 1 := ⟨n - 1, by omega⟩
    have ha : ax < 3 := by omega
    obtain ⟨τ1, g1, g2, g3, g4⟩ := m_row_loop (tc := tc) hr ha (F ax) 24 5000 0 (bx_up τ 0 5 0) rfl (by omega) (hv.put (by decide)) ⟨by rw [up_get, if_pos rfl, if_neg (by decide)]; exact hB.1, by rw [up_get, if_pos rfl, if_neg (by decide)]; exact hB.2⟩ (fun p hp => by rw [up_get, if_neg (by decide)]; exact hl ax (by omega) ha p hp) (by rw [up_get, if_pos rfl, if_pos rfl]; rfl)
    have g1' : mX4_layRow (nI ax) τ = some τ1 := by rw [mX4_layRow, bF]; exact g1
    have fr : ∀ k i, (k = 3 → i < 24 * ax ∨ 24 * ax + 24 ≤ i) → (k = 0 → i ≠ 5) → τ1.1 k i = τ.1 k i := by
      intro k i q1 q2
      rw [g4 k i q1 q2, up_get]
      by_cases q : k = 0
      · rw [if_pos q, if_neg (q2 q), q]
      · rw [if_neg q]
    rw [mX4_layAll_2, if_neg (n3 ha), g1', Option.bind_some, nI_1]
    obtain ⟨τ2, f1, f2, f3, f4, f5⟩ := ih n (ax + 1) τ1 (by omega) (by omega) (fun a h b hb j hj => by rw [fr _ _ (fun q => by omega) (fun q => by omega)]; exact hv a h b hb j hj) ⟨by rw [fr _ _ (fun q => by omega) (fun q => by omega)]; exact hB.1, by rw [fr _ _ (fun q => by omega) (fun q => by omega)]; exact hB.2⟩ (fun a h1 h2 p hp => by rw [fr _ _ (fun q => by omega) (fun q => by omega)]; exact hl a (by omega) h2 p hp) (fun a h p hp => by
      by_cases q : a = ax
      · rw [q]; exact g2 p hp
      · rw [fr _ _ (fun q => by omega) (fun q => by omega)]; exact hd a (by omega) p hp) (Or.inr g3)
    exact ⟨τ2, f1, f2, f3, f4, fun k i q1 q2 q3 => (f5 k i q1 q2 q3).trans (fr k i (fun q => absurd q q1) q3)⟩
/-- all ENDS are put in order anew: both sides alike, up to the end of the change -/
theorem anew_R {σ τ : bx_St} {T : Nat → Bool} {tc : Bool} {V : Nat → Nat → Int} {F : Nat → Nat → Nat} {O : Nat → Nat → Bool} (x1 : XB σ T tc) (x3 : XV σ V) (xl : ∀ ax, ax < 3 → LO σ ax (F ax)) (m1 : MB τ T tc) (m2 : MV τ V) (ml : ∀ ax, ax < 3 → RO τ ax (F ax)) (i1 : VR V) (i2 : VL T V) (xo : XO σ O) (hW : ∀ a b, a < 12 → b < 12 → τ.1 9 (12 * a + b) = bI (O a b)) (hL : LG σ τ 0) : ∃ σ' τ1 τ' F' u, mX3_rearrange σ = some σ' ∧ mX4_layAll τ = some τ1 ∧ mX4_endChange 0 τ1 = some τ' ∧ RA σ' τ' T tc V F' u (mkM T tc V) ∧ RG σ' τ' ∧ (∀ k i, k = 2 ∨ k = 3 ∨ k = 4 → σ'.1 k i = σ.1 k i) ∧ τ'.1 0 0 = τ.1 0 0 ∧ (∀ i, τ'.1 1 i = τ.1 1 i) ∧ (∀ i, i = 19 → τ'.1 0 i = τ.1 0 i) := by
  have bF : bx_F = 5000 := rfl
  obtain ⟨σ1, a1, a2, a3⟩ := x_rearr_loop (T := T) (tc := tc) i1 (F := F) 3 5000 0 σ rfl (by omega) x1 x3 (fun a _ h => xl a h) (fun a h => absurd h (Nat.not_lt_zero a))
  obtain ⟨τ1, b1, b2, b3, b4, b5⟩ := m_lay_loop (T := T) (tc := tc) i1 (F := F) 3 5000 0 τ rfl (by omega) m2 m1 (fun a _ h => ml a h) (fun a h => absurd h (Nat.not_lt_zero a)) (Or.inl rfl)
  have hX : XM σ1 (mkM T tc V) := fun ax h a ha => (a2 ax h).2.2.2 a ha
  have xo1 : XO σ1 O := fun a ha => by rw [a3 _ _ (by omega)]; exact xo a ha
  have hW1 : ∀ a b, a < 12 → b < 12 → τ1.1 9 (12 * a + b) = bI (O a b) := fun a b ha hb => by rw [b5 _ _ (by omega) (by omega) (fun q => by omega)]; exact hW a b ha hb
  have hL1 : LG σ1 τ1 0 := by
    obtain ⟨l1, l2, l3, l4, l5, l6, l7, l8, l9, l10⟩ := hL
    have s5 : ∀ i, σ1.1 5 i = σ.1 5 i := fun i => a3 _ _ (by omega)
    have t0 : ∀ i, i ≠ 5 → τ1.1 0 i = τ.1 0 i := fun i h => b5 _ _ (by omega) (by omega) (fun _ => h)
    exact ⟨by rw [s5]; exact l1, by rw [s5]; exact l2, by rw [s5]; exact l3, by rw [t0 _ (by omega)]; exact l4, by rw [s5, t0 _ (by omega)]; exact l5, by rw [s5, t0 _ (by omega)]; exact l6, by rw [s5, t0 _ (by omega)]; exact l7, by rw [s5, t0 _ (by omega)]; exact l8, by rw [s5, t0 _ (by omega)]; exact l9, fun i h => by rw [a3 _ _ (by omega), b5 _ _ (by omega) (by omega) (fun q => by omega)]; exact l10 i h⟩
  obtain ⟨σ2, τ2, c1, c2, c3, c4, c5, c6⟩ := tell_eq xo1 hX b4 hW1 hL1 (by omega) (Or.inl rfl)
  have rk : ∀ ax, ax < 3 → _ := fun ax (_ : ax < 3) => rowF_ok T tc V ax (F ax) 24 (by omega)
  refine ⟨σ2, τ1, τ2, fun ax => rowF T (klt tc V ax) (F ax) 24, cnt T 24, ?_, ?_, c2, ⟨⟨?_, ?_, ?_, ?_, ?_, c4⟩, ⟨?_, ?_, ?_, ?_⟩, ⟨i1, i2, ?_, ?_, mkM_MK T tc V⟩⟩, c3, ?_, ?_, ?_, ?_⟩
  · have a1' : mX3_rearrange_2 5000 0 σ = _ := a1
    rw [mX3_rearrange, bF, a1', c1, Option.bind_some]
  · rw [mX4_layAll, bF]; exact b1
  · exact ⟨by rw [c5 _ _ (by omega) (by omega) (by omega), a3 _ _ (by omega)]; exact x1.1, by rw [c5 _ _ (by omega) (by omega) (by omega), a3 _ _ (by omega)]; exact x1.2⟩
  · intro ax h; rw [c5 _ _ (by omega) (by omega) (by omega)]; exact (a2 ax h).1
  · exact (a3.XV x3).same (fun ax h i => ⟨c5 _ _ (by omega) (by omega) (by omega), c5 _ _ (by omega) (by omega) (by omega)⟩)
  · intro ax h
    exact ⟨by rw [c5 _ _ (by omega) (by omega) (by omega)]; exact (a2 ax h).2.2.1, fun p hp => by rw [c5 _ _ (by omega) (by omega) (by omega)]; exact (a2 ax h).2.1 p hp⟩
  · intro ax h a ha; rw [c5 _ _ (by omega) (by omega) (by omega)]; exact hX ax h a ha
  · exact ⟨by rw [c6.2 _ (by omega) (by omega) (by omega) (by omega), b5 _ _ (by omega) (by omega) (fun _ => by omega)]; exact m1.1, by rw [c6.2 _ (by omega) (by omega) (by omega) (by omega), b5 _ _ (by omega) (by omega) (fun _ => by omega)]; exact m1.2⟩
  · intro ax h b hb j hj
    rw [c6.1 _ _ (by omega) (by omega) (by omega), b5 _ _ (by omega) (by omega) (fun q => by omega)]
    exact m2 ax h b hb j hj
  · exact ⟨by rw [c6.2 _ (by omega) (by omega) (by omega) (by omega)]; exact b3, fun ax h p hp => by rw [c6.1 _ _ (by omega) (by omega) (by omega)]; exact b2 ax h p hp⟩
  · intro a ha b hb
    rw [c6.1 _ _ (by omega) (by omega) (by omega)]
    exact b4 a ha b hb
  · intro ax h
    obtain ⟨r1, r2, r3⟩ := rk ax h
    refine ⟨cnt_le T 24, r1, fun p q hpq hq e => ?_, r3⟩
    have := r2 p q hpq hq
    have e' : rowF T (klt tc V ax) (F ax) 24 p = rowF T (klt tc V ax) (F ax) 24 q := e
    rw [e'] at this
    omega
  · intro ax h p q hpq hq
    exact (rk ax h).2.1 p q hpq hq
  · intro k i h; rw [c5 _ _ (by omega) (by omega) (by omega), a3 _ _ (by omega)]
  · rw [c6.2 _ (by omega) (by omega) (by omega) (by omega), b5 _ _ (by omega) (by omega) (fun _ => by omega)]
  · intro i; rw [c6.1 _ _ (by omega) (by omega) (by omega), b5 _ _ (by omega) (by omega) (fun q => by omega)]
  · intro i h; rw [c6.2 _ (by omega) (by omega) (by omega) (by omega), b5 _ _ (by omega) (by omega) (fun _ => by omega)]
