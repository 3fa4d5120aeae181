def ps (f : Nat → Nat) (u z : Nat) : Nat := fa_first (fun i => decide (f i = z)) u
theorem RW_RWP {T : Nat → Bool} {f : Nat → Nat} {u : Nat} (h : RW T f u) : RWP T f u (ps f u) := by
  obtain ⟨h1, h2, h3, h4⟩ := h
  have key : ∀ i, i < u → ps f u (f i) < u ∧ f (ps f u (f i)) = f i := by
    intro i hi
    have le : ps f u (f i) ≤ i := by
      rcases Nat.lt_or_ge i (ps f u (f i)) with q | q
      · have := fa_first_no _ u i q
        simp at this
      · exact q
    exact ⟨by omega, of_decide_eq_true (fa_first_yes (fun j => decide (f j = f i)) u (show fa_first (fun j => decide (f j = f i)) u < u from Nat.lt_of_le_of_lt le hi))⟩
  refine ⟨h1, fun i hi => ⟨(h2 i hi).1, (h2 i hi).2, ?_⟩, fun z hz hT => ?_⟩
  · obtain ⟨k1, k2⟩ := key i hi
    rcases Nat.lt_trichotomy (ps f u (f i)) i with q | q | q
    · exact absurd k2 (h3 _ _ q hi)
    · exact q
    · exact absurd k2.symm (h3 _ _ q k1)
  · obtain ⟨i, hi, e⟩ := h4 z hz hT
    have := key i hi
    rw [e] at this
    exact this
theorem pos_ky {T : Nat → Bool} {f : Nat → Nat} {u : Nat} {P : Nat → Nat} {κ : Nat → Int} (h : RWP T f u P) (hs : SO κ f u) {z w : Nat} (hz : z < 24) (hTz : T (z / 2) = true) (hw : w < 24) (hTw : T (w / 2) = true) : P z < P w ↔ κ z < κ w := by
  obtain ⟨z1, z2⟩ := h.2.2 z hz hTz
  obtain ⟨w1, w2⟩ := h.2.2 w hw hTw
  refine ⟨fun q => ?_, fun q => ?_⟩
  · have := hs _ _ q w1
    rw [z2, w2] at this
    exact this
  · rcases Nat.lt_trichotomy (P z) (P w) with g | g | g
    · exact g
    · have : z = w := by rw [← z2, ← w2, g]
      subst this
      omega
    · have := hs _ _ g z1
      rw [z2, w2] at this
      omega
theorem mp_ky {T : Nat → Bool} {tc : Bool} {V : Nat → Nat → Int} {F : Nat → Nat → Nat} {u : Nat} {P : Nat → Nat → Nat} {ax : Nat} (hr : RWP T (F ax) u (P ax)) (hs : SO (ky tc V ax) (F ax) u) {a b : Nat} (ha : a < 12) (hb : b < 12) : mp T P ax a b = mkM T tc V ax a b := by
  unfold mp mpa mkM
  cases hTa : T a with
  | false => simp
  | true =>
    cases hTb : T b with
    | false => simp
    | true =>
      have l : ∀ c, (2 * c) / 2 = c := fun c => by omega
      have l1 : ∀ c, (2 * c + 1) / 2 = c := fun c => by omega
      rw [decide_eq_decide.mpr (pos_ky hr hs (z := 2 * a) (w := 2 * b + 1) (by omega) (by rw [l]; exact hTa) (by omega) (by rw [l1]; exact hTb)), decide_eq_decide.mpr (pos_ky hr hs (z := 2 * b) (w := 2 * a + 1) (by omega) (by rw [l]; exact hTb) (by omega) (by rw [l1]; exact hTa))]
theorem ov_cong {M M' : Nat → Nat → Nat → Bool} {a b : Nat} (h : ∀ x, x < 3 → M x a b = M' x a b) : ov M a b = ov M' a b := by
  unfold ov
  rw [h 0 (by omega), h 1 (by omega), h 2 (by omega)]
theorem MR_start {σ τ : bx_St} {T : Nat → Bool} {tc : Bool} {V : Nat → Nat → Int} {F : Nat → Nat → Nat} {u : Nat} {M : Nat → Nat → Nat → Bool} (hA : RA σ τ T tc V F u M) (hW : ∀ a b, a < 12 → b < 12 → τ.1 9 (12 * a + b) = bI (ov M a b)) (hL : LG σ τ 0) (hP : RP σ τ) : ∃ P O, MR σ τ T tc V F u P O 0 := by
  obtain ⟨⟨x1, x2, x3, x4, x5, x6⟩, ⟨m1, m2, m3, m4⟩, ⟨i1, i2, i3, i4, i5⟩⟩ := hA
  have hr : ∀ ax, ax < 3 → RWP T (F ax) u (ps (F ax) u) := fun ax h => RW_RWP (i3 ax h)
  have hs : ∀ ax, ax < 3 → SO (ky tc V ax) (F ax) u := fun ax h => i4 ax h
  have e : ∀ ax, ax < 3 → ∀ a, a < 12 → ∀ b, b < 12 → mp T (fun ax => ps (F ax) u) ax a b = M ax a b := fun ax h a ha b hb => by
    rw [i5 ax h a ha b hb]
    exact mp_ky (P := fun ax => ps (F ax) u) (hr ax h) (hs ax h) ha hb
  have eo : ∀ a, a < 12 → ∀ b, b < 12 → ov (mp T (fun ax => ps (F ax) u)) a b = ov M a b := fun a ha b hb => ov_cong (fun x hx => e x hx a ha b hb)
  refine ⟨fun ax => ps (F ax) u, ov (mp T (fun ax => ps (F ax) u)), ⟨x1, x2, x3, x4, ?_, ?_⟩, ⟨m1, m2, m3, ?_, ?_⟩, ⟨i1, fun ax h => ⟨hr ax h, fun b hb hT => ?_⟩, ?_⟩, hL, hP⟩
  · intro ax h a ha
    rw [x5 ax h a ha]
    exact bm_cong (fun j hj => (e ax h a ha j hj).symm)
  · intro a ha
    rw [x6 a ha]
    exact bm_cong (fun j hj => (eo a ha j hj).symm)
  · intro a ha b hb
    rw [m4 a ha b hb]
    refine bm_cong (fun j _ => ?_)
    by_cases q : j < 3
    · rw [e j q a ha b hb]
    · rw [decide_eq_false q]; rfl
  · intro a b ha hb
    rw [hW a b ha hb, eo a ha b hb]
  · refine (pos_ky (hr ax h) (hs ax h) (by omega) (by rw [show 2 * b / 2 = b by omega]; exact hT) (by omega) (by rw [show (2 * b + 1) / 2 = b by omega]; exact hT)).mpr ?_
    refine (ky_lh tc _ ax hb hb).mpr ?_
    have := i2 ax h b hb hT
    have : (0 : Int) ≤ (if tc = true then 1 else 0) := by cases tc <;> simp
    omega
  · refine Nat.le_of_eq (fb_ct_zero.mpr (fun k _ => ?_))
    unfold pc df
    rw [Bool.xor_self, Bool.and_false]
theorem MR_end {σ τ : bx_St} {T : Nat → Bool} {tc : Bool} {V : Nat → Nat → Int} {F : Nat → Nat → Nat} {u : Nat} {P : Nat → Nat → Nat} {O : Nat → Nat → Bool} {t : Nat} (h : MR σ τ T tc V F u P O t) (ht : t < 2 ^ 20) (hV : VL T V) (hS : ∀ a, a < 3 → SO (ky tc V a) (F a) u) : ∃ σ' τ' r, mX3_tellEvents σ = some σ' ∧ mX0_allSwaps σ' = some r ∧ mX4_endSwaps τ = some (r, τ') ∧ bx_R σ' τ' := by
  obtain ⟨⟨x1, x2, x3, x4, x5, x6⟩, ⟨m1, m2, m3, m4, m5⟩, ⟨i1, i2, i3⟩, hL, hP⟩ := h
  obtain ⟨σ', τ', c1, c2, c3, c4, c5, c6⟩ := tell_eq x6 x5 m4 m5 hL ht (Or.inr i3)
  have sk : ∀ k i, k ≠ 1 → k ≠ 5 → k ≠ 6 → σ'.1 k i = σ.1 k i := c5
  have c0 : (0 : Int32).toNatClampNeg = 0 := by decide
  have c1' : (1 : Int32).toNatClampNeg = 1 := by decide
  have c2' : (2 : Int32).toNatClampNeg = 2 := by decide
  have s7 := c3.2.2.2.2.2.2.2.2.1
  refine ⟨σ', τ', σ'.1 7 0 + σ'.1 7 1 + σ'.1 7 2, c1, ?_, ?_, ⟨⟨T, tc, V, F, u, mp T P, ⟨⟨?_, ?_⟩, ?_, ?_, ?_, ?_, c4⟩, ⟨⟨?_, ?_⟩, ?_, ⟨?_, ?_⟩, ?_⟩, ⟨i1, hV, ?_, ?_, ?_⟩⟩, c3, ?_⟩⟩
  · rw [mX0_allSwaps, if_pos ok3_0, if_pos ok3_1, if_pos ok3_2, c0, c1', c2']
  · rw [mX4_endSwaps, hL.2.2.2.1, c2, Option.bind_some, if_pos ok3_0, if_pos ok3_1, if_pos ok3_2, c0, c1', c2', s7 0 (by omega), s7 1 (by omega), s7 2 (by omega)]
  · rw [sk _ _ (by omega) (by omega) (by omega)]; exact x1.1
  · rw [sk _ _ (by omega) (by omega) (by omega)]; exact x1.2
  · intro a h; rw [sk _ _ (by omega) (by omega) (by omega)]; exact x2 a h
  · exact x3.same (fun a h i => ⟨sk _ _ (by omega) (by omega) (by omega), sk _ _ (by omega) (by omega) (by omega)⟩)
  · intro a h
    exact ⟨by rw [sk _ _ (by omega) (by omega) (by omega)]; exact (x4 a h).1, fun p hp => by rw [sk _ _ (by omega) (by omega) (by omega)]; exact (x4 a h).2 p hp⟩
  · intro a h e he; rw [sk _ _ (by omega) (by omega) (by omega)]; exact x5 a h e he
  · rw [c6.2 _ (by omega) (by omega) (by omega) (by omega)]; exact m1.1
  · rw [c6.2 _ (by omega) (by omega) (by omega) (by omega)]; exact m1.2
  · intro a h e he j hj; rw [c6.1 _ _ (by omega) (by omega) (by omega)]; exact m2 a h e he j hj
  · rw [c6.2 _ (by omega) (by omega) (by omega) (by omega)]; exact m3.1
  · intro a h p hp; rw [c6.1 _ _ (by omega) (by omega) (by omega)]; exact m3.2 a h p hp
  · intro a h e he; rw [c6.1 _ _ (by omega) (by omega) (by omega)]; exact m4 a h e he
  · intro a h
    obtain ⟨hr, -⟩ := i2 a h
    exact ⟨hr.1, fun p hp => ⟨(hr.2.1 p hp).1, (hr.2.1 p hp).2.1⟩, fun p q hpq hq => hr.ne (by omega) hq (by omega), fun c hc hT => ⟨P a c, hr.2.2 c hc hT⟩⟩
  · intro a h p q hpq hq; exact hS a h p q hpq hq
  · intro a h e he d hd
    exact mp_ky (i2 a h).1 (hS a h) he hd
  · exact hP.keep (sk _ _ (by omega) (by omega) (by omega)) (fun i => sk _ _ (by omega) (by omega) (by omega)) (c6.2 _ (by omega) (by omega) (by omega) (by omega)) (fun i => c6.1 _ _ (by omega) (by omega) (by omega))
/-- a change with swaps is opened -/
theorem MR_open {σ τ : bx_St} {T : Nat → Bool} {tc : Bool} {V : Nat → Nat → Int} {F : Nat → Nat → Nat} {u : Nat} {M : Nat → Nat → Nat → Bool} (hA : RA σ τ T tc V F u M) (hG : RG σ τ) (hP : RP σ τ) : ∃ σ1 τ1 P O, mX0_open σ = some σ1 ∧ mX4_beginChange τ = some τ1 ∧ MR σ1 τ1 T tc V F u P O 0 := by
  obtain ⟨σ1, τ1, a1, a2, hA1, hW, hL, s1, t1, t0, -⟩ := begin_eq hA hG
  obtain ⟨P, O, hM⟩ := MR_start hA1 hW hL (hP.keep (s1 _ _ (by omega) (by omega)) (fun i => s1 _ _ (by omega) (by omega)) (t0 _ (by omega)) (fun i => t1 _ _ (by omega) (by omega) (by omega)))
  exact ⟨σ1, τ1, P, O, a1, a2, hM⟩
theorem P_lay (σ τ : bx_St) (v1 v2 v3 v4 : Int32) (h : bx_R σ τ) : ∃ u w, mX3_lay v1 v2 v3 v4 σ = some u ∧ mX4_lay v1 v2 v3 v4 τ = some w ∧ u.1 = w.1 ∧ bx_R u.2 w.2 := by
  have hh := h
  obtain ⟨⟨T, tc, V, F, u, M, hA⟩, hG, hP⟩ := hh
  have hA' := hA
  obtain ⟨⟨x1, x2, x3, x4, x5, x6⟩, ⟨m1, m2, m3, m4⟩, ⟨i1, i2, i3, i4, i5⟩⟩ := hA'
  rcases there_eq x1 m1 v1 with ⟨b, hb, rfl, hT, e1, e2⟩ | ⟨e1, e2⟩
  · rcases axis_eq v2 with ⟨ax, ha, rfl, e3, e4⟩ | ⟨e3, e4⟩
    · rcases span_eq v3 v4 with ⟨y, z, rfl, rfl, hy, hyz, hz, e5, e6⟩ | ⟨e5, e6⟩
      · obtain ⟨σ1, τ1, P, O, a1, a2, hM⟩ := MR_open hA hG hP
        obtain ⟨σ2, τ2, V', F', P', t', b1, b2, b3, b4, b5, b6, -⟩ := lay_eq hM ha hb hT hy hyz hz i2 (fun a h => i4 a h)
        obtain ⟨σ3, τ3, r, c1, c2, c3, c4⟩ := MR_end b3 (by omega) b5 b6
        refine ⟨(r, σ3), (r, τ3), ?_, ?_, rfl, c4⟩
        · rw [mX3_lay, e1, if_neg one_ne0, e3, if_neg one_ne0, e5, if_neg one_ne0, a1, Option.bind_some, b1, Option.bind_some, c1, Option.bind_some, c2, Option.bind_some]
        · rw [mX4_lay, e2, if_neg one_ne0, e4, Option.bind_some, if_neg one_ne0, e6, if_neg one_ne0, a2, Option.bind_some, b2, Option.bind_some, c3, Option.bind_some]
      · refine ⟨(-10003, σ), (-10003, τ), ?_, ?_, rfl, h⟩
        · rw [mX3_lay, e1, if_neg one_ne0, e3, if_neg one_ne0, e5, if_pos rfl]
        · rw [mX4_lay, e2, if_neg one_ne0, e4, Option.bind_some, if_neg one_ne0, e6, if_pos rfl]
    · refine ⟨(-10002, σ), (-10002, τ), ?_, ?_, rfl, h⟩
      · rw [mX3_lay, e1, if_neg one_ne0, e3, if_pos rfl]
      · rw [mX4_lay, e2, if_neg one_ne0, e4, Option.bind_some, if_pos rfl]
  · exact ⟨(-10002, σ), (-10002, τ), by rw [mX3_lay, e1, if_pos rfl], by rw [mX4_lay, e2, if_pos rfl], rfl, h⟩
theorem shift_eq {σ τ : bx_St} {T : Nat → Bool} {tc : Bool} {V : Nat → Nat → Int} (x3 : XV σ V) (m2 : MV τ V) (i1 : VR V) {ax b : Nat} (ha : ax < 3) (hb : b < 12) (v : Int32) : ∃ g : Bool, mX1_canShift (8 + 5 * ax) (nI b) v σ = some (bI g) ∧ mX4_canMove (nI b) (nI ax) v τ = some (bI g) ∧ (g = true → ∃ w : Int, v = iv w ∧ -1998 ≤ w ∧ w ≤ 1998 ∧ -999 ≤ V ax (2 * b) + w ∧ V ax (2 * b + 1) + w ≤ 999) := by
  have r1 := i1 ax ha (2 * b) (by omega)
  have r2 := i1 ax ha (2 * b + 1) (by omega)
  have hlo := Int32.le_toInt v
  have hhi := Int32.toInt_lt v
  have ev : v = iv v.toInt := (Int32.ofInt_toInt v).symm
  generalize hw : v.toInt = w at *
  have ok : bx_ok (nI b) 12 := ok_nI hb (by decide)
  have cl : (nI b).toNatClampNeg = b := cl_nI (by omega)
  have sum : ∀ x : Int, -999 ≤ x → x ≤ 999 → ((iv x).toInt64 + v.toInt64).toInt = x + w := by
    intro x h1 h2
    rw [Int64.toInt_add, Int32.toInt_toInt64, Int32.toInt_toInt64, iv_toInt (by omega) (by omega), hw, Int.bmod_eq_of_le (by omega) (by omega)]
  have c1 : (lg_cmp ((iv (V ax (2 * b))).toInt64 + v.toInt64) (-999 : Int64) < 0) ↔ V ax (2 * b) + w < -999 := by
    rw [lg_cmp_lt, fa_lt64, sum _ r1.1 r1.2, show (-999 : Int64).toInt = -999 by decide]
  have c2 : (0 < lg_cmp ((iv (V ax (2 * b + 1))).toInt64 + v.toInt64) (999 : Int64)) ↔ 999 < V ax (2 * b + 1) + w := by
    rw [lg_cmp_gt, fa_lt64, sum _ r2.1 r2.2, show (999 : Int64).toInt = 999 by decide]
  have X : mX1_canShift (8 + 5 * ax) (nI b) v σ = some (bI (decide (-999 ≤ V ax (2 * b) + w) && decide (V ax (2 * b + 1) + w ≤ 999))) := by
    simp only [mX1_canShift, if_pos ok, cl, (x3 ax ha b hb).1, (x3 ax ha b hb).2]
    by_cases q : V ax (2 * b) + w < -999
    · rw [if_pos (c1.mpr q), decide_eq_false (by omega : ¬ -999 ≤ V ax (2 * b) + w)]; rfl
    · rw [if_neg (fun g => q (c1.mp g)), decide_eq_true (by omega : -999 ≤ V ax (2 * b) + w)]
      by_cases q2 : 999 < V ax (2 * b + 1) + w
      · rw [if_pos (c2.mpr q2), decide_eq_false (by omega : ¬ V ax (2 * b + 1) + w ≤ 999)]; rfl
      · rw [if_neg (fun g => q2 (c2.mp g)), decide_eq_true (by omega : V ax (2 * b + 1) + w ≤ 999)]; rfl
  have Y : mX4_canMove (nI b) (nI ax) v τ = some (bI (decide (-999 ≤ V ax (2 * b) + w) && decide (V ax (2 * b + 1) + w ≤ 999))) := by
    have k1 : (-1998 : Int32).toInt = -1998 := by decide
    have k2 : (1998 : Int32).toInt = 1998 := by decide
    rw [mX4_canMove]
    by_cases q : w < -1998 ∨ 1998 < w
    · rw [within_no (by rw [fa_lt, fa_lt, hw, k1, k2]; exact q), if_pos rfl]
      rcases q with q | q
      · rw [decide_eq_false (by omega : ¬ -999 ≤ V ax (2 * b) + w)]; rfl
      · rw [decide_eq_false (by omega : ¬ V ax (2 * b + 1) + w ≤ 999), Bool.and_false]; rfl
    · rw [within_yes (by rw [fa_lt, hw, k1]; omega) (by rw [fa_lt, hw, k2]; omega), if_neg one_ne0, m_lowOf m2 hb ha, Option.bind_some, m_highOf m2 hb ha, Option.bind_some]
      have s1 : (iv (V ax (2 * b)) + v).toInt = V ax (2 * b) + w := by rw [ev, iv_add, iv_toInt (by omega) (by omega)]
      have s2 : (iv (V ax (2 * b + 1)) + v).toInt = V ax (2 * b + 1) + w := by rw [ev, iv_add, iv_toInt (by omega) (by omega)]
      have k3 : (-999 : Int32).toInt = -999 := by decide
      have k4 : (999 : Int32).toInt = 999 := by decide
      by_cases q1 : V ax (2 * b) + w < -999
      · rw [if_pos (by rw [fa_lt, s1, k3]; exact q1), decide_eq_false (by omega : ¬ -999 ≤ V ax (2 * b) + w)]; rfl
      · rw [if_neg (by rw [fa_lt, s1, k3]; exact q1), decide_eq_true (by omega : -999 ≤ V ax (2 * b) + w)]
        by_cases q2 : 999 < V ax (2 * b + 1) + w
        · rw [if_pos (by rw [fa_lt, s2, k4]; exact q2), decide_eq_false (by omega : ¬ V ax (2 * b + 1) + w ≤ 999)]; rfl
        · rw [if_neg (by rw [fa_lt, s2, k4]; exact q2), decide_eq_true (by omega : V ax (2 * b + 1) + w ≤ 999)]; rfl
  refine ⟨_, X, Y, fun g => ⟨w, ev, ?_⟩⟩
  have g2 := Bool.and_eq_true_iff.mp g
  have g3 := of_decide_eq_true g2.1
  have g4 := of_decide_eq_true g2.2
  omega
