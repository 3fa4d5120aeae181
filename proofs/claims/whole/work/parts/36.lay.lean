def vS (V : Nat → Nat → Int) (ax c : Nat) (z : Int) (a e : Nat) : Int := if a = ax ∧ e = c then z else V a e
theorem vS_at (V : Nat → Nat → Int) (ax c : Nat) (z : Int) : vS V ax c z ax c = z := if_pos ⟨rfl, rfl⟩
theorem vS_ne (V : Nat → Nat → Int) {ax c a e : Nat} (z : Int) (h : ¬ (a = ax ∧ e = c)) : vS V ax c z a e = V a e := if_neg h
theorem MR.setV {σ τ : bx_St} {T : Nat → Bool} {tc : Bool} {V : Nat → Nat → Int} {F : Nat → Nat → Nat} {u : Nat} {P : Nat → Nat → Nat} {O : Nat → Nat → Bool} {t ax b c kk : Nat} {z : Int} (h : MR σ τ T tc V F u P O t) (ha : ax < 3) (hb : b < 12) (hc : (c = 2 * b ∧ kk = 8 + 5 * ax + 1) ∨ (c = 2 * b + 1 ∧ kk = 8 + 5 * ax + 2)) (hz : -999 ≤ z ∧ z ≤ 999) : MR (bx_up σ kk b (iv z)) (bx_up τ 2 (6 * (c / 2) + 2 * ax + c % 2) (iv z)) T tc (vS V ax c z) F u P O t := by
  obtain ⟨⟨x1, x2, x3, x4, x5, x6⟩, ⟨m1, m2, m3, m4, m5⟩, ⟨i1, i2, i3⟩, hL, hP⟩ := h
  have sk : ∀ k i, k < 8 ∨ (∃ a, k = 8 + 5 * a ∨ k = 8 + 5 * a + 3 ∨ k = 8 + 5 * a + 4) → (bx_up σ kk b (iv z)).1 k i = σ.1 k i := fun k i q => by
    rw [up_get, if_neg (by
      rcases q with q | ⟨a, q⟩
      · omega
      · omega)]
  have tk : ∀ k i, k ≠ 2 → (bx_up τ 2 (6 * (c / 2) + 2 * ax + c % 2) (iv z)).1 k i = τ.1 k i := fun k i q => by rw [up_get, if_neg q]
  refine ⟨⟨⟨?_, ?_⟩, ?_, ?_, ?_, ?_, ?_⟩, ⟨⟨?_, ?_⟩, ?_, ⟨?_, ?_⟩, ?_, ?_⟩, ⟨?_, i2, i3⟩, ?_, ?_⟩
  · rw [sk _ _ (by omega)]; exact x1.1
  · rw [sk _ _ (by omega)]; exact x1.2
  · intro a h; rw [sk _ _ (Or.inr ⟨a, by omega⟩)]; exact x2 a h
  · intro a h e he
    have hh := x3 a h e he
    rw [up_get, up_get]
    rcases hc with ⟨q1, q2⟩ | ⟨q1, q2⟩
    · rw [if_neg (by omega : ¬ 8 + 5 * a + 2 = kk), vS_ne V z (by omega : ¬ (a = ax ∧ 2 * e + 1 = c))]
      refine ⟨?_, hh.2⟩
      by_cases w : a = ax
      · rw [if_pos (by omega)]
        by_cases w2 : e = b
        · rw [if_pos w2, w, w2, ← q1, vS_at]
        · rw [if_neg w2, vS_ne V z (by omega), q2, ← w]; exact hh.1
      · rw [if_neg (by omega), vS_ne V z (by omega)]; exact hh.1
    · rw [if_neg (by omega : ¬ 8 + 5 * a + 1 = kk), vS_ne V z (by omega : ¬ (a = ax ∧ 2 * e = c))]
      refine ⟨hh.1, ?_⟩
      by_cases w : a = ax
      · rw [if_pos (by omega)]
        by_cases w2 : e = b
        · rw [if_pos w2, w, w2, ← q1, vS_at]
        · rw [if_neg w2, vS_ne V z (by omega), q2, ← w]; exact hh.2
      · rw [if_neg (by omega), vS_ne V z (by omega)]; exact hh.2
  · intro a h
    exact ⟨by rw [sk _ _ (Or.inr ⟨a, by omega⟩)]; exact (x4 a h).1, fun p hp => by rw [sk _ _ (Or.inr ⟨a, by omega⟩)]; exact (x4 a h).2 p hp⟩
  · intro a h e he; rw [sk _ _ (Or.inr ⟨a, by omega⟩)]; exact x5 a h e he
  · intro a h; rw [sk _ _ (by omega)]; exact x6 a h
  · rw [tk _ _ (by decide)]; exact m1.1
  · rw [tk _ _ (by decide)]; exact m1.2
  · intro a h e he j hj
    rw [up_get, if_pos rfl]
    by_cases w : a = ax ∧ 2 * e + j = c
    · rw [if_pos (by omega), w.1, w.2, vS_at]
    · rw [if_neg (by omega), vS_ne V z w]; exact m2 a h e he j hj
  · rw [tk _ _ (by decide)]; exact m3.1
  · intro a h p hp; rw [tk _ _ (by decide)]; exact m3.2 a h p hp
  · intro a h e he; rw [tk _ _ (by decide)]; exact m4 a h e he
  · intro a e h1 h2; rw [tk _ _ (by decide)]; exact m5 a e h1 h2
  · intro a h e he
    by_cases w : a = ax ∧ e = c
    · rw [w.1, w.2, vS_at]; exact hz
    · rw [vS_ne V z w]; exact i1 a h e he
  · exact hL.same (fun i => sk _ _ (by omega)) (fun i => sk _ _ (by omega)) (fun i _ => tk _ _ (by decide)) (fun i => tk _ _ (by decide))
  · exact hP.keep (sk _ _ (by omega)) (fun i => sk _ _ (by omega)) (tk _ _ (by decide)) (fun i => tk _ _ (by decide))
theorem x_placeOf {σ : bx_St} {T : Nat → Bool} {F : Nat → Nat → Nat} {u ax c : Nat} {Q : Nat → Nat} (ha : ax < 3) (x4 : XF σ F u) (hr : RWP T (F ax) u Q) (hc : c < 24) (hT : T (c / 2) = true) : mX1_placeOf (8 + 5 * ax) (nI c) σ = some (nI (Q c)) := by
  have h24 := hr.1
  obtain ⟨q1, q2⟩ := hr.2.2 c hc hT
  have eu : nI u - 1 = nI (u - 1) := by
    obtain ⟨v, rfl⟩ : ∃ v, u = v + 1 := ⟨u - 1, by omega⟩
    rw [nI_pred]; rfl
  have l : ∀ (k n i : Nat), i + k = Q c → k < n → mX1_placeOf_2 (8 + 5 * ax) n (nI c) (nI i) σ = some (nI (Q c)) := by
    intro k
    induction k with
    | zero =>
      intro n i hi hn
      obtain ⟨n, rfl⟩ : ∃ m, n = m + 1 := ⟨n - 1, by omega⟩
      have : i = Q c := by omega
      subst this
      rw [mX1_placeOf_2, (x4 ax ha).1, eu, if_pos (ok_nI (by omega) (by decide)), cl_nI (by omega), (x4 ax ha).2 _ (by omega), q2, if_pos rfl, ite_self]
    | succ k ih =>
      intro n i hi hn
      obtain ⟨n, rfl⟩ : ∃ m, n = m + 1 := ⟨n - 1, by omega⟩
      have fi := hr.2.1 i (by omega)
      have ne : F ax i ≠ c := fun e => by
        have := fi.2.2
        rw [e] at this
        omega
      rw [mX1_placeOf_2, (x4 ax ha).1, eu, if_neg (nI_ge (by omega) (by omega)), if_pos (ok_nI (by omega) (by decide)), cl_nI (by omega), (x4 ax ha).2 _ (by omega), if_neg (by rw [eqn_iff (by omega) (by omega)]; exact ne), nI_1]
      exact ih n (i + 1) (by omega) (by omega)
  rw [mX1_placeOf]
  exact l (Q c) 5000 0 (by omega) (by omega)
theorem m_placeOf {τ : bx_St} {T : Nat → Bool} {F : Nat → Nat → Nat} {u ax c : Nat} {Q : Nat → Nat} (ha : ax < 3) (m3 : MF τ F u) (hr : RWP T (F ax) u Q) (hc : c < 24) (hT : T (c / 2) = true) (v : Int32) : mX4_putRight (nI c) v (nI ax) τ = mX4_putRight_43 5000 (nI c) v (nI ax) (nI (24 * ax + Q c)) (bx_up τ 2 (6 * (c / 2) + 2 * ax + c % 2) v) := by
  have h24 := hr.1
  have bF : bx_F = 5000 := rfl
  obtain ⟨q1, q2⟩ := hr.2.2 c hc hT
  have l : ∀ (k n i : Nat), i + k = Q c → k < n → mX4_putRight_6 n (nI c) v (nI ax) (nI (24 * ax + i)) τ = mX4_putRight_43 5000 (nI c) v (nI ax) (nI (24 * ax + Q c)) (bx_up τ 2 (6 * (c / 2) + 2 * ax + c % 2) v) := by
    intro k
    induction k with
    | zero =>
      intro n i hi hn
      obtain ⟨n, rfl⟩ : ∃ m, n = m + 1 := ⟨n - 1, by omega⟩
      have : i = Q c := by omega
      subst this
      rw [mX4_putRight_6, if_pos (ok_nI (by omega) (by decide)), cl_nI (by omega), m3.2 ax ha _ (by omega), q2, if_pos rfl, m_ix (by omega), if_pos (ok_nI (by omega) (by decide)), cl_nI (by omega), bx_let, bF]
    | succ k ih =>
      intro n i hi hn
      obtain ⟨n, rfl⟩ : ∃ m, n = m + 1 := ⟨n - 1, by omega⟩
      have fi := hr.2.1 i (by omega)
      have ne : F ax i ≠ c := fun e => by
        have := fi.2.2
        rw [e] at this
        omega
      rw [mX4_putRight_6, if_pos (ok_nI (by omega) (by decide)), cl_nI (by omega), m3.2 ax ha _ (by omega), if_neg (by rw [eqn_iff (by omega) (by omega)]; exact ne), nI_1]
      exact ih n (i + 1) (by omega) (by omega)
  have e24 : (24 : Int32) * nI ax = nI (24 * ax) := by show nI 24 * nI ax = _; rw [pk_mul]
  rw [mX4_putRight, e24, bF]
  exact l (Q c) 5000 0 (by omega) (by omega)
theorem put_eq {σ τ : bx_St} {T : Nat → Bool} {tc : Bool} {V : Nat → Nat → Int} {F : Nat → Nat → Nat} {u : Nat} {P : Nat → Nat → Nat} {O : Nat → Nat → Bool} {t ax b c kk : Nat} {z : Int} (h : MR σ τ T tc V F u P O t) (ha : ax < 3) (hb : b < 12) (hT : T b = true) (hc : (c = 2 * b ∧ kk = 8 + 5 * ax + 1) ∨ (c = 2 * b + 1 ∧ kk = 8 + 5 * ax + 2)) (hz : -999 ≤ z ∧ z ≤ 999) (hK : vS V ax c z ax (2 * b) < vS V ax c z ax (2 * b + 1)) (hS : SO (ky tc V ax) (F ax) u) : ∃ σ' τ' F' P' t', mX3_putRight (nI ax) (nI c) (bx_up σ kk b (iv z)) = some σ' ∧ mX4_putRight (nI c) (iv z) (nI ax) τ = some τ' ∧ MR σ' τ' T tc (vS V ax c z) F' u P' O t' ∧ t' ≤ t + 48 ∧ SO (ky tc (vS V ax c z) ax) (F' ax) u ∧ (∀ a, a ≠ ax → F' a = F a ∧ P' a = P a) := by
  have bF : bx_F = 5000 := rfl
  have hM := h.setV ha hb hc hz
  have m3 := h.2.1.2.2.1
  obtain ⟨hr, ho⟩ := h.2.2.1.2.1 ax ha
  have h24 := hr.1
  have hc24 : c < 24 := by omega
  have hTc : T (c / 2) = true := by rw [show c / 2 = b by omega]; exact hT
  obtain ⟨q1, q2⟩ := hr.2.2 c hc24 hTc
  have e1 : mX1_placeOf (8 + 5 * ax) (nI c) (bx_up σ kk b (iv z)) = some (nI (P ax c)) := x_placeOf ha hM.1.2.2.2.1 hr hc24 hTc
  have e2 := m_placeOf ha m3 hr hc24 hTc (iv z)
  have hky : ky tc (vS V ax c z) ax (2 * (c / 2)) < ky tc (vS V ax c z) ax (2 * (c / 2) + 1) := by
    rw [show c / 2 = b by omega]
    refine (ky_lh tc _ ax hb hb).mpr ?_
    have : (0 : Int) ≤ (if tc = true then 1 else 0) := by cases tc <;> simp
    omega
  obtain ⟨σ', τ', F', P', t', b1, b2, b3, b4, b5, b6⟩ := put_right (O := O) ha hc24 hTc hky (u - 1 - P ax c) 5000 5000 (P ax c) 0 _ _ F P t (by omega) hM q2 (by
    intro i j hij hj hi hj2
    have n1 : F ax i ≠ c := fun e => hi (by rw [← (hr.2.1 i (by omega)).2.2, e])
    have n2 : F ax j ≠ c := fun e => hj2 (by rw [← (hr.2.1 j hj).2.2, e])
    have := hS i j hij hj
    unfold ky at this ⊢
    rw [vS_ne V z (fun w => n1 w.2), vS_ne V z (fun w => n2 w.2)]
    exact this) (Or.inl rfl) (by omega) (by omega) (by omega)
  rw [vS_at] at b2
  refine ⟨σ', τ', F', P', t', ?_, by rw [e2]; exact b2, b3, by omega, b5, b6⟩
  rw [mX3_putRight, lineOf_eq ax ha, e1, Option.bind_some, bF]
  exact b1
theorem lay_eq {σ τ : bx_St} {T : Nat → Bool} {tc : Bool} {V : Nat → Nat → Int} {F : Nat → Nat → Nat} {u : Nat} {P : Nat → Nat → Nat} {O : Nat → Nat → Bool} {t ax b : Nat} {y z : Int} (h : MR σ τ T tc V F u P O t) (ha : ax < 3) (hb : b < 12) (hT : T b = true) (hy : -999 ≤ y) (hyz : y < z) (hz : z ≤ 999) (hV : VL T V) (hS : ∀ a, a < 3 → SO (ky tc V a) (F a) u) : ∃ σ' τ' V' F' P' t', mX3_layOn (nI ax) (nI b) (iv y) (iv z) σ = some σ' ∧ mX4_layBox (nI b) (nI ax) (iv y) (iv z) τ = some τ' ∧ MR σ' τ' T tc V' F' u P' O t' ∧ t' ≤ t + 96 ∧ VL T V' ∧ (∀ a, a < 3 → SO (ky tc V' a) (F' a) u) ∧ (∀ a e, a ≠ ax → V' a e = V a e) := by
  have r := h.2.2.1.1 ax ha (2 * b) (by omega)
  have v := hV ax ha b hb hT
  have xl := (h.1.2.2.1 ax ha b hb).1
  have ml := m_lowOf h.2.1.2.1 hb ha
  have ok : bx_ok (nI b) 12 := ok_nI hb (by decide)
  have cl : (nI b).toNatClampNeg = b := cl_nI (by omega)
  have t0 : mX1_lowEnd (nI b) = nI (2 * b) := by rw [mX1_lowEnd]; show nI 2 * nI b = _; rw [pk_mul]
  have t1 : mX1_highEnd (nI b) = nI (2 * b + 1) := by rw [mX1_highEnd]; show nI 2 * nI b + 1 = _; rw [pk_mul, nI_1]
  have t2 : (2 : Int32) * nI b = nI (2 * b) := by show nI 2 * nI b = _; rw [pk_mul]
  have fin : ∀ (c1 c2 : Nat) (z1 z2 : Int) (F' P' : Nat → Nat → Nat), ((c1 = 2 * b ∧ c2 = 2 * b + 1 ∧ z1 = y ∧ z2 = z) ∨ (c1 = 2 * b + 1 ∧ c2 = 2 * b ∧ z1 = z ∧ z2 = y)) → SO (ky tc (vS (vS V ax c1 z1) ax c2 z2) ax) (F' ax) u → (∀ a, a ≠ ax → F' a = F a ∧ P' a = P a) → VL T (vS (vS V ax c1 z1) ax c2 z2) ∧ (∀ a, a < 3 → SO (ky tc (vS (vS V ax c1 z1) ax c2 z2) a) (F' a) u) ∧ (∀ a e, a ≠ ax → vS (vS V ax c1 z1) ax c2 z2 a e = V a e) := by
    intro c1 c2 z1 z2 F' P' hc hso hk
    have ne : ∀ a e, a ≠ ax → vS (vS V ax c1 z1) ax c2 z2 a e = V a e := fun a e w => by rw [vS_ne _ _ (fun q => w q.1), vS_ne _ _ (fun q => w q.1)]
    refine ⟨fun a h3 e he hTe => ?_, fun a h3 => ?_, ne⟩
    · by_cases w : a = ax
      · subst w
        by_cases w2 : e = b
        · subst w2
          rcases hc with ⟨q1, q2, q3, q4⟩ | ⟨q1, q2, q3, q4⟩
          · subst q1; subst q2; subst q3; subst q4
            rw [vS_at, vS_ne _ _ (by omega), vS_at]; exact hyz
          · subst q1; subst q2; subst q3; subst q4
            rw [vS_at, vS_ne _ _ (by omega), vS_at]; exact hyz
        · rw [vS_ne _ _ (by omega), vS_ne _ _ (by omega), vS_ne _ _ (by omega), vS_ne _ _ (by omega)]
          exact hV a h3 e he hTe
      · rw [ne a _ w, ne a _ w]; exact hV a h3 e he hTe
    · by_cases w : a = ax
      · subst w; exact hso
      · intro i j hij hj
        have := hS a h3 i j hij hj
        rw [(hk a w).1]
        unfold ky at this ⊢
        rw [ne a _ w, ne a _ w]
        exact this
  rw [mX3_layOn, if_pos ok, lineOf_eq ax ha]
  simp only [cl, if_pos ok, xl, t0, t1, bx_let]
  rw [mX4_layBox, ml, Option.bind_some, t2, nI_1]
  by_cases q : y ≤ V ax (2 * b)
  · rw [if_pos ((iv_le (by omega) (by omega)).mpr q), if_pos ((iv_le (by omega) (by omega)).mpr q)]
    obtain ⟨σ1, τ1, F1, P1, u1, a1, a2, a3, a4, a5, a6⟩ := put_eq (c := 2 * b) (kk := 8 + 5 * ax + 1) (z := y) h ha hb hT (Or.inl ⟨rfl, rfl⟩) (by omega) (by rw [vS_at, vS_ne _ _ (by omega)]; omega) (hS ax ha)
    obtain ⟨σ2, τ2, F2, P2, u2, b1, b2, b3, b4, b5, b6⟩ := put_eq (c := 2 * b + 1) (kk := 8 + 5 * ax + 2) (z := z) a3 ha hb hT (Or.inr ⟨rfl, rfl⟩) (by omega) (by rw [vS_at, vS_ne _ _ (by omega), vS_at]; exact hyz) a5
    obtain ⟨f1, f2, f3⟩ := fin (2 * b) (2 * b + 1) y z F2 P2 (Or.inl ⟨rfl, rfl, rfl, rfl⟩) b5 (fun a w => ⟨(b6 a w).1.trans (a6 a w).1, (b6 a w).2.trans (a6 a w).2⟩)
    exact ⟨σ2, τ2, _, F2, P2, u2, by rw [a1, Option.bind_some, b1, Option.bind_some], by rw [a2, Option.bind_some, b2, Option.bind_some], b3, by omega, f1, f2, f3⟩
  · rw [if_neg (fun w => q ((iv_le (by omega) (by omega)).mp w)), if_neg (fun w => q ((iv_le (by omega) (by omega)).mp w))]
    obtain ⟨σ1, τ1, F1, P1, u1, a1, a2, a3, a4, a5, a6⟩ := put_eq (c := 2 * b + 1) (kk := 8 + 5 * ax + 2) (z := z) h ha hb hT (Or.inr ⟨rfl, rfl⟩) (by omega) (by rw [vS_at, vS_ne _ _ (by omega)]; omega) (hS ax ha)
    obtain ⟨σ2, τ2, F2, P2, u2, b1, b2, b3, b4, b5, b6⟩ := put_eq (c := 2 * b) (kk := 8 + 5 * ax + 1) (z := y) a3 ha hb hT (Or.inl ⟨rfl, rfl⟩) (by omega) (by rw [vS_at, vS_ne _ _ (by omega), vS_at]; exact hyz) a5
    obtain ⟨f1, f2, f3⟩ := fin (2 * b + 1) (2 * b) z y F2 P2 (Or.inr ⟨rfl, rfl, rfl, rfl⟩) b5 (fun a w => ⟨(b6 a w).1.trans (a6 a w).1, (b6 a w).2.trans (a6 a w).2⟩)
    exact ⟨σ2, τ2, _, F2, P2, u2, by rw [a1, Option.bind_some, b1, Option.bind_some], by rw [a2, Option.bind_some, b2, Option.bind_some], b3, by omega, f1, f2, f3⟩
