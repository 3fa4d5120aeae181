def cx (n ax c p s : Nat) (σ : bx_St) : Option bx_St := Option.bind (mX1_sideToGo (8 + 5 * ax) (nI p) σ) fun side => mX3_putRight_24 n (nI ax) (nI c) (8 + 5 * ax) (nI p) side (nI s) σ
def SE (κ : Nat → Int) (f : Nat → Nat) (u p : Nat) : Prop := ∀ i j, i < j → j < u → i ≠ p → j ≠ p → κ (f i) < κ (f j)
def SO (κ : Nat → Int) (f : Nat → Nat) (u : Nat) : Prop := ∀ i j, i < j → j < u → κ (f i) < κ (f j)
/-- the class: nothing to do -/
theorem cx_stop {n ax c p s : Nat} {σ : bx_St} (h : mX1_sideToGo (8 + 5 * ax) (nI p) σ = some 0) : cx (n + 1) ax c p s σ = some σ := by
  rw [cx, h, Option.bind_some, mX3_putRight_24, if_pos (show (0 : Int32) = 0 from rfl), ite_self]
theorem nI_m1 (p : Nat) : nI (p + 1) + (-1) = nI p := by rw [← nI_pred p]; exact (Int32.sub_eq_add_neg _ _).symm
theorem cx_right {n ax c d p s : Nat} {σ σ' : bx_St} (h : mX1_sideToGo (8 + 5 * ax) (nI p) σ = some 1) (hs : s < 24) (hp : p + 1 < 24) (hd : σ.1 (8 + 5 * ax + 3) (p + 1) = nI d) (hst : ∀ (K24 : Int32 → Int32 → Nat → Int32 → Int32 → Int32 → bx_St → Option bx_St) (v4 v5 v6 : Int32), mX3_putRight_63 K24 (nI ax) (nI c) (8 + 5 * ax) v4 v5 v6 (nI d) (nI p) (8 + 5 * ax) σ = mX3_putRight_100 K24 (nI ax) (nI c) (8 + 5 * ax) v4 v5 v6 σ') : cx (n + 1) ax c p s σ = cx n ax c (p + 1) (s + 1) σ' := by
  rw [cx, h, Option.bind_some, mX3_putRight_24, if_neg (n24 hs), if_neg one_ne0, nI_1, if_pos (ok_nI hp (by decide)), if_neg (by decide), cl_nI (by omega), hd, hst, mX3_putRight_100, nI_1, nI_1, cx]
theorem cx_left {n ax c d p s : Nat} {σ σ' : bx_St} (h : mX1_sideToGo (8 + 5 * ax) (nI (p + 1)) σ = some (-1)) (hs : s < 24) (hp : p + 1 < 24) (hd : σ.1 (8 + 5 * ax + 3) p = nI d) (hst : ∀ (K24 : Int32 → Int32 → Nat → Int32 → Int32 → Int32 → bx_St → Option bx_St) (v4 v5 v6 : Int32), mX3_putRight_63 K24 (nI ax) (nI c) (8 + 5 * ax) v4 v5 v6 (nI d) (nI p) (8 + 5 * ax) σ = mX3_putRight_100 K24 (nI ax) (nI c) (8 + 5 * ax) v4 v5 v6 σ') : cx (n + 1) ax c (p + 1) s σ = cx n ax c p (s + 1) σ' := by
  rw [cx, h, Option.bind_some, mX3_putRight_24, if_neg (n24 hs), if_neg (by decide), nI_m1, if_pos (ok_nI (by omega) (by decide)), if_pos (by decide), cl_nI (by omega), hd, nI_pred, hst, mX3_putRight_100, nI_m1, nI_1, cx]
theorem own_ne {T : Nat → Bool} {f : Nat → Nat} {u : Nat} {P : Nat → Nat} {κ : Nat → Int} (hr : RWP T f u P) (ho : OWN T P) {c d : Nat} (hc : c < 24) (hT : T (c / 2) = true) (hK : κ (2 * (c / 2)) < κ (2 * (c / 2) + 1)) (hcd : c ≠ d) (h : (κ d < κ c ∧ P c < P d) ∨ (κ c < κ d ∧ P d < P c)) : c / 2 ≠ d / 2 := by
  intro e
  have o := ho (c / 2) (by omega) hT
  rcases (by omega : c % 2 = 0 ∨ c % 2 = 1) with q | q
  · have e1 : 2 * (c / 2) = c := by omega
    have e2 : 2 * (c / 2) + 1 = d := by omega
    rw [e2, e1] at hK o
    omega
  · have e1 : 2 * (c / 2) + 1 = c := by omega
    have e2 : 2 * (c / 2) = d := by omega
    rw [e1, e2] at hK o
    omega
theorem put_left {T : Nat → Bool} {tc : Bool} {V : Nat → Nat → Int} {u : Nat} {O : Nat → Nat → Bool} {ax c : Nat} (ha : ax < 3) (hc : c < 24) (hT : T (c / 2) = true) (hK : ky tc V ax (2 * (c / 2)) < ky tc V ax (2 * (c / 2) + 1)) : ∀ (p n n' s : Nat) (σ τ : bx_St) (F P : Nat → Nat → Nat) (t : Nat), MR σ τ T tc V F u P O t → p < u → F ax p = c → SE (ky tc V ax) (F ax) u p → ¬ (p + 1 < u ∧ ky tc V ax (F ax (p + 1)) < ky tc V ax c) → (s + p < 24 ∨ ¬ (0 < p ∧ ky tc V ax c < ky tc V ax (F ax (p - 1)))) → p < n → p < n' → ∃ σ' τ' F' P' t', cx n ax c p s σ = some σ' ∧ mX4_putRight_136 n' (nI c) (iv (V ax c)) (nI ax) (nI (24 * ax + p)) τ = some τ' ∧ MR σ' τ' T tc V F' u P' O t' ∧ t' ≤ t + p ∧ SO (ky tc V ax) (F' ax) u ∧ (∀ a, a ≠ ax → F' a = F a ∧ P' a = P a) := by
  intro p
  induction p with
  | zero =>
    intro n n' s σ τ F P t h hp hf hse hnr hs hn hn'
    obtain ⟨n, rfl⟩ : ∃ m, n = m + 1 := ⟨n - 1, by omega⟩
    obtain ⟨n', rfl⟩ : ∃ m, n' = m + 1 := ⟨n' - 1, by omega⟩
    have h0 := h
    obtain ⟨⟨x1, x2, x3, x4, x5, x6⟩, ⟨m1, m2, m3, m4, m5⟩, ⟨i1, i2, i3⟩, hL, hP⟩ := h
    obtain ⟨hr, ho⟩ := i2 ax ha
    have sd := x_side ha x2 x3 x4 i1 hr hp
    rw [hf, if_neg hnr, if_neg (by omega)] at sd
    refine ⟨σ, τ, F, P, t, cx_stop sd, ?_, h0, by omega, ?_, fun _ _ => ⟨rfl, rfl⟩⟩
    · have e : (24 : Int32) * nI ax = nI (24 * ax) := by show nI 24 * nI ax = _; rw [pk_mul]
      rw [mX4_putRight_136, e, if_pos (nI_le (by omega) (by omega))]
    · intro i j hij hj
      by_cases q : i = 0
      · subst q
        rw [hf]
        by_cases q2 : j = 1
        · subst q2
          have := ky_inj (tc := tc) (V := V) (ax := ax) (c := F ax 1) (d := c) (hr.2.1 1 hj).1 hc
          have n1 : F ax 1 ≠ c := fun e => hr.ne (by omega) hj (show (0 : Nat) ≠ 1 by omega) (by rw [hf, e])
          have : ky tc V ax (F ax 1) ≠ ky tc V ax c := fun e => n1 (this e)
          have : ¬ ky tc V ax (F ax 1) < ky tc V ax c := fun e => hnr ⟨hj, e⟩
          omega
        · have s1 := hse 1 j (by omega) hj (by omega) (by omega)
          have := ky_inj (tc := tc) (V := V) (ax := ax) (c := F ax 1) (d := c) (hr.2.1 1 (by omega)).1 hc
          have : ¬ ky tc V ax (F ax 1) < ky tc V ax c := fun e => hnr ⟨by omega, e⟩
          omega
      · exact hse i j hij hj q (by omega)
  | succ p ih =>
    intro n n' s σ τ F P t h hp hf hse hnr hs hn hn'
    obtain ⟨n, rfl⟩ : ∃ m, n = m + 1 := ⟨n - 1, by omega⟩
    obtain ⟨n', rfl⟩ : ∃ m, n' = m + 1 := ⟨n' - 1, by omega⟩
    have h0 := h
    obtain ⟨⟨x1, x2, x3, x4, x5, x6⟩, ⟨m1, m2, m3, m4, m5⟩, ⟨i1, i2, i3⟩, hL, hP⟩ := h
    obtain ⟨hr, ho⟩ := i2 ax ha
    have h24 := hr.1
    have e24 : (24 : Int32) * nI ax = nI (24 * ax) := by show nI 24 * nI ax = _; rw [pk_mul]
    have ep : nI (24 * ax + (p + 1)) - 1 = nI (24 * ax + p) := nI_pred (24 * ax + p)
    have ep2 : nI (24 * ax + (p + 1)) + (-1) = nI (24 * ax + p) := nI_m1 (24 * ax + p)
    have sd := x_side ha x2 x3 x4 i1 hr hp
    obtain ⟨D1, D2, D3⟩ := hr.2.1 p (by omega)
    have cP : P ax c = p + 1 := by have := (hr.2.1 (p + 1) hp).2.2; rw [hf] at this; exact this
    have hdc : F ax p ≠ c := fun e => hr.ne (by omega) hp (show p ≠ p + 1 by omega) (by rw [e, hf])
    have o1 : bx_ok (nI (24 * ax + p)) 72 := ok_nI (by omega) (by decide)
    have o2 : bx_ok (nI (24 * ax + (p + 1))) 72 := ok_nI (by omega) (by decide)
    have c1 : (nI (24 * ax + p)).toNatClampNeg = 24 * ax + p := cl_nI (by omega)
    have c2 : (nI (24 * ax + (p + 1))).toNatClampNeg = 24 * ax + (p + 1) := cl_nI (by omega)
    have ah : mX4_isAhead (nI c) (iv (V ax c)) (nI (F ax p)) (nI ax) τ = some (bI (decide (ky tc V ax c < ky tc V ax (F ax p)))) := m_isAhead m2 m1 i1 (i1 ax ha c hc) hc D1 ha
    rw [hf, if_neg hnr, show p + 1 - 1 = p by omega] at sd
    rw [show p + 1 - 1 = p by omega] at hs
    by_cases g : ky tc V ax c < ky tc V ax (F ax p)
    · rw [if_pos ⟨by omega, g⟩] at sd
      have hs24 : s + (p + 1) < 24 := by
        rcases hs with q | q
        · exact q
        · exact absurd ⟨by omega, g⟩ q
      have hb : F ax p / 2 ≠ F ax (p + 1) / 2 := by
        rw [hf]
        exact Ne.symm (own_ne hr ho hc hT hK (Ne.symm hdc) (Or.inr ⟨g, by omega⟩))
      obtain ⟨σ1, τ1, a1, a2, hM⟩ := MR_step (τ2 := bx_up (bx_up τ 3 (24 * ax + (p + 1)) (nI (F ax p))) 3 (24 * ax + p) (nI c)) h0 ha hp hb (c := c) (d := F ax p) (Or.inr ⟨hf.symm, rfl⟩) (fun q hq => by
        unfold swF
        rw [up_get, if_pos rfl]
        by_cases w1 : q = p
        · rw [if_pos (by omega), if_pos w1, hf]
        · rw [if_neg (by omega), if_neg w1, up_get, if_pos rfl]
          by_cases w2 : q = p + 1
          · rw [if_pos (by omega), if_pos w2]
          · rw [if_neg (by omega), if_neg w2]; exact m3.2 ax ha q hq) (fun k i w => by
        rw [up_get]
        by_cases w1 : k = 3
        · have := w w1
          rw [if_pos w1, if_neg (by omega), up_get, if_pos rfl, if_neg (by omega), w1]
        · rw [if_neg w1, up_get, if_neg w1])
      rw [hf] at a2
      have hf' : setA F ax (swF (F ax) p) ax p = c := by rw [setA_eq, swF, if_pos rfl, hf]
      obtain ⟨σ', τ', F', P', t', b1, b2, b3, b4, b5, b6⟩ := ih n n' (s + 1) σ1 τ1 _ _ _ hM (by omega) hf' (by
        rw [setA_eq]
        intro i j hij hj hi hj2
        unfold swF
        rw [if_neg hi, if_neg hj2]
        by_cases w1 : i = p + 1
        · rw [if_pos w1, if_neg (by omega)]; exact hse p j (by omega) hj (by omega) (by omega)
        · rw [if_neg w1]
          by_cases w2 : j = p + 1
          · rw [if_pos w2]; exact hse i p (by omega) (by omega) (by omega) (by omega)
          · rw [if_neg w2]; exact hse i j hij hj w1 w2) (by
        rw [setA_eq, swF, if_neg (by omega), if_pos rfl]
        intro w
        omega) (Or.inl (by omega)) (by omega) (by omega)
      have tl := tq_le T P (F ax) ax p
      refine ⟨σ', τ', F', P', t', ?_, ?_, b3, by omega, b5, fun a w => ?_⟩
      · rw [cx_left sd (by omega) (by omega) ((x4 ax ha).2 p (by omega)) a1]; exact b1
      · have rd : τ.1 3 (24 * ax + p) = nI (F ax p) := m3.2 ax ha p (by omega)
        have rd2 : ∀ τ0 : bx_St, (bx_up (bx_up τ0 3 (24 * ax + (p + 1)) (nI (F ax p))) 3 (24 * ax + p) (nI c)).1 3 (24 * ax + (p + 1)) = nI (F ax p) := fun τ0 => by rw [up_get, if_pos rfl, if_neg (by omega), up_get, if_pos rfl, if_pos rfl]
        rw [mX4_putRight_136, e24, if_neg (nI_ge (by omega) (by omega)), ep, ep2, if_pos o1]
        simp only [c1, c2, rd, if_pos o1, if_pos o2, bx_let, rd2]
        rw [ah, Option.bind_some, decide_eq_true g, if_neg (by decide), a2, Option.bind_some]
        exact b2
      · have := b6 a w
        rw [this.1, this.2, setA_ne _ _ w, setA_ne _ _ w]
        exact ⟨rfl, rfl⟩
    · rw [if_neg (fun w => g w.2)] at sd
      refine ⟨σ, τ, F, P, t, cx_stop sd, ?_, h0, by omega, ?_, fun _ _ => ⟨rfl, rfl⟩⟩
      · have rd : τ.1 3 (24 * ax + p) = nI (F ax p) := m3.2 ax ha p (by omega)
        rw [mX4_putRight_136, e24, if_neg (nI_ge (by omega) (by omega)), ep, if_pos o1]
        simp only [c1, rd]
        rw [ah, Option.bind_some, decide_eq_false g, if_pos (by rfl)]
      · have gl : ky tc V ax (F ax p) < ky tc V ax c := by
          have := ky_inj (tc := tc) (V := V) (ax := ax) (c := F ax p) (d := c) D1 hc
          have : ky tc V ax (F ax p) ≠ ky tc V ax c := fun e => hdc (this e)
          omega
        have gr : ∀ j, p + 1 < j → j < u → ky tc V ax c < ky tc V ax (F ax j) := by
          intro j hj hju
          have n1 : F ax (p + 1 + 1) ≠ c := fun e => hr.ne (show p + 1 + 1 < u by omega) hp (by omega) (by rw [e, hf])
          have := ky_inj (tc := tc) (V := V) (ax := ax) (c := F ax (p + 1 + 1)) (d := c) (hr.2.1 _ (by omega)).1 hc
          have n2 : ky tc V ax (F ax (p + 1 + 1)) ≠ ky tc V ax c := fun e => n1 (this e)
          have n3 : ¬ ky tc V ax (F ax (p + 1 + 1)) < ky tc V ax c := fun e => hnr ⟨by omega, e⟩
          by_cases w : j = p + 1 + 1
          · rw [w]; omega
          · have := hse (p + 1 + 1) j (by omega) hju (by omega) (by omega)
            omega
        intro i j hij hj
        by_cases w1 : i = p + 1
        · rw [w1, hf]; exact gr j (by omega) hj
        · by_cases w2 : j = p + 1
          · rw [w2, hf]
            by_cases w3 : i = p
            · rw [w3]; exact gl
            · have := hse i p (by omega) (by omega) w1 (by omega)
              omega
          · exact hse i j hij hj w1 w2
theorem put_right {T : Nat → Bool} {tc : Bool} {V : Nat → Nat → Int} {u : Nat} {O : Nat → Nat → Bool} {ax c : Nat} (ha : ax < 3) (hc : c < 24) (hT : T (c / 2) = true) (hK : ky tc V ax (2 * (c / 2)) < ky tc V ax (2 * (c / 2) + 1)) : ∀ (k n n' p s : Nat) (σ τ : bx_St) (F P : Nat → Nat → Nat) (t : Nat), p + k + 1 = u → MR σ τ T tc V F u P O t → F ax p = c → SE (ky tc V ax) (F ax) u p → (s = 0 ∨ (0 < p ∧ ky tc V ax (F ax (p - 1)) < ky tc V ax c)) → s + k < 24 → k + 24 < n → k < n' → ∃ σ' τ' F' P' t', cx n ax c p s σ = some σ' ∧ mX4_putRight_43 n' (nI c) (iv (V ax c)) (nI ax) (nI (24 * ax + p)) τ = some τ' ∧ MR σ' τ' T tc V F' u P' O t' ∧ t' ≤ t + k + 24 ∧ SO (ky tc V ax) (F' ax) u ∧ (∀ a, a ≠ ax → F' a = F a ∧ P' a = P a) := by
  have bF : bx_F = 5000 := rfl
  have stop : ∀ (n p s : Nat) (σ τ : bx_St) (F P : Nat → Nat → Nat) (t : Nat), MR σ τ T tc V F u P O t → p < u → F ax p = c → SE (ky tc V ax) (F ax) u p → ¬ (p + 1 < u ∧ ky tc V ax (F ax (p + 1)) < ky tc V ax c) → (s = 0 ∨ (0 < p ∧ ky tc V ax (F ax (p - 1)) < ky tc V ax c)) → 24 < n → ∃ σ' τ' F' P' t', cx n ax c p s σ = some σ' ∧ mX4_putRight_136 5000 (nI c) (iv (V ax c)) (nI ax) (nI (24 * ax + p)) τ = some τ' ∧ MR σ' τ' T tc V F' u P' O t' ∧ t' ≤ t + 24 ∧ SO (ky tc V ax) (F' ax) u ∧ (∀ a, a ≠ ax → F' a = F a ∧ P' a = P a) := by
    intro n p s σ τ F P t h hp hf hse hnr hs hn
    have h24 := (h.2.2.1.2.1 ax ha).1.1
    obtain ⟨σ', τ', F', P', t', b1, b2, b3, b4, b5, b6⟩ := put_left (O := O) ha hc hT hK p n 5000 s σ τ F P t h hp hf hse hnr (by
      rcases hs with q | q
      · left; omega
      · right; intro w; omega) (by omega) (by omega)
    exact ⟨σ', τ', F', P', t', b1, b2, b3, by omega, b5, b6⟩
  intro k
  induction k with
  | zero =>
    intro n n' p s σ τ F P t hk h hf hse hs hsk hn hn'
    obtain ⟨n', rfl⟩ : ∃ m, n' = m + 1 := ⟨n' - 1, by omega⟩
    have h24 := (h.2.2.1.2.1 ax ha).1.1
    obtain ⟨σ', τ', F', P', t', b1, b2, b3, b4, b5, b6⟩ := stop n p s σ τ F P t h (by omega) hf hse (by omega) hs (by omega)
    refine ⟨σ', τ', F', P', t', b1, ?_, b3, by omega, b5, b6⟩
    rw [mX4_putRight_43, h.2.1.2.2.1.1, m_ix24, nI_1, if_pos (nI_le (by omega) (by omega)), bF]
    exact b2
  | succ k ih =>
    intro n n' p s σ τ F P t hk h hf hse hs hsk hn hn'
    obtain ⟨n', rfl⟩ : ∃ m, n' = m + 1 := ⟨n' - 1, by omega⟩
    have h0 := h
    obtain ⟨⟨x1, x2, x3, x4, x5, x6⟩, ⟨m1, m2, m3, m4, m5⟩, ⟨i1, i2, i3⟩, hL, hP⟩ := h
    obtain ⟨hr, ho⟩ := i2 ax ha
    have h24 := hr.1
    have hp : p + 1 < u := by omega
    obtain ⟨D1, D2, D3⟩ := hr.2.1 (p + 1) hp
    have cP : P ax c = p := by have := (hr.2.1 p (by omega)).2.2; rw [hf] at this; exact this
    have hdc : F ax (p + 1) ≠ c := fun e => hr.ne (by omega) hp (show p ≠ p + 1 by omega) (by rw [e, hf])
    have o1 : bx_ok (nI (24 * ax + p)) 72 := ok_nI (by omega) (by decide)
    have o2 : bx_ok (nI (24 * ax + p + 1)) 72 := ok_nI (by omega) (by decide)
    have c1 : (nI (24 * ax + p)).toNatClampNeg = 24 * ax + p := cl_nI (by omega)
    have c2 : (nI (24 * ax + p + 1)).toNatClampNeg = 24 * ax + p + 1 := cl_nI (by omega)
    have rd : τ.1 3 (24 * ax + p + 1) = nI (F ax (p + 1)) := m3.2 ax ha (p + 1) (by omega)
    have vo : mX4_valueOf (nI (F ax (p + 1))) (nI ax) τ = some (iv (V ax (F ax (p + 1)))) := m_valueOf m2 D1 ha
    have ah : mX4_isAhead (nI (F ax (p + 1))) (iv (V ax (F ax (p + 1)))) (nI c) (nI ax) τ = some (bI (decide (ky tc V ax (F ax (p + 1)) < ky tc V ax c))) := m_isAhead m2 m1 i1 (i1 ax ha _ D1) D1 hc ha
    by_cases g : ky tc V ax (F ax (p + 1)) < ky tc V ax c
    · obtain ⟨n, rfl⟩ : ∃ m, n = m + 1 := ⟨n - 1, by omega⟩
      have sd := x_side ha x2 x3 x4 i1 hr (show p < u by omega)
      rw [hf, if_pos ⟨hp, g⟩] at sd
      have hb : F ax p / 2 ≠ F ax (p + 1) / 2 := by
        rw [hf]
        exact own_ne hr ho hc hT hK (Ne.symm hdc) (Or.inl ⟨g, by omega⟩)
      obtain ⟨σ1, τ1, a1, a2, hM⟩ := MR_step (τ2 := bx_up (bx_up τ 3 (24 * ax + p) (nI (F ax (p + 1)))) 3 (24 * ax + p + 1) (nI c)) h0 ha hp hb (c := c) (d := F ax (p + 1)) (Or.inl ⟨hf.symm, rfl⟩) (fun q hq => by
        unfold swF
        rw [up_get, if_pos rfl]
        by_cases w2 : q = p + 1
        · rw [if_pos (by omega), if_neg (by omega), if_pos w2, hf]
        · rw [if_neg (by omega), up_get, if_pos rfl]
          by_cases w1 : q = p
          · rw [if_pos (by omega), if_pos w1]
          · rw [if_neg (by omega), if_neg w1, if_neg w2]; exact m3.2 ax ha q hq) (fun k i w => by
        rw [up_get]
        by_cases w1 : k = 3
        · have := w w1
          rw [if_pos w1, if_neg (by omega), up_get, if_pos rfl, if_neg (by omega), w1]
        · rw [if_neg w1, up_get, if_neg w1])
      rw [hf] at a2
      have hf' : setA F ax (swF (F ax) p) ax (p + 1) = c := by rw [setA_eq, swF, if_neg (by omega), if_pos rfl, hf]
      obtain ⟨σ', τ', F', P', t', b1, b2, b3, b4, b5, b6⟩ := ih n n' (p + 1) (s + 1) σ1 τ1 _ _ _ (by omega) hM hf' (by
        rw [setA_eq]
        intro i j hij hj hi hj2
        unfold swF
        rw [if_neg hi, if_neg hj2]
        by_cases w1 : i = p
        · rw [if_pos w1, if_neg (by omega)]; exact hse (p + 1) j (by omega) hj (by omega) (by omega)
        · rw [if_neg w1]
          by_cases w2 : j = p
          · rw [if_pos w2]; exact hse i (p + 1) (by omega) (by omega) w1 (by omega)
          · rw [if_neg w2]; exact hse i j hij hj w1 w2) (by
        right
        rw [setA_eq, show p + 1 - 1 = p by omega, swF, if_pos rfl]
        exact ⟨by omega, g⟩) (by omega) (by omega) (by omega)
      have tl := tq_le T P (F ax) ax p
      refine ⟨σ', τ', F', P', t', ?_, ?_, b3, by omega, b5, fun a w => ?_⟩
      · rw [cx_right sd (by omega) (by omega) ((x4 ax ha).2 (p + 1) (by omega)) a1]; exact b1
      · have rd2 : ∀ τ0 : bx_St, (bx_up (bx_up τ0 3 (24 * ax + p) (nI (F ax (p + 1)))) 3 (24 * ax + p + 1) (nI c)).1 3 (24 * ax + p) = nI (F ax (p + 1)) := fun τ0 => by rw [up_get, if_pos rfl, if_neg (by omega), up_get, if_pos rfl, if_pos rfl]
        rw [mX4_putRight_43, m3.1, m_ix24, nI_1, if_neg (nI_ge (by omega) (by omega)), if_pos o2, if_pos o2]
        simp only [c1, c2, rd, if_pos o1, if_pos o2, bx_let, rd2]
        rw [vo, Option.bind_some, ah, Option.bind_some, decide_eq_true g, if_neg (by decide), a2, Option.bind_some]
        exact b2
      · have := b6 a w
        rw [this.1, this.2, setA_ne _ _ w, setA_ne _ _ w]
        exact ⟨rfl, rfl⟩
    · obtain ⟨σ', τ', F', P', t', b1, b2, b3, b4, b5, b6⟩ := stop n p s σ τ F P t h0 (by omega) hf hse (fun w => g w.2) hs (by omega)
      refine ⟨σ', τ', F', P', t', b1, ?_, b3, by omega, b5, b6⟩
      rw [mX4_putRight_43, m3.1, m_ix24, nI_1, if_neg (nI_ge (by omega) (by omega)), if_pos o2, if_pos o2]
      simp only [c2, rd]
      rw [vo, Option.bind_some, ah, Option.bind_some, decide_eq_false g, if_pos (by rfl), bF]
      exact b2
