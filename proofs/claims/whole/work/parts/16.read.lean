theorem there_eq {σ τ : bx_St} {T : Nat → Bool} {tc : Bool} (hx : XB σ T tc) (hm : MB τ T tc) (v : Int32) : (∃ b, b < 12 ∧ v = nI b ∧ T b = true ∧ mX3_isThere v σ = 1 ∧ mX4_isBox v τ = 1) ∨ (mX3_isThere v σ = 0 ∧ mX4_isBox v τ = 0) := by
  rcases cases_n v 11 (by decide) with h | ⟨b, hb, rfl⟩
  · right
    refine ⟨?_, by rw [mX4_isBox, within_no (v := v) (lo := 0) (hi := 11) h, if_pos rfl]⟩
    rcases h with h | h
    · rw [mX3_isThere, if_pos h]
    · have h1 : ¬ v < 0 := by
        have := (fa_lt _ _).mp h
        rw [fa_lt]
        rw [nI_toInt (by decide)] at this
        have : (0 : Int32).toInt = 0 := by decide
        omega
      have h2 : (12 : Int32) ≤ v := by
        have := (fa_lt _ _).mp h
        rw [fa_le]
        rw [nI_toInt (by decide)] at this
        have : (12 : Int32).toInt = 12 := by decide
        omega
      rw [mX3_isThere, if_neg h1, if_pos h2]
  · have e1 : mX3_isThere (nI b) σ = bI (T b) := by
      rw [mX3_isThere, if_neg (nI_pos (by omega)), if_neg (n12 (by omega)), hx.1, hold_bm _ (by omega)]
      cases T b <;> rfl
    have e2 : mX4_isBox (nI b) τ = bI (T b) := by
      rw [mX4_isBox, within_yes (hi := 11) (nI_pos (by omega)) (nI_nlt (a := 11) (b := b) hb (by decide)), if_neg one_ne0, hm.1, has_bm _ (by omega)]
      cases T b <;> rfl
    cases hT : T b with
    | true => left; exact ⟨b, by omega, rfl, hT, by rw [e1, hT]; rfl, by rw [e2, hT]; rfl⟩
    | false => right; exact ⟨by rw [e1, hT]; rfl, by rw [e2, hT]; rfl⟩
theorem there_b {σ : bx_St} {T : Nat → Bool} {tc : Bool} (hx : XB σ T tc) {b : Nat} (hb : b < 12) : mX3_isThere (nI b) σ = bI (T b) := by
  rw [mX3_isThere, if_neg (nI_pos (by omega)), if_neg (n12 (by omega)), hx.1, hold_bm _ (by omega)]
  cases T b <;> rfl
theorem axis_eq (v : Int32) : (∃ ax, ax < 3 ∧ v = nI ax ∧ mX3_isAxis v = 1 ∧ mX4_isAxis v = some 1) ∨ (mX3_isAxis v = 0 ∧ mX4_isAxis v = some 0) := by
  rcases cases_n v 2 (by decide) with h | ⟨b, hb, rfl⟩
  · right
    refine ⟨?_, by rw [mX4_isAxis, within_no (v := v) (lo := 0) (hi := 2) h]; rfl⟩
    rcases h with h | h
    · rw [mX3_isAxis, if_pos h]
    · have h1 : ¬ v < 0 := by
        have := (fa_lt _ _).mp h
        rw [fa_lt]
        rw [nI_toInt (by decide)] at this
        have : (0 : Int32).toInt = 0 := by decide
        omega
      have h2 : (3 : Int32) ≤ v := by
        have := (fa_lt _ _).mp h
        rw [fa_le]
        rw [nI_toInt (by decide)] at this
        have : (3 : Int32).toInt = 3 := by decide
        omega
      rw [mX3_isAxis, if_neg h1, if_pos h2]
  · left
    exact ⟨b, by omega, rfl, by rw [mX3_isAxis, if_neg (nI_pos (by omega)), if_neg (n3 (by omega))], by rw [mX4_isAxis, within_yes (nI_pos (by omega)) (g2 hb)]; rfl⟩
theorem m_lowOf {τ : bx_St} {V : Nat → Nat → Int} (h : MV τ V) {b ax : Nat} (hb : b < 12) (ha : ax < 3) : mX4_lowOf (nI b) (nI ax) τ = some (iv (V ax (2 * b))) := by
  have e : ((6 : Int32) * nI b) + ((2 : Int32) * nI ax) = nI (6 * b + 2 * ax) := by
    show (nI 6 * nI b) + (nI 2 * nI ax) = _
    rw [pk_mul, pk_mul, nI_add]
  rw [mX4_lowOf, e, if_pos (ok_nI (by omega) (by decide)), cl_nI (by omega)]
  exact congrArg some (h ax ha b hb 0 (by omega))
theorem m_highOf {τ : bx_St} {V : Nat → Nat → Int} (h : MV τ V) {b ax : Nat} (hb : b < 12) (ha : ax < 3) : mX4_highOf (nI b) (nI ax) τ = some (iv (V ax (2 * b + 1))) := by
  have e : (((6 : Int32) * nI b) + ((2 : Int32) * nI ax)) + (1 : Int32) = nI (6 * b + 2 * ax + 1) := by
    show (nI 6 * nI b) + (nI 2 * nI ax) + nI 1 = _
    rw [pk_mul, pk_mul, nI_add, nI_add]
  rw [mX4_highOf, e, if_pos (ok_nI (by omega) (by decide)), cl_nI (by omega)]
  exact congrArg some (h ax ha b hb 1 (by omega))
theorem m_div2 {c : Nat} (hc : c < 2 ^ 31) : nI c / (2 : Int32) = nI (c / 2) := pk_div (d := 2) hc (by omega) (by decide)
theorem m_rem2 {c : Nat} (hc : c < 2 ^ 31) : bx_rem (nI c) (2 : Int32) = nI (c % 2) := pk_rem (d := 2) hc (by omega) (by decide)
theorem m_ix {c ax : Nat} (hc : c < 2 ^ 20) : ((((6 : Int32) * (nI c / (2 : Int32))) + ((2 : Int32) * nI ax)) + (bx_rem (nI c) (2 : Int32))) = nI (6 * (c / 2) + 2 * ax + c % 2) := by
  rw [m_div2 (by omega), m_rem2 (by omega)]
  show (nI 6 * nI (c / 2)) + (nI 2 * nI ax) + nI (c % 2) = _
  rw [pk_mul, pk_mul, nI_add, nI_add]
theorem c_split (c : Nat) : 2 * (c / 2) + c % 2 = c := by omega
theorem m_valueOf {τ : bx_St} {V : Nat → Nat → Int} (h : MV τ V) {c ax : Nat} (hc : c < 24) (ha : ax < 3) : mX4_valueOf (nI c) (nI ax) τ = some (iv (V ax c)) := by
  rw [mX4_valueOf, m_ix (by omega), if_pos (ok_nI (by omega) (by decide)), cl_nI (by omega), h ax ha (c / 2) (by omega) (c % 2) (by omega), c_split]
theorem x_boxOf {c : Nat} (hc : c < 2 ^ 31) : mX1_boxOf (nI c) = nI (c / 2) := by
  rw [mX1_boxOf, pk_shrN hc _ 1 (by decide)]
theorem x_isHigh {c : Nat} (hc : c < 2 ^ 31) : mX1_isHigh (nI c) = bI (decide (c % 2 = 1)) := by
  rw [mX1_isHigh, pk_andN (by omega) 1 (by decide)]
  rcases (by omega : c % 2 = 0 ∨ c % 2 = 1) with h | h
  · rw [show c % 2 ^ 1 = 0 from h]; rfl
  · rw [show c % 2 ^ 1 = 1 from h]; rfl
theorem x_valueOf {σ : bx_St} {V : Nat → Nat → Int} (h : XV σ V) {c ax : Nat} (hc : c < 24) (ha : ax < 3) : mX1_valueOf (8 + 5 * ax) (nI c) σ = some (iv (V ax c)) := by
  rw [mX1_valueOf, x_isHigh (by omega), x_boxOf (by omega), if_pos (ok_nI (by omega) (by decide)), if_pos (ok_nI (by omega) (by decide)), cl_nI (by omega), (h ax ha (c / 2) (by omega)).1, (h ax ha (c / 2) (by omega)).2]
  rcases (by omega : c % 2 = 0 ∨ c % 2 = 1) with h | h
  · rw [if_pos (by rw [h]; rfl), show 2 * (c / 2) = c by omega]
  · rw [if_neg (by rw [h]; decide), show 2 * (c / 2) + 1 = c by omega]
theorem iv_inj {a b : Int} (ha : -2147483648 ≤ a ∧ a < 2147483648) (hb : -2147483648 ≤ b ∧ b < 2147483648) : iv a = iv b ↔ a = b := by
  rw [fa_eq, iv_toInt ha.1 ha.2, iv_toInt hb.1 hb.2]
theorem iv_le {a b : Int} (ha : -2147483648 ≤ a ∧ a < 2147483648) (hb : -2147483648 ≤ b ∧ b < 2147483648) : iv a ≤ iv b ↔ a ≤ b := by
  rw [fa_le, iv_toInt ha.1 ha.2, iv_toInt hb.1 hb.2]
theorem iv_lt {a b : Int} (ha : -2147483648 ≤ a ∧ a < 2147483648) (hb : -2147483648 ≤ b ∧ b < 2147483648) : iv a < iv b ↔ a < b := by
  rw [fa_lt, iv_toInt ha.1 ha.2, iv_toInt hb.1 hb.2]
/-- the key of an end whose number is z -/
def kz (tc : Bool) (z : Int) (c : Nat) : Int := z * 64 + (if decide (c % 2 = 1) = tc then 32 else 0) + ((c / 2 : Nat) : Int)
theorem ky_kz (tc : Bool) (V : Nat → Nat → Int) (ax c : Nat) : ky tc V ax c = kz tc (V ax c) c := rfl
/-- the order told by the key: as the class tells it -/
theorem kz_lt {tc : Bool} {y z : Int} {c d : Nat} (hc : c < 24) (hd : d < 24) : kz tc y c < kz tc z d ↔ (y < z ∨ (y = z ∧ ((decide (c % 2 = 1) ≠ decide (d % 2 = 1) ∧ decide (c % 2 = 1) ≠ tc) ∨ (decide (c % 2 = 1) = decide (d % 2 = 1) ∧ c / 2 < d / 2)))) := by
  unfold kz
  rcases (by omega : c % 2 = 0 ∨ c % 2 = 1) with h | h <;> rcases (by omega : d % 2 = 0 ∨ d % 2 = 1) with h2 | h2 <;> cases tc <;> simp [h, h2] <;> omega
theorem x_isAhead1 {σ : bx_St} {V : Nat → Nat → Int} {tc : Bool} {ax : Nat} (h : XV σ V) (hk : σ.1 (8 + 5 * ax) 5 = bI tc) (hr : VR V) {c d : Nat} (hc : c < 24) (hd : d < 24) (ha : ax < 3) : mX1_isAhead (8 + 5 * ax) (nI c) (nI d) σ = some (bI (decide (ky tc V ax c < ky tc V ax d))) := by
  have rc := hr ax ha c hc
  have rd := hr ax ha d hd
  rw [mX1_isAhead, x_valueOf h hc ha, x_valueOf h hd ha, Option.bind_some, Option.bind_some, x_isHigh (by omega), x_isHigh (by omega), x_boxOf (by omega), x_boxOf (by omega), hk]
  have key := kz_lt (tc := tc) (y := V ax c) (z := V ax d) hc hd
  rw [ky_kz, ky_kz]
  by_cases e1 : V ax c = V ax d
  · rw [if_pos (by rw [e1])]
    by_cases e2 : decide (c % 2 = 1) = decide (d % 2 = 1)
    · rw [if_pos (by rw [e2])]
      by_cases e3 : c / 2 < d / 2
      · rw [if_neg (nI_ge e3 (by omega)), decide_eq_true (key.mpr (Or.inr ⟨e1, Or.inr ⟨e2, e3⟩⟩))]
        rfl
      · rw [if_pos (nI_le (by omega) (by omega)), decide_eq_false]
        · rfl
        · intro q
          rcases key.mp q with q | ⟨-, q | q⟩
          · omega
          · exact q.1 e2
          · exact e3 q.2
    · rw [if_neg (fun q => e2 (bI_inj.mp q))]
      by_cases e3 : decide (c % 2 = 1) = tc
      · rw [if_pos (by rw [e3]), decide_eq_false]
        · rfl
        · intro q
          rcases key.mp q with q | ⟨-, q | q⟩
          · omega
          · exact q.2 e3
          · exact e2 q.1
      · rw [if_neg (fun q => e3 (bI_inj.mp q)), decide_eq_true (key.mpr (Or.inr ⟨e1, Or.inl ⟨e2, e3⟩⟩))]
        rfl
  · rw [if_neg (fun q => e1 ((iv_inj (by omega) (by omega)).mp q))]
    by_cases e2 : V ax d ≤ V ax c
    · rw [if_pos ((iv_le (by omega) (by omega)).mpr e2), decide_eq_false]
      · rfl
      · intro q
        rcases key.mp q with q | ⟨q, -⟩
        · omega
        · exact e1 q
    · rw [if_neg (fun q => e2 ((iv_le (by omega) (by omega)).mp q)), decide_eq_true (key.mpr (Or.inl (by omega)))]
      rfl
theorem x_isAhead {σ : bx_St} {V : Nat → Nat → Int} {tc : Bool} (h : XV σ V) (hk : XK σ tc) (hr : VR V) {c d ax : Nat} (hc : c < 24) (hd : d < 24) (ha : ax < 3) : mX1_isAhead (8 + 5 * ax) (nI c) (nI d) σ = some (bI (decide (ky tc V ax c < ky tc V ax d))) := x_isAhead1 h (hk ax ha) hr hc hd ha
theorem m_isAhead {τ : bx_St} {V : Nat → Nat → Int} {T : Nat → Bool} {tc : Bool} (h : MV τ V) (hb : MB τ T tc) (hr : VR V) {c d ax : Nat} {z : Int} (hz : -999 ≤ z ∧ z ≤ 999) (hc : c < 24) (hd : d < 24) (ha : ax < 3) : mX4_isAhead (nI c) (iv z) (nI d) (nI ax) τ = some (bI (decide (kz tc z c < ky tc V ax d))) := by
  have rd := hr ax ha d hd
  rw [mX4_isAhead, m_valueOf h hd ha, Option.bind_some, m_rem2 (by omega), m_rem2 (by omega), m_div2 (by omega), m_div2 (by omega), mX4_isAhead_47, mX4_isAhead_47, hb.2]
  have key := kz_lt (tc := tc) (y := z) (z := V ax d) hc hd
  rw [ky_kz]
  by_cases e1 : z = V ax d
  · rw [if_pos (by rw [e1])]
    by_cases e2 : c % 2 = d % 2
    · rw [if_pos (by rw [e2])]
      by_cases e3 : c / 2 < d / 2
      · rw [if_neg (nI_ge e3 (by omega)), decide_eq_true (key.mpr (Or.inr ⟨e1, Or.inr ⟨by rw [e2], e3⟩⟩))]
        rfl
      · rw [if_pos (nI_le (by omega) (by omega)), decide_eq_false]
        · rfl
        · intro q
          rcases key.mp q with q | ⟨-, q | q⟩
          · omega
          · exact q.1 (by rw [e2])
          · exact e3 q.2
    · rw [if_neg (fun q => e2 ((nI_eq (by omega) (by omega)).mp q))]
      have e4 : decide (c % 2 = 1) ≠ decide (d % 2 = 1) := by
        rcases (by omega : c % 2 = 0 ∨ c % 2 = 1) with h | h <;> rcases (by omega : d % 2 = 0 ∨ d % 2 = 1) with h2 | h2 <;> simp [h, h2] <;> omega
      rcases (by omega : c % 2 = 0 ∨ c % 2 = 1) with h5 | h5
      · rw [if_pos (by rw [h5]; rfl)]
        cases tc with
        | true => rw [if_pos (by rfl), decide_eq_true (key.mpr (Or.inr ⟨e1, Or.inl ⟨e4, by rw [h5]; decide⟩⟩))]; rfl
        | false =>
          rw [if_neg (by decide), decide_eq_false]
          · rfl
          · intro q
            rcases key.mp q with q | ⟨-, q | q⟩
            · omega
            · exact q.2 (by rw [h5]; rfl)
            · exact e4 q.1
      · rw [if_neg (by rw [h5]; decide)]
        cases tc with
        | false => rw [if_pos (by rfl), decide_eq_true (key.mpr (Or.inr ⟨e1, Or.inl ⟨e4, by rw [h5]; decide⟩⟩))]; rfl
        | true =>
          rw [if_neg (by decide), decide_eq_false]
          · rfl
          · intro q
            rcases key.mp q with q | ⟨-, q | q⟩
            · omega
            · exact q.2 (by rw [h5]; rfl)
            · exact e4 q.1
  · rw [if_neg (fun q => e1 ((iv_inj (by omega) (by omega)).mp q))]
    by_cases e2 : V ax d ≤ z
    · rw [if_pos ((iv_le (by omega) (by omega)).mpr e2), decide_eq_false]
      · rfl
      · intro q
        rcases key.mp q with q | ⟨q, -⟩
        · omega
        · exact e1 q
    · rw [if_neg (fun q => e2 ((iv_le (by omega) (by omega)).mp q)), decide_eq_true (key.mpr (Or.inl (by omega)))]
      rfl
theorem P_end (σ τ : bx_St) (v1 v2 v3 : Int32) (h : bx_R σ τ) : ∃ u w, mX3_end v1 v2 v3 σ = some u ∧ mX4_end v1 v2 v3 τ = some w ∧ u = w ∧ bx_R σ τ := by
  have hh := h
  obtain ⟨⟨T, tc, V, F, u, M, ⟨x1, x2, x3, x4, x5, x6⟩, ⟨m1, m2, m3, m4⟩, ⟨i1, i2, i3, i4, i5⟩⟩, -, -⟩ := hh
  rcases axis_eq v1 with ⟨ax, ha, rfl, ex, em⟩ | ⟨ex, em⟩
  · obtain ⟨hu, hw, -, -⟩ := i3 ax ha
    by_cases h1 : v2 < 0
    · refine ⟨-10002, -10002, by rw [mX3_end, ex, if_neg one_ne0, if_pos h1], ?_, rfl, h⟩
      rw [mX4_end, em, Option.bind_some, if_neg one_ne0, within_no (Or.inl h1), if_pos rfl]
    obtain ⟨j, hj, rfl⟩ := nI_of h1
    by_cases h2 : j < u
    · obtain ⟨hf, hT⟩ := hw j h2
      have wj : mX4_within (nI j) 0 (nI u - 1) = 1 := by
        obtain ⟨u', rfl⟩ : ∃ u', u = u' + 1 := ⟨u - 1, by omega⟩
        rw [nI_pred]
        exact within_yes h1 (nI_nlt (by omega) (by omega))
      have ei : ((24 : Int32) * nI ax) + nI j = nI (24 * ax + j) := by
        show nI 24 * nI ax + nI j = _
        rw [pk_mul, nI_add]
      have pre3 : mX3_end (nI ax) (nI j) v3 σ = (if v3 = (0 : Int32) then some (nI (F ax j / 2)) else if v3 = (1 : Int32) then (if (bI (decide (F ax j % 2 = 1))) = 0 then some 0 else some 1) else if v3 = (2 : Int32) then some (iv (V ax (F ax j))) else some (-10003)) := by
        rw [mX3_end, ex, if_neg one_ne0, if_neg h1, lineOf_eq ax ha, (x4 ax ha).1, if_pos (nI_lt h2 (by omega)), if_pos (ok_nI (by omega) (by decide)), cl_nI (by omega), (x4 ax ha).2 j (by omega), x_boxOf (by omega), x_isHigh (by omega), x_valueOf x3 hf ha]
        rfl
      have preE : ∀ w : Int32, mX4_endNow (nI ax) (nI j) w τ = (if w = 0 then some (nI (F ax j / 2)) else if w = (1 : Int32) then some (nI (F ax j % 2)) else some (iv (V ax (F ax j)))) := by
        intro w
        rw [mX4_endNow, ei, if_pos (ok_nI (by omega) (by decide)), cl_nI (by omega), m3.2 ax ha j (by omega), m_div2 (by omega), m_rem2 (by omega), m_valueOf m2 hf ha]
        rfl
      rcases cases_n v3 2 (by decide) with h3 | ⟨k, hk, rfl⟩
      · have k0 : ¬ v3 = 0 := ne_out (j := 0) h3 (by decide) (by omega)
        have k1 : ¬ v3 = 1 := ne_out (j := 1) h3 (by decide) (by omega)
        have k2 : ¬ v3 = 2 := ne_out (j := 2) h3 (by decide) (by omega)
        refine ⟨-10003, -10003, by rw [pre3, if_neg k0, if_neg k1, if_neg k2], ?_, rfl, h⟩
        rw [mX4_end, em, Option.bind_some, if_neg one_ne0, m3.1, wj, if_neg one_ne0, within_no (v := v3) (lo := 0) (hi := 2) h3, if_pos rfl]
      · have wk : mX4_within (nI k) 0 2 = 1 := within_yes (nI_pos (by omega)) (g2 hk)
        have fin : ∀ r, mX3_end (nI ax) (nI j) (nI k) σ = some r → mX4_endNow (nI ax) (nI j) (nI k) τ = some r → ∃ u w, mX3_end (nI ax) (nI j) (nI k) σ = some u ∧ mX4_end (nI ax) (nI j) (nI k) τ = some w ∧ u = w ∧ bx_R σ τ := by
          intro r e1 e2
          refine ⟨r, r, e1, ?_, rfl, h⟩
          rw [mX4_end, em, Option.bind_some, if_neg one_ne0, m3.1, wj, if_neg one_ne0, wk, if_neg one_ne0, e2]
          rfl
        rcases (by omega : k = 0 ∨ k = 1 ∨ k = 2) with rfl | rfl | rfl
        · exact fin _ (by rw [pre3, if_pos (by rfl)]) (by rw [preE, if_pos (by rfl)])
        · refine fin (nI (F ax j % 2)) ?_ (by rw [preE, if_neg (by decide), if_pos (by rfl)])
          rw [pre3, if_neg (by decide), if_pos (by rfl)]
          rcases (by omega : F ax j % 2 = 0 ∨ F ax j % 2 = 1) with h5 | h5
          · rw [h5]; rfl
          · rw [h5]; rfl
        · exact fin _ (by rw [pre3, if_neg (by decide), if_neg (by decide), if_pos (by rfl)]) (by rw [preE, if_neg (by decide), if_neg (by decide)])
    · refine ⟨-10002, -10002, ?_, ?_, rfl, h⟩
      · rw [mX3_end, ex, if_neg one_ne0, if_neg h1, lineOf_eq ax ha, (x4 ax ha).1, if_neg (nI_nlt (by omega) (by omega))]
      · rw [mX4_end, em, Option.bind_some, if_neg one_ne0, m3.1, within_no, if_pos rfl]
        right
        cases u with
        | zero => rw [show nI 0 - 1 = (-1 : Int32) by decide, fa_lt, nI_toInt hj, show (-1 : Int32).toInt = -1 by decide]; omega
        | succ E' => rw [nI_pred]; exact nI_lt (by omega) hj
  · refine ⟨-10002, -10002, by rw [mX3_end, ex, if_pos rfl], ?_, rfl, h⟩
    rw [mX4_end, em, Option.bind_some, if_pos rfl]
