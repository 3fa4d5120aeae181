/-- class and reference in the midst of a change with swaps -/
def MR (σ τ : bx_St) (T : Nat → Bool) (tc : Bool) (V : Nat → Nat → Int) (F : Nat → Nat → Nat) (u : Nat) (P : Nat → Nat → Nat) (O : Nat → Nat → Bool) (t : Nat) : Prop :=
  (XB σ T tc ∧ XK σ tc ∧ XV σ V ∧ XF σ F u ∧ XM σ (mp T P) ∧ XO σ O) ∧ (MB τ T tc ∧ MV τ V ∧ MF τ F u ∧ MM τ (mp T P) ∧ (∀ a b, a < 12 → b < 12 → τ.1 9 (12 * a + b) = bI (O a b))) ∧ (VR V ∧ (∀ ax, ax < 3 → RWP T (F ax) u (P ax) ∧ OWN T (P ax)) ∧ fb_ct (pc (df O (mp T P))) 144 ≤ t) ∧ LG σ τ t ∧ RP σ τ
theorem ham_step {T : Nat → Bool} {F : Nat → Nat → Nat} {u : Nat} {P : Nat → Nat → Nat} (O : Nat → Nat → Bool) {ax p : Nat} (ha : ax < 3) (hr : RWP T (F ax) u (P ax)) (ho : OWN T (P ax)) (hp : p + 1 < u) (hb : F ax p / 2 ≠ F ax (p + 1) / 2) : fb_ct (pc (df O (mp T (setA P ax (swP (F ax) p (P ax)))))) 144 ≤ fb_ct (pc (df O (mp T P))) 144 + tq T P (F ax) ax p := by
  obtain ⟨X1, X2, X3⟩ := hr.2.1 p (by omega)
  obtain ⟨Y1, Y2, Y3⟩ := hr.2.1 (p + 1) hp
  have Mne : ∀ x a b, x ≠ ax → mp T (setA P ax (swP (F ax) p (P ax))) x a b = mp T P x a b := fun x a b q => by unfold mp; rw [setA_ne _ _ q]
  have Mat : ∀ a b, mp T (setA P ax (swP (F ax) p (P ax))) ax a b = mpa T (swP (F ax) p (P ax)) a b := fun a b => by unfold mp; rw [setA_eq]
  have Mall : ∀ a b, mpa T (swP (F ax) p (P ax)) a b = mpa T (P ax) a b → ∀ x, mp T (setA P ax (swP (F ax) p (P ax))) x a b = mp T P x a b := fun a b e x => by
    by_cases q : x = ax
    · subst q; rw [Mat, e]; rfl
    · exact Mne x a b q
  have ovs : ∀ a b, mpa T (swP (F ax) p (P ax)) a b = mpa T (P ax) a b → ov (mp T (setA P ax (swP (F ax) p (P ax)))) a b = ov (mp T P) a b := fun a b e => by unfold ov; rw [Mall a b e, Mall a b e, Mall a b e]
  unfold tq
  by_cases hk : F ax p % 2 = F ax (p + 1) % 2
  · have e : fb_ct (pc (df O (mp T (setA P ax (swP (F ax) p (P ax)))))) 144 = fb_ct (pc (df O (mp T P))) 144 := pc_cong (fun a b h1 h2 => by
      unfold df
      rw [ovs a b (mpa_same hr hp hk h1 h2)])
    rw [e]
    exact Nat.le_add_right _ _
  · rw [if_neg hk]
    obtain ⟨t1, t2⟩ := mpa_two hr ho hp hk hb
    have f0 : mp T (setA P ax (swP (F ax) p (P ax))) ax (F ax p / 2) (F ax (p + 1) / 2) = !mp T P ax (F ax p / 2) (F ax (p + 1) / 2) := by
      rw [Mat]
      unfold mp
      rw [t1, t2]
      rcases (by omega : F ax p % 2 = 0 ∨ F ax p % 2 = 1) with q | q
      · rw [q, show F ax (p + 1) % 2 = 1 by omega]; rfl
      · rw [q, show F ax (p + 1) % 2 = 0 by omega]; rfl
    have iff0 := ov_oth ha Mne f0
    have osym : ∀ (P : Nat → Nat → Nat) a b, ov (mp T P) a b = ov (mp T P) b a := fun P a b => by unfold ov mp; rw [mpa_sym T (P 0), mpa_sym T (P 1), mpa_sym T (P 2)]
    have els : ∀ a b, a < 12 → b < 12 → ¬ (a = F ax p / 2 ∧ b = F ax (p + 1) / 2) → ¬ (a = F ax (p + 1) / 2 ∧ b = F ax p / 2) → ov (mp T (setA P ax (swP (F ax) p (P ax)))) a b = ov (mp T P) a b := fun a b h1 h2 n1 n2 => ovs a b (mpa_else hr hp h1 h2 n1 (fun q => n2 ⟨q.2, q.1⟩))
    cases hq : oth (mp T P) ax (F ax p / 2) (F ax (p + 1) / 2) with
    | false =>
      have e : fb_ct (pc (df O (mp T (setA P ax (swP (F ax) p (P ax)))))) 144 = fb_ct (pc (df O (mp T P))) 144 := pc_cong (fun a b h1 h2 => by
        unfold df
        by_cases w1 : a = F ax p / 2 ∧ b = F ax (p + 1) / 2
        · rw [w1.1, w1.2, iff0.mpr hq]
        · by_cases w2 : a = F ax (p + 1) / 2 ∧ b = F ax p / 2
          · rw [w2.1, w2.2, osym _ (F ax (p + 1) / 2), osym P (F ax (p + 1) / 2), iff0.mpr hq]
          · rw [els a b h1 h2 w1 w2])
      rw [e]
      exact Nat.le_add_right _ _
    | true =>
      rw [if_pos rfl]
      refine pc_step (A := F ax p / 2) (B := F ax (p + 1) / 2) (by omega) (by omega) hb (fun a b h1 h2 n1 n2 => ?_)
      unfold df
      rw [els a b h1 h2 n1 n2]
theorem MR_step {σ τ τ2 : bx_St} {T : Nat → Bool} {tc : Bool} {V : Nat → Nat → Int} {F : Nat → Nat → Nat} {u : Nat} {P : Nat → Nat → Nat} {O : Nat → Nat → Bool} {t ax p c d : Nat} (h : MR σ τ T tc V F u P O t) (ha : ax < 3) (hp : p + 1 < u) (hb : F ax p / 2 ≠ F ax (p + 1) / 2) (hcd : (c = F ax p ∧ d = F ax (p + 1)) ∨ (c = F ax (p + 1) ∧ d = F ax p)) (r1 : ∀ q, q < 24 → τ2.1 3 (24 * ax + q) = nI (swF (F ax) p q)) (r2 : ∀ k i, (k = 3 → i < 24 * ax ∨ 24 * ax + 24 ≤ i) → τ2.1 k i = τ.1 k i) : ∃ σ' τ', (∀ (K24 : Int32 → Int32 → Nat → Int32 → Int32 → Int32 → bx_St → Option bx_St) (v4 v5 v6 : Int32), mX3_putRight_63 K24 (nI ax) (nI c) (8 + 5 * ax) v4 v5 v6 (nI d) (nI p) (8 + 5 * ax) σ = mX3_putRight_100 K24 (nI ax) (nI c) (8 + 5 * ax) v4 v5 v6 σ') ∧ mX4_swapped (nI (F ax (p + 1))) (nI (F ax p)) (nI ax) τ2 = some τ' ∧ MR σ' τ' T tc V (setA F ax (swF (F ax) p)) u (setA P ax (swP (F ax) p (P ax))) O (t + tq T P (F ax) ax p) := by
  obtain ⟨⟨x1, x2, x3, x4, x5, x6⟩, ⟨m1, m2, m3, m4, m5⟩, ⟨i1, i2, i3⟩, hL, hP⟩ := h
  obtain ⟨hr, ho⟩ := i2 ax ha
  obtain ⟨l1, l2, l3, l4, l5, l6, l7, l8, l9, l10⟩ := hL
  obtain ⟨σ', a1, a2, a3, a4, a5, a6⟩ := x_step ha x1 x4 x5 l3 hr ho hp hb hcd
  have m4' : MM τ2 (mp T P) := fun a h b h2 => by rw [r2 _ _ (fun q => by omega)]; exact m4 a h b h2
  obtain ⟨τ', b1, b2, b3, b4, b5⟩ := m_step (F := F) ha m4' (by rw [r2 _ _ (fun q => by omega)]; exact l4) hr ho hp hb
  have s5 : ∀ i, i ≠ 10 → σ'.1 5 i = σ.1 5 i := fun i q => a6 _ _ (by omega) (by omega) (fun _ => q) (fun w => by omega)
  have t0 : ∀ i, i ≠ 24 → τ'.1 0 i = τ.1 0 i := fun i q => by rw [b5 _ _ (by omega) (fun _ => q) (fun w => by omega), r2 _ _ (fun w => by omega)]
  have sk : ∀ k i, k ≠ 8 + 5 * ax + 3 → k ≠ 8 + 5 * ax + 4 → k ≠ 5 → k ≠ 7 → σ'.1 k i = σ.1 k i := fun k i q1 q2 q3 q4 => a6 k i q1 q2 (fun w => absurd w q3) (fun w => absurd w q4)
  have tk : ∀ k i, k ≠ 0 → k ≠ 3 → k ≠ 4 → k ≠ 7 → τ'.1 k i = τ.1 k i := fun k i q1 q2 q3 q4 => by rw [b5 _ _ q3 (fun w => absurd w q1) (fun w => absurd w q4), r2 _ _ (fun w => absurd w q2)]
  refine ⟨σ', τ', a1, b1, ⟨?_, ?_, ?_, a2, a3, ?_⟩, ⟨?_, ?_, ?_, b2, ?_⟩, ⟨i1, ?_, ?_⟩, ⟨?_, ?_, a4, b3, ?_, ?_, ?_, ?_, ?_, ?_⟩, ?_⟩
  · exact ⟨by rw [sk _ _ (by omega) (by omega) (by omega) (by omega)]; exact x1.1, by rw [sk _ _ (by omega) (by omega) (by omega) (by omega)]; exact x1.2⟩
  · intro a h; rw [sk _ _ (by omega) (by omega) (by omega) (by omega)]; exact x2 a h
  · exact x3.same (fun a h i => ⟨sk _ _ (by omega) (by omega) (by omega) (by omega), sk _ _ (by omega) (by omega) (by omega) (by omega)⟩)
  · intro a h; rw [sk _ _ (by omega) (by omega) (by omega) (by omega)]; exact x6 a h
  · exact ⟨by rw [t0 _ (by omega)]; exact m1.1, by rw [t0 _ (by omega)]; exact m1.2⟩
  · intro a h b hb j hj; rw [tk _ _ (by omega) (by omega) (by omega) (by omega)]; exact m2 a h b hb j hj
  · refine ⟨by rw [t0 _ (by omega)]; exact m3.1, fun a h q hq => ?_⟩
    rw [b5 _ _ (by omega) (fun w => by omega) (fun w => by omega)]
    by_cases w : a = ax
    · subst w; rw [setA_eq]; exact r1 q hq
    · rw [setA_ne _ _ w, r2 _ _ (fun _ => by omega)]; exact m3.2 a h q hq
  · intro a b h1 h2; rw [tk _ _ (by omega) (by omega) (by omega) (by omega)]; exact m5 a b h1 h2
  · intro a h
    by_cases w : a = ax
    · subst w; rw [setA_eq, setA_eq]; exact ⟨swap_RWP hr hp, swap_OWN hr ho hp hb⟩
    · rw [setA_ne _ _ w, setA_ne _ _ w]; exact i2 a h
  · have := ham_step O ha hr ho hp hb
    omega
  · rw [s5 _ (by omega)]; exact l1
  · rw [s5 _ (by omega)]; exact l2
  · rw [s5 _ (by omega), t0 _ (by omega)]; exact l5
  · rw [s5 _ (by omega), t0 _ (by omega)]; exact l6
  · rw [s5 _ (by omega), t0 _ (by omega)]; exact l7
  · rw [s5 _ (by omega), t0 _ (by omega)]; exact l8
  · rw [s5 _ (by omega), t0 _ (by omega)]; exact l9
  · intro i hi
    by_cases w : i = ax
    · subst w; rw [a5, b4, r2 _ _ (fun w => by omega), l10 i hi]
    · rw [a6 _ _ (by omega) (by omega) (fun w => by omega) (fun _ => w), b5 _ _ (by omega) (fun w => by omega) (fun _ => w), r2 _ _ (fun w => by omega)]; exact l10 i hi
  · exact hP.keep (sk _ _ (by omega) (by omega) (by omega) (by omega)) (fun i => sk _ _ (by omega) (by omega) (by omega) (by omega)) (t0 _ (by omega)) (fun i => tk _ _ (by omega) (by omega) (by omega) (by omega))
theorem tq_le (T : Nat → Bool) (P : Nat → Nat → Nat) (f : Nat → Nat) (ax p : Nat) : tq T P f ax p ≤ 1 := by
  unfold tq
  split
  · omega
  · split <;> omega
/-! which side to go -/
theorem x_side {σ : bx_St} {T : Nat → Bool} {tc : Bool} {V : Nat → Nat → Int} {F : Nat → Nat → Nat} {u ax p : Nat} {Q : Nat → Nat} (ha : ax < 3) (x2 : XK σ tc) (x3 : XV σ V) (x4 : XF σ F u) (i1 : VR V) (hr : RWP T (F ax) u Q) (hp : p < u) : mX1_sideToGo (8 + 5 * ax) (nI p) σ = some (if p + 1 < u ∧ ky tc V ax (F ax (p + 1)) < ky tc V ax (F ax p) then 1 else if 0 < p ∧ ky tc V ax (F ax p) < ky tc V ax (F ax (p - 1)) then -1 else 0) := by
  have h24 := hr.1
  have fp := (hr.2.1 p hp).1
  have s33 : mX1_sideToGo_33 (8 + 5 * ax) (nI p) σ = some (if 0 < p ∧ ky tc V ax (F ax p) < ky tc V ax (F ax (p - 1)) then -1 else 0) := by
    rw [mX1_sideToGo_33]
    by_cases q : p = 0
    · rw [if_pos (by rw [q]; decide), if_neg (by omega)]
    · obtain ⟨r, rfl⟩ : ∃ r, p = r + 1 := ⟨p - 1, by omega⟩
      have fr := (hr.2.1 r (by omega)).1
      rw [if_neg (by rw [le0_iff (by omega)]; omega), if_pos (ok_nI (by omega) (by decide)), nI_pred, if_pos (ok_nI (by omega) (by decide)), cl_nI (by omega), cl_nI (by omega), (x4 ax ha).2 _ (by omega), (x4 ax ha).2 _ (by omega), x_isAhead x3 x2 i1 fp fr ha, Option.bind_some, show r + 1 - 1 = r by omega]
      by_cases w : ky tc V ax (F ax (r + 1)) < ky tc V ax (F ax r)
      · rw [decide_eq_true w, if_neg (by decide), if_pos ⟨by omega, w⟩]
      · rw [decide_eq_false w, if_pos (by rfl), if_neg (fun g => w g.2)]
  rw [mX1_sideToGo, (x4 ax ha).1, nI_1, s33]
  by_cases q : p + 1 < u
  · have fq := (hr.2.1 (p + 1) q).1
    rw [if_neg (nI_ge q (by omega)), if_pos (ok_nI (by omega) (by decide)), if_pos (ok_nI (by omega) (by decide)), cl_nI (by omega), cl_nI (by omega), (x4 ax ha).2 _ (by omega), (x4 ax ha).2 _ (by omega), x_isAhead x3 x2 i1 fq fp ha, Option.bind_some]
    by_cases w : ky tc V ax (F ax (p + 1)) < ky tc V ax (F ax p)
    · rw [decide_eq_true w, if_neg (by decide), if_pos ⟨q, w⟩]
    · have w2 : ¬ (p + 1 < u ∧ ky tc V ax (F ax (p + 1)) < ky tc V ax (F ax p)) := fun g => w g.2
      rw [decide_eq_false w, if_pos (by rfl), if_neg w2]
  · have w2 : ¬ (p + 1 < u ∧ ky tc V ax (F ax (p + 1)) < ky tc V ax (F ax p)) := fun g => q g.1
    rw [if_pos (nI_le (by omega) (by omega)), if_neg w2]
