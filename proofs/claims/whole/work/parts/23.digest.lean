theorem bx_R.h {σ τ : bx_St} (h : bx_R σ τ) (w : Int64) : bx_R σ (τ.1, w) := h
theorem mix_eq (w : Int64) (τ : bx_St) : mX4_mix w τ = (τ.1, mX3_with τ.2 w) := rfl
theorem dg_count {σ : bx_St} : ∀ (k n i : Nat) (τ : bx_St), i + k = 10 → k < n → bx_R σ τ → ∃ u τ', mX3_digest_125 n τ.2 (nI i) σ = some u ∧ mX4_digest_229 n (nI i) τ = some (u, τ') ∧ bx_R σ τ' := by
  intro k
  induction k with
  | zero =>
    intro n i τ hi hn hR
    obtain ⟨n, rfl⟩ : ∃ m, n = m + 1 := ⟨n - 1, by omega⟩
    have : i = 10 := by omega
    subst this
    exact ⟨τ.2, τ, by rw [mX3_digest_125, if_pos (by decide)], by rw [mX4_digest_229, if_pos (by decide)], hR⟩
  | succ k ih =>
    intro n i τ hi hn hR
    obtain ⟨n, rfl⟩ : ∃ m, n = m + 1 := ⟨n - 1, by omega⟩
    obtain ⟨u, τ', e1, e2, hk⟩ := howMany_eq hR i (by omega)
    rw [mX3_digest_125, mX4_digest_229, if_neg (g9 (by omega)), if_neg (n10 (by omega)), e1, e2, Option.bind_some, Option.bind_some, mix_eq, nI_1, ← hk.2]
    exact ih n (i + 1) (τ'.1, mX3_with τ'.2 u.toInt64) (by omega) (by omega) ((hR.pk hk).h _)
theorem dg_page {σ : bx_St} {m : Nat} (hm : m ≤ 60) : ∀ (k n i : Nat) (τ : bx_St), i + k = m → k < n → bx_R σ τ → σ.1 2 1 = nI m → τ.1 0 0 = nI m → (∀ i, σ.1 3 i = τ.1 1 i) → ∃ u τ', mX3_digest_91 n τ.2 (nI i) σ = some u ∧ mX4_digest_202 n (nI i) τ = some (u, τ') ∧ bx_R σ τ' := by
  intro k
  induction k with
  | zero =>
    intro n i τ hi hn hR h1 h2 h3
    obtain ⟨n, rfl⟩ : ∃ m, n = m + 1 := ⟨n - 1, by omega⟩
    have : i = m := by omega
    subst this
    rw [mX3_digest_91, mX4_digest_202, h1, h2, if_pos (nI_le (Nat.le_refl _) (by omega)), if_pos (nI_le (Nat.le_refl _) (by omega))]
    exact dg_count 10 5000 0 τ rfl (by omega) hR
  | succ k ih =>
    intro n i τ hi hn hR h1 h2 h3
    obtain ⟨n, rfl⟩ : ∃ m, n = m + 1 := ⟨n - 1, by omega⟩
    rw [mX3_digest_91, mX4_digest_202, h1, h2, if_neg (nI_ge (by omega) (by omega)), if_neg (nI_ge (by omega) (by omega)), if_pos (ok_nI (by omega) (by decide)), if_pos (ok_nI (by omega) (by decide)), cl_nI (by omega), h3 i, mix_eq, nI_1]
    exact ih n (i + 1) (τ.1, mX3_with τ.2 (τ.1 1 i).toInt64) (by omega) (by omega) (hR.h _) h1 h2 h3
theorem dg_heap {σ : bx_St} : ∀ (k n i : Nat) (τ : bx_St), i + k = 4 → k < n → bx_R σ τ → ∃ u τ', mX3_digest_67 n τ.2 (nI i) σ = some u ∧ mX4_digest_179 n (nI i) τ = some (u, τ') ∧ bx_R σ τ' := by
  intro k
  induction k with
  | zero =>
    intro n i τ hi hn hR
    obtain ⟨n, rfl⟩ : ∃ m, n = m + 1 := ⟨n - 1, by omega⟩
    have : i = 4 := by omega
    subst this
    obtain ⟨⟨m, hm, h1, h2⟩, h3⟩ := hR.2.2
    rw [mX3_digest_67, mX4_digest_179, if_pos (by decide), if_pos (by decide)]
    exact dg_page hm.1 m 5000 0 τ (by omega) (by omega) hR h1 h2 h3
  | succ k ih =>
    intro n i τ hi hn hR
    obtain ⟨n, rfl⟩ : ∃ m, n = m + 1 := ⟨n - 1, by omega⟩
    obtain ⟨u, e1, e2⟩ := heapNow_eq hR i (by omega)
    rw [mX3_digest_67, mX4_digest_179, if_neg (g3 (by omega)), if_neg (n4 (by omega)), e1, e2, Option.bind_some, Option.bind_some, mix_eq, nI_1]
    exact ih n (i + 1) (τ.1, mX3_with τ.2 u.toInt64) (by omega) (by omega) (hR.h _)
theorem dg_latest {σ : bx_St} : ∀ (k n i : Nat) (τ : bx_St), i + k = 7 → k < n → bx_R σ τ → ∃ w, mX3_withLatest_56 n τ.2 (nI i) σ = some w ∧ mX4_digest_155 n (nI i) τ = mX4_digest_179 5000 0 (τ.1, w) := by
  intro k
  induction k with
  | zero =>
    intro n i τ hi hn hR
    obtain ⟨n, rfl⟩ : ∃ m, n = m + 1 := ⟨n - 1, by omega⟩
    have : i = 7 := by omega
    subst this
    exact ⟨τ.2, by rw [mX3_withLatest_56, if_pos (by decide)], by rw [mX4_digest_155, if_pos (by decide)]⟩
  | succ k ih =>
    intro n i τ hi hn hR
    obtain ⟨n, rfl⟩ : ∃ m, n = m + 1 := ⟨n - 1, by omega⟩
    obtain ⟨u, e1, e2⟩ := latestNow_eq hR.2.1 i (by omega)
    rw [mX3_withLatest_56, mX4_digest_155, if_neg (g6 (by omega)), if_neg (n7 (by omega)), e1, e2, Option.bind_some, Option.bind_some, mix_eq, nI_1]
    exact ih n (i + 1) (τ.1, mX3_with τ.2 u.toInt64) (by omega) (by omega) (hR.h _)
theorem dg_events {σ : bx_St} {E : Nat} (hE : E ≤ 66) : ∀ (k n i : Nat) (τ : bx_St), i + k = E → k < n → bx_R σ τ → τ.1 0 8 = nI E → (∀ j, j < E → (∃ u, mX3_event (nI j) 0 σ = some u ∧ τ.1 5 j = u) ∧ (∃ u, mX3_event (nI j) 1 σ = some u ∧ τ.1 6 j = u)) → ∃ w, mX3_withLatest_14 n τ.2 (nI E) (nI i) σ = some w ∧ mX4_digest_117 n (nI i) τ = mX4_digest_179 5000 0 (τ.1, w) := by
  intro k
  induction k with
  | zero =>
    intro n i τ hi hn hR h8 hev
    obtain ⟨n, rfl⟩ : ∃ m, n = m + 1 := ⟨n - 1, by omega⟩
    have : i = E := by omega
    subst this
    rw [mX3_withLatest_14, mX4_digest_117, h8, if_pos (nI_le (Nat.le_refl _) (by omega)), if_pos (nI_le (Nat.le_refl _) (by omega))]
    exact dg_latest 7 5000 0 τ rfl (by omega) hR
  | succ k ih =>
    intro n i τ hi hn hR h8 hev
    obtain ⟨n, rfl⟩ : ∃ m, n = m + 1 := ⟨n - 1, by omega⟩
    obtain ⟨⟨u0, a0, b0⟩, ⟨u1, a1, b1⟩⟩ := hev i (by omega)
    have ok : bx_ok (nI i) 66 := ok_nI (by omega) (by decide)
    have cl : (nI i).toNatClampNeg = i := cl_nI (by omega)
    rw [mX3_withLatest_14, mX4_digest_117, h8, if_neg (nI_ge (by omega) (by omega)), if_neg (nI_ge (by omega) (by omega)), a0, a1, Option.bind_some, Option.bind_some, if_pos ok, if_pos ok, cl, nI_1]
    simp only [mix_eq, b0, b1]
    exact ih n (i + 1) (τ.1, mX3_with (mX3_with τ.2 u0.toInt64) u1.toInt64) (by omega) (by omega) (hR.h _) h8 hev
/-- the pairs' codes mixed in, up to a code -/
def hf (O : Nat → Nat → Bool) (w : Int64) : Nat → Int64
  | 0 => w
  | c + 1 => if pc O c then mX3_with (hf O w c) (nI c).toInt64 else hf O w c
theorem hf_row (O : Nat → Nat → Bool) (w : Int64) (a : Nat) : ∀ k, k ≤ a + 1 → k ≤ 12 → hf O w (12 * a + k) = hf O w (12 * a) := by
  intro k
  induction k with
  | zero => intro _ _; rfl
  | succ k ih =>
    intro h h2
    rw [show 12 * a + (k + 1) = (12 * a + k) + 1 by omega, hf, pc_ab O (by omega), decide_eq_false (by omega : ¬ a < k), ih (by omega) (by omega)]
    rfl
theorem x_wp_in {σ : bx_St} {O : Nat → Nat → Bool} (h : XO σ O) (w : Int64) {a : Nat} (ha : a < 12) (K : Int64 → Int32 → bx_St → Option Int64) : ∀ (k n b : Nat), b + k = 12 → a < b → k < n → mX3_withPairs_18 K n (hf O w (12 * a + b)) (nI a) (nI b) σ = K (hf O w (12 * a + 12)) (nI (a + 1)) σ := by
  intro k
  induction k with
  | zero =>
    intro n b hb hab hn
    obtain ⟨n, rfl⟩ : ∃ m, n = m + 1 := ⟨n - 1, by omega⟩
    have : b = 12 := by omega
    subst this
    rw [mX3_withPairs_18, if_pos (by decide), nI_1]
  | succ k ih =>
    intro n b hb hab hn
    obtain ⟨n, rfl⟩ : ∃ m, n = m + 1 := ⟨n - 1, by omega⟩
    rw [mX3_withPairs_18, if_neg (n12 (by omega)), if_pos (ok_nI ha (by decide)), cl_nI (by omega), h a ha, hold_bm _ (by omega : b < 12)]
    have hs : hf O w (12 * a + (b + 1)) = if O a b then mX3_with (hf O w (12 * a + b)) (nI (12 * a + b)).toInt64 else hf O w (12 * a + b) := by
      rw [show 12 * a + (b + 1) = (12 * a + b) + 1 by omega, hf, pc_ab O (by omega), decide_eq_true hab, Bool.true_and]
    rw [← ih n (b + 1) (by omega) (by omega) (by omega), hs]
    cases e : O a b with
    | false => rw [if_pos (by rfl), mX3_withPairs_53, nI_1]; rfl
    | true => rw [if_neg (by decide), mX3_withPairs_53, nI_1, mX3_pairCode, m_ix12]; rfl
theorem x_wp_out {σ : bx_St} {O : Nat → Nat → Bool} (h : XO σ O) (w : Int64) : ∀ (k n a : Nat), a + k = 12 → k < n → mX3_withPairs_5 n (hf O w (12 * a)) (nI a) σ = some (hf O w 144) := by
  intro k
  induction k with
  | zero =>
    intro n a ha hn
    obtain ⟨n, rfl⟩ : ∃ m, n = m + 1 := ⟨n - 1, by omega⟩
    have : a = 12 := by omega
    subst this
    rw [mX3_withPairs_5, if_pos (by decide)]
  | succ k ih =>
    intro n a ha hn
    obtain ⟨n, rfl⟩ : ∃ m, n = m + 1 := ⟨n - 1, by omega⟩
    rw [mX3_withPairs_5, if_neg (n12 (by omega)), nI_1, ← hf_row O w a (a + 1) (by omega) (by omega), show bx_F = 5000 from rfl, x_wp_in h w (by omega) (mX3_withPairs_5 n) (11 - a) 5000 (a + 1) (by omega) (by omega) (by omega)]
    exact ih n (a + 1) (by omega) (by omega)
theorem m_dp {τ : bx_St} {O : Nat → Nat → Bool} (w : Int64) (hj : PJ O τ 144) : ∀ (k n c : Nat), c + k = 144 → k < n → mX4_digest_90 n (nI (fb_ct (pc O) c)) (τ.1, hf O w c) = mX4_digest_117 5000 0 (τ.1, hf O w 144) := by
  have l1 := pc_66 O
  intro k
  induction k with
  | zero =>
    intro n c hc hn
    obtain ⟨n, rfl⟩ : ∃ m, n = m + 1 := ⟨n - 1, by omega⟩
    have : c = 144 := by omega
    subst this
    rw [mX4_digest_90, show (τ.1, hf O w 144).1 0 25 = _ from hj.1, if_pos (nI_le (Nat.le_refl _) (by omega))]
  | succ k ih =>
    intro n c hc hn
    cases e : pc O c with
    | false =>
      have e1 : fb_ct (pc O) c = fb_ct (pc O) (c + 1) := by rw [fb_ct_succ, e]; rfl
      have e2 : hf O w c = hf O w (c + 1) := by rw [hf, e]; rfl
      rw [e1, e2]
      exact ih n (c + 1) (by omega) (by omega)
    | true =>
      obtain ⟨n, rfl⟩ : ∃ m, n = m + 1 := ⟨n - 1, by omega⟩
      have e1 : fb_ct (pc O) (c + 1) = fb_ct (pc O) c + 1 := by rw [fb_ct_succ, e]; rfl
      have e2 : hf O w (c + 1) = mX3_with (hf O w c) (nI c).toInt64 := by rw [hf, e]; rfl
      have hm := fb_ct_mono (pc O) (by omega : c + 1 ≤ 144)
      rw [mX4_digest_90, show (τ.1, hf O w c).1 0 25 = _ from hj.1, if_neg (nI_ge (by omega) (by omega)), if_pos (ok_nI (by omega) (by decide)), cl_nI (by omega), show (τ.1, hf O w c).1 10 _ = _ from hj.2 c (by omega) e, mix_eq, nI_1, ← e1]
      show mX4_digest_90 n _ (τ.1, mX3_with (hf O w c) (nI c).toInt64) = _
      rw [← e2]
      exact ih n (c + 1) (by omega) (by omega)
theorem end_eq {σ τ : bx_St} {T : Nat → Bool} {V : Nat → Nat → Int} {F : Nat → Nat → Nat} {u : Nat} (x3 : XV σ V) (x4 : XF σ F u) (m2 : MV τ V) (m3 : MF τ F u) {ax : Nat} (ha : ax < 3) (hw : RW T (F ax) u) {p : Nat} (hp : p < u) : ∀ j, j < 3 → ∃ r, mX3_end (nI ax) (nI p) (nI j) σ = some r ∧ mX4_endNow (nI ax) (nI p) (nI j) τ = some r := by
  obtain ⟨hu, hf, -, -⟩ := hw
  obtain ⟨hF, hT⟩ := hf p hp
  have ex : mX3_isAxis (nI ax) = 1 := by rw [mX3_isAxis, if_neg (nI_pos (by omega)), if_neg (n3 ha)]
  have ei : ((24 : Int32) * nI ax) + nI p = nI (24 * ax + p) := by
    show nI 24 * nI ax + nI p = _
    rw [pk_mul, nI_add]
  have h1 : ¬ nI p < 0 := nI_pos (by omega)
  have pre3 : ∀ v3 : Int32, mX3_end (nI ax) (nI p) v3 σ = (if v3 = (0 : Int32) then some (nI (F ax p / 2)) else if v3 = (1 : Int32) then (if (bI (decide (F ax p % 2 = 1))) = 0 then some 0 else some 1) else if v3 = (2 : Int32) then some (iv (V ax (F ax p))) else some (-10003)) := by
    intro v3
    rw [mX3_end, ex, if_neg one_ne0, if_neg h1, lineOf_eq ax ha, (x4 ax ha).1, if_pos (nI_lt hp (by omega)), if_pos (ok_nI (by omega) (by decide)), cl_nI (by omega), (x4 ax ha).2 p (by omega), x_boxOf (by omega), x_isHigh (by omega), x_valueOf x3 hF ha]
    rfl
  have preE : ∀ w : Int32, mX4_endNow (nI ax) (nI p) w τ = (if w = 0 then some (nI (F ax p / 2)) else if w = (1 : Int32) then some (nI (F ax p % 2)) else some (iv (V ax (F ax p)))) := by
    intro w
    rw [mX4_endNow, ei, if_pos (ok_nI (by omega) (by decide)), cl_nI (by omega), m3.2 ax ha p (by omega), m_div2 (by omega), m_rem2 (by omega), m_valueOf m2 hF ha]
    rfl
  intro j hj
  rcases (by omega : j = 0 ∨ j = 1 ∨ j = 2) with rfl | rfl | rfl
  · exact ⟨_, by rw [pre3, if_pos (by rfl)], by rw [preE, if_pos (by rfl)]⟩
  · refine ⟨nI (F ax p % 2), ?_, by rw [preE, if_neg (by decide), if_pos (by rfl)]⟩
    rw [pre3, if_neg (by decide), if_pos (by rfl)]
    rcases (by omega : F ax p % 2 = 0 ∨ F ax p % 2 = 1) with h5 | h5
    · rw [h5]; rfl
    · rw [h5]; rfl
  · exact ⟨_, by rw [pre3, if_neg (by decide), if_neg (by decide), if_pos (by rfl)], by rw [preE, if_neg (by decide), if_neg (by decide)]⟩
theorem m_e3 {k : Nat} (hk : k < 1000) : nI k / (3 : Int32) = nI (k / 3) ∧ bx_rem (nI k) (3 : Int32) = nI (k % 3) := ⟨pk_div (d := 3) (by omega) (by omega) (by decide), pk_rem (d := 3) (by omega) (by omega) (by decide)⟩
theorem dg_ends {σ : bx_St} {T : Nat → Bool} {V : Nat → Nat → Int} {F : Nat → Nat → Nat} {u : Nat} (x3 : XV σ V) (x4 : XF σ F u) {ax : Nat} (ha : ax < 3) (hw : RW T (F ax) u) (K : Int32 → bx_St → Option (Int64 × bx_St)) : ∀ (k n n2 p : Nat) (τ : bx_St), p + k = u → k < n → 3 * k < n2 → MV τ V → MF τ F u → ∃ w, mX3_withEnds_16 n (nI ax) τ.2 (nI u) (nI p) σ = some w ∧ mX4_digest_46 K n2 (nI ax) (nI (3 * p)) τ = K (nI (ax + 1)) (τ.1, w) := by
  have hu := hw.1
  have e3u : ∀ τ : bx_St, MF τ F u → (3 : Int32) * τ.1 0 5 = nI (3 * u) := fun τ h => by
    rw [h.1]
    exact pk_mul 3 u
  intro k
  induction k with
  | zero =>
    intro n n2 p τ hp hn hn2 m2 m3
    obtain ⟨n, rfl⟩ : ∃ m, n = m + 1 := ⟨n - 1, by omega⟩
    obtain ⟨n2, rfl⟩ : ∃ m, n2 = m + 1 := ⟨n2 - 1, by omega⟩
    have : p = u := by omega
    subst this
    refine ⟨τ.2, by rw [mX3_withEnds_16, if_pos (nI_le (Nat.le_refl _) (by omega))], ?_⟩
    rw [mX4_digest_46, e3u τ m3, if_pos (nI_le (Nat.le_refl _) (by omega)), nI_1]
  | succ k ih =>
    intro n n2 p τ hp hn hn2 m2 m3
    obtain ⟨n, rfl⟩ : ∃ m, n = m + 1 := ⟨n - 1, by omega⟩
    obtain ⟨n2, rfl⟩ : ∃ m, n2 = m + 1 + 1 + 1 := ⟨n2 - 3, by omega⟩
    obtain ⟨r0, a0, b0⟩ := end_eq x3 x4 m2 m3 ha hw (p := p) (by omega) 0 (by omega)
    obtain ⟨r1, a1, b1⟩ := end_eq x3 x4 m2 m3 ha hw (p := p) (by omega) 1 (by omega)
    obtain ⟨r2, a2, b2⟩ := end_eq x3 x4 m2 m3 ha hw (p := p) (by omega) 2 (by omega)
    have rd : ∀ (w : Int64) (j : Nat), mX4_endNow (nI ax) (nI p) (nI j) (τ.1, w) = mX4_endNow (nI ax) (nI p) (nI j) τ := fun _ _ => rfl
    have q0 := m_e3 (k := 3 * p) (by omega)
    have q1 := m_e3 (k := 3 * p + 1) (by omega)
    have q2 := m_e3 (k := 3 * p + 1 + 1) (by omega)
    rw [show 3 * p / 3 = p by omega, show 3 * p % 3 = 0 by omega] at q0
    rw [show (3 * p + 1) / 3 = p by omega, show (3 * p + 1) % 3 = 1 by omega] at q1
    rw [show (3 * p + 1 + 1) / 3 = p by omega, show (3 * p + 1 + 1) % 3 = 2 by omega] at q2
    have s0 : mX4_digest_46 K (n2 + 1 + 1 + 1) (nI ax) (nI (3 * p)) τ = mX4_digest_46 K n2 (nI ax) (nI (3 * (p + 1))) (τ.1, mX3_with (mX3_with (mX3_with τ.2 r0.toInt64) r1.toInt64) r2.toInt64) := by
      rw [mX4_digest_46, e3u τ m3, if_neg (nI_ge (by omega) (by omega)), q0.1, q0.2, b0, Option.bind_some, mix_eq, nI_1]
      rw [mX4_digest_46, e3u (τ.1, _) m3, if_neg (nI_ge (by omega) (by omega)), q1.1, q1.2, rd, b1, Option.bind_some, mix_eq, nI_1]
      rw [mX4_digest_46, e3u (τ.1, _) m3, if_neg (nI_ge (by omega) (by omega)), q2.1, q2.2, rd, b2, Option.bind_some, mix_eq, nI_1, show 3 * p + 1 + 1 + 1 = 3 * (p + 1) by omega]
    have s1 : mX3_withEnds_16 (n + 1) (nI ax) τ.2 (nI u) (nI p) σ = mX3_withEnds_16 n (nI ax) (mX3_with (mX3_with (mX3_with τ.2 r0.toInt64) r1.toInt64) r2.toInt64) (nI u) (nI (p + 1)) σ := by
      rw [mX3_withEnds_16, if_neg (nI_ge (by omega) (by omega)), show bx_F = 4996 + 1 + 1 + 1 + 1 from rfl]
      have c0 : ¬ (2 : Int32) < 0 := by decide
      have c1 : ¬ (2 : Int32) < 0 + 1 := by decide
      have c2 : ¬ (2 : Int32) < 0 + 1 + 1 := by decide
      have c3 : (2 : Int32) < 0 + 1 + 1 + 1 := by decide
      rw [mX3_withEnds_26, if_neg c0, show mX3_end (nI ax) (nI p) 0 σ = _ from a0, Option.bind_some]
      rw [mX3_withEnds_26, if_neg c1, show mX3_end (nI ax) (nI p) (0 + 1) σ = _ from a1, Option.bind_some]
      rw [mX3_withEnds_26, if_neg c2, show mX3_end (nI ax) (nI p) (0 + 1 + 1) σ = _ from a2, Option.bind_some]
      rw [mX3_withEnds_26, if_pos c3, nI_1]
    rw [s0, s1]
    exact ih n n2 (p + 1) (τ.1, _) (by omega) (by omega) (by omega) m2 m3
theorem dg_axes {σ : bx_St} {T : Nat → Bool} {tc : Bool} {V : Nat → Nat → Int} {F : Nat → Nat → Nat} {u : Nat} {M : Nat → Nat → Nat → Bool} : ∀ (k n ax : Nat) (τ : bx_St), ax + k = 3 → k < n → bx_R σ τ → RA σ τ T tc V F u M → ∃ r τ', mX3_digest_35 n τ.2 (nI ax) σ = some r ∧ mX4_digest_39 n (nI ax) τ = some (r, τ') ∧ bx_R σ τ' := by
  intro k
  induction k with
  | zero =>
    intro n ax τ hx hn hR hA
    obtain ⟨n, rfl⟩ : ∃ m, n = m + 1 := ⟨n - 1, by omega⟩
    have : ax = 3 := by omega
    subst this
    obtain ⟨⟨x1, x2, x3, x4, x5, x6⟩, ⟨m1, m2, m3, m4⟩, ⟨i1, i2, i3, i4, i5⟩⟩ := hA
    obtain ⟨τ', hk, hj, e⟩ := m_layPairs m4
    rw [mX3_digest_35, mX4_digest_39, if_pos (by decide), if_pos (by decide), e, Option.bind_some]
    have e1 : mX3_withPairs τ.2 σ = some (hf (ov M) τ.2 144) := x_wp_out x6 τ.2 12 5000 0 rfl (by omega)
    have e2 := m_dp τ.2 hj 144 5000 0 rfl (by omega)
    rw [e1, Option.bind_some, mX3_withLatest]
    have hR' : bx_R σ (τ'.1, hf (ov M) τ.2 144) := (hR.pk hk).h _
    obtain ⟨E, hE, t8, hc, hev⟩ := event_eq hR'.2.1
    obtain ⟨w, f1, f2⟩ := dg_events hE E 5000 0 (τ'.1, hf (ov M) τ.2 144) (by omega) (by omega) hR' t8 hev
    have f1' : mX3_withLatest_14 5000 (hf (ov M) τ.2 144) (nI E) 0 σ = some w := f1
    rw [hc, show bx_F = 5000 from rfl, f1', Option.bind_some]
    obtain ⟨r, τ2, g1, g2, g3⟩ := dg_heap 4 5000 0 (τ'.1, w) rfl (by omega) ((hR.pk hk).h w)
    refine ⟨r, τ2, g1, ?_, g3⟩
    have e3 : (τ'.1, hf (ov M) τ.2 0) = τ' := by rw [show hf (ov M) τ.2 0 = τ.2 from rfl, ← hk.2]
    rw [e3] at e2
    exact (e2.trans f2).trans g2
  | succ k ih =>
    intro n ax τ hx hn hR hA
    obtain ⟨n, rfl⟩ : ∃ m, n = m + 1 := ⟨n - 1, by omega⟩
    have hA' := hA
    obtain ⟨⟨x1, x2, x3, x4, x5, x6⟩, ⟨m1, m2, m3, m4⟩, ⟨i1, i2, i3, i4, i5⟩⟩ := hA
    have ha : ax < 3 := by omega
    have hu := (i3 ax ha).1
    obtain ⟨w, e1, e2⟩ := dg_ends x3 x4 ha (i3 ax ha) (mX4_digest_39 n) u 5000 5000 0 τ (by omega) (by omega) (by omega) m2 m3
    have e1' : mX3_withEnds τ.2 (nI ax) σ = some w := by
      rw [mX3_withEnds, lineOf_eq ax ha, (x4 ax ha).1]
      exact e1
    have e2' : mX4_digest_46 (mX4_digest_39 n) bx_F (nI ax) 0 τ = mX4_digest_39 n (nI (ax + 1)) (τ.1, w) := e2
    rw [mX3_digest_35, mX4_digest_39, if_neg (n3 ha), if_neg (n3 ha), e1', Option.bind_some, e2', nI_1]
    exact ih n (ax + 1) (τ.1, w) (by omega) (by omega) (hR.h w) hA'
theorem dg_lets {σ : bx_St} {T : Nat → Bool} {tc : Bool} {V : Nat → Nat → Int} {F : Nat → Nat → Nat} {u : Nat} {M : Nat → Nat → Nat → Bool} {b : Nat} (hb : b < 12) (hT : T b = true) : ∀ (k n ax : Nat) (τ : bx_St), ax + k = 3 → k < n → RA σ τ T tc V F u M → ∃ w, mX3_withBox_42 n (nI b) τ.2 (nI ax) σ = some w ∧ mX4_mixBox_33 n (nI b) (nI ax) τ = some (τ.1, w) := by
  intro k
  induction k with
  | zero =>
    intro n ax τ hx hn hA
    obtain ⟨n, rfl⟩ : ∃ m, n = m + 1 := ⟨n - 1, by omega⟩
    have : ax = 3 := by omega
    subst this
    exact ⟨τ.2, by rw [mX3_withBox_42, if_pos (by decide)], by rw [mX4_mixBox_33, if_pos (by decide)]⟩
  | succ k ih =>
    intro n ax τ hx hn hA
    obtain ⟨n, rfl⟩ : ∃ m, n = m + 1 := ⟨n - 1, by omega⟩
    have hA' := hA
    obtain ⟨⟨x1, x2, x3, x4, x5, x6⟩, ⟨m1, m2, m3, m4⟩, ⟨i1, i2, i3, i4, i5⟩⟩ := hA
    have ha : ax < 3 := by omega
    obtain ⟨u0, a0, b0⟩ := let_eq x1 x2 x3 x5 m1 m2 m4 i1 i2 i5 ha hb hT false
    obtain ⟨u1, a1, b1⟩ := let_eq (τ := mX4_mix u0.toInt64 τ) x1 x2 x3 x5 m1 m2 m4 i1 i2 i5 ha hb hT true
    have w0 : wy false = (-1 : Int32) := rfl
    have w1 : wy true = (1 : Int32) := rfl
    rw [w0] at a0 b0
    rw [w1] at a1 b1
    rw [mX3_withBox_42, mX4_mixBox_33, if_neg (n3 ha), if_neg (n3 ha), a0, b0, Option.bind_some, Option.bind_some, a1, b1, Option.bind_some, Option.bind_some, nI_1]
    exact ih n (ax + 1) (τ.1, mX3_with (mX3_with τ.2 u0.toInt64) u1.toInt64) (by omega) (by omega) hA'
theorem dg_what {σ : bx_St} {T : Nat → Bool} {tc : Bool} {V : Nat → Nat → Int} {F : Nat → Nat → Nat} {u : Nat} {M : Nat → Nat → Nat → Bool} {b : Nat} (hb : b < 12) (hT : T b = true) : ∀ (k n j : Nat) (τ : bx_St), j + k = 9 → k < n → RA σ τ T tc V F u M → ∃ w, mX3_withBox_11 n (nI b) τ.2 (nI j) σ = some w ∧ mX4_mixBox_8 n (nI b) (nI j) τ = some (τ.1, w) := by
  intro k
  induction k with
  | zero =>
    intro n j τ hx hn hA
    obtain ⟨n, rfl⟩ : ∃ m, n = m + 1 := ⟨n - 1, by omega⟩
    have : j = 9 := by omega
    subst this
    rw [mX3_withBox_11, mX4_mixBox_8, if_pos (by decide), if_pos (by decide)]
    exact dg_lets hb hT 3 5000 0 τ rfl (by omega) hA
  | succ k ih =>
    intro n j τ hx hn hA
    obtain ⟨n, rfl⟩ : ∃ m, n = m + 1 := ⟨n - 1, by omega⟩
    have hA' := hA
    obtain ⟨⟨x1, x2, x3, x4, x5, x6⟩, ⟨m1, m2, m3, m4⟩, ⟨i1, i2, i3, i4, i5⟩⟩ := hA
    obtain ⟨r, e1, e2⟩ := boxNow_eq x1 x3 x6 m2 m4 hb hT j (by omega)
    rw [mX3_withBox_11, mX4_mixBox_8, if_neg (g8 (by omega)), if_neg (n9 (by omega)), e1, e2, Option.bind_some, Option.bind_some, nI_1]
    exact ih n (j + 1) (τ.1, mX3_with τ.2 r.toInt64) (by omega) (by omega) hA'
theorem dg_boxes {σ : bx_St} {T : Nat → Bool} {tc : Bool} {V : Nat → Nat → Int} {F : Nat → Nat → Nat} {u : Nat} {M : Nat → Nat → Nat → Bool} : ∀ (k n b : Nat) (τ : bx_St), b + k = 12 → k < n → bx_R σ τ → RA σ τ T tc V F u M → ∃ r τ', mX3_digest_6 n τ.2 (nI b) σ = some r ∧ mX4_digest_9 n (nI b) τ = some (r, τ') ∧ bx_R σ τ' := by
  intro k
  induction k with
  | zero =>
    intro n b τ hx hn hR hA
    obtain ⟨n, rfl⟩ : ∃ m, n = m + 1 := ⟨n - 1, by omega⟩
    have : b = 12 := by omega
    subst this
    rw [mX3_digest_6, mX4_digest_9, if_pos (by decide), if_pos (by decide)]
    exact dg_axes 3 5000 0 τ rfl (by omega) hR hA
  | succ k ih =>
    intro n b τ hx hn hR hA
    obtain ⟨n, rfl⟩ : ∃ m, n = m + 1 := ⟨n - 1, by omega⟩
    have hb : b < 12 := by omega
    rw [mX3_digest_6, mX4_digest_9, if_neg (n12 hb), if_neg (n12 hb), there_b hA.1.1 hb, hA.2.1.1.1, has_bm T hb]
    cases hT : T b with
    | false =>
      rw [if_pos (by rfl), if_pos (by rfl), mX3_digest_27, mX4_digest_31, nI_1]
      exact ih n (b + 1) τ (by omega) (by omega) hR hA
    | true =>
      obtain ⟨w, e1, e2⟩ := dg_what hb hT 9 5000 0 (τ.1, mX3_with τ.2 (nI b).toInt64) rfl (by omega) hA
      have e1' : mX3_withBox τ.2 (nI b) σ = some w := e1
      have e2' : mX4_mixBox (nI b) τ = some (τ.1, w) := e2
      rw [if_neg (by decide), if_neg (by decide), e1', e2', Option.bind_some, Option.bind_some, mX3_digest_27, mX4_digest_31, nI_1]
      exact ih n (b + 1) (τ.1, w) (by omega) (by omega) (hR.h w) hA
theorem P_digest (σ τ : bx_St) (h : bx_R σ τ) : ∃ u w, mX3_digest σ = some u ∧ mX4_digest τ = some w ∧ u = w.1 ∧ bx_R σ w.2 := by
  have hh := h
  obtain ⟨⟨T, tc, V, F, u, M, hA⟩, -, -⟩ := hh
  obtain ⟨r, τ', e1, e2, e3⟩ := dg_boxes 12 5000 0 (τ.1, 1657) rfl (by omega) (h.h 1657) hA
  exact ⟨r, (r, τ'), e1, e2, rfl, e3⟩
