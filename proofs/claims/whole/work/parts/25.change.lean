/-! a change is opened -/
theorem x_open (σ : bx_St) : ∃ σ', mX0_open σ = some σ' ∧ (∀ k i, k ≠ 5 → k ≠ 7 → σ'.1 k i = σ.1 k i) ∧ (∀ i, i ≠ 2 → i ≠ 3 → i ≠ 10 → σ'.1 5 i = σ.1 5 i) ∧ σ'.1 5 2 = 0 ∧ σ'.1 5 3 = 0 ∧ σ'.1 5 10 = 0 ∧ ∀ i, i < 3 → σ'.1 7 i = 0 := by
  have l : ∀ (k n i : Nat) (σ : bx_St), i + k = 3 → k < n → (∀ j, j < i → σ.1 7 j = 0) → ∃ σ', mX0_open_17 n (nI i) σ = some σ' ∧ (∀ k i, k ≠ 7 → σ'.1 k i = σ.1 k i) ∧ ∀ j, j < 3 → σ'.1 7 j = 0 := by
    intro k
    induction k with
    | zero =>
      intro n i σ hi hn h
      obtain ⟨n, rfl⟩ : ∃ m, n = m + 1 := ⟨n - 1, by omega⟩
      have : i = 3 := by omega
      subst this
      exact ⟨σ, by rw [mX0_open_17, if_pos (by decide)], fun _ _ _ => rfl, h⟩
    | succ k ih =>
      intro n i σ hi hn h
      obtain ⟨n, rfl⟩ : ∃ m, n = m + 1 := ⟨n - 1, by omega⟩
      obtain ⟨σ', e1, e2, e3⟩ := ih n (i + 1) (bx_up σ 7 i 0) (by omega) (by omega) (fun j hj => by
        rw [up_get, if_pos rfl]
        by_cases q : j = i
        · rw [if_pos q]
        · rw [if_neg q]; exact h j (by omega))
      refine ⟨σ', by rw [mX0_open_17, if_neg (n3 (by omega)), if_pos (ok_nI (by omega) (by decide)), cl_nI (by omega), nI_1]; exact e1, fun k i q => ?_, e3⟩
      rw [e2 k i q, up_get, if_neg q]
  obtain ⟨σ', e1, e2, e3⟩ := l 3 5000 0 (bx_up (bx_up (bx_up σ 5 2 0) 5 3 0) 5 10 0) rfl (by omega) (fun j hj => absurd hj (Nat.not_lt_zero j))
  refine ⟨σ', e1, ?_, ?_, ?_, ?_, ?_, e3⟩
  · intro k i q1 q2
    rw [e2 k i q2]
    simp only [up_get, if_neg q1]
  · intro i q1 q2 q3
    rw [e2 5 i (by omega)]
    simp [up_get, q1, q2, q3]
  · rw [e2 5 2 (by omega)]; simp [up_get]
  · rw [e2 5 3 (by omega)]; simp [up_get]
  · rw [e2 5 10 (by omega)]; simp [up_get]
theorem m_begin {τ : bx_St} {M : Nat → Nat → Nat → Bool} (hM : MM τ M) : ∃ τ', mX4_beginChange τ = some τ' ∧ (∀ k i, k ≠ 0 → k ≠ 7 → k ≠ 9 → τ'.1 k i = τ.1 k i) ∧ (∀ i, i ≠ 24 → τ'.1 0 i = τ.1 0 i) ∧ τ'.1 0 24 = 0 ∧ (∀ i, i < 3 → τ'.1 7 i = 0) ∧ (∀ a b, a < 12 → b < 12 → τ'.1 9 (12 * a + b) = bI (ov M a b)) := by
  have l : ∀ (k n i : Nat) (τ : bx_St), i + k = 144 → k < n → MM τ M → (∀ j, j < i → τ.1 9 j = bI (ov M (j / 12) (j % 12))) → ∃ τ', mX4_beginChange_2 n (nI i) τ = some τ' ∧ (∀ k i, k ≠ 0 → k ≠ 7 → k ≠ 9 → τ'.1 k i = τ.1 k i) ∧ (∀ i, i ≠ 24 → τ'.1 0 i = τ.1 0 i) ∧ τ'.1 0 24 = 0 ∧ (∀ i, i < 3 → τ'.1 7 i = 0) ∧ (∀ j, j < 144 → τ'.1 9 j = bI (ov M (j / 12) (j % 12))) := by
    intro k
    induction k with
    | zero =>
      intro n i τ hi hn hM h
      obtain ⟨n, rfl⟩ : ∃ m, n = m + 1 := ⟨n - 1, by omega⟩
      have : i = 144 := by omega
      subst this
      have c0 : (0 : Int32).toNatClampNeg = 0 := by decide
      have c1 : (1 : Int32).toNatClampNeg = 1 := by decide
      have c2 : (2 : Int32).toNatClampNeg = 2 := by decide
      refine ⟨_, by rw [mX4_beginChange_2, if_pos (by decide), if_pos ok3_0, bx_let, if_pos ok3_1, bx_let, if_pos ok3_2, bx_let], ?_, ?_, ?_, ?_, ?_⟩
      · intro k i q1 q2 q3
        simp only [up_get, if_neg q1, if_neg q2]
      · intro i q
        simp [up_get, q]
      · simp [up_get]
      · intro i hi
        rcases (by omega : i = 0 ∨ i = 1 ∨ i = 2) with rfl | rfl | rfl <;> simp [up_get, c0, c1, c2]
      · intro j hj
        simp [up_get]
        exact h j hj
    | succ k ih =>
      intro n i τ hi hn hM h
      obtain ⟨n, rfl⟩ : ∃ m, n = m + 1 := ⟨n - 1, by omega⟩
      have hi144 : i < 144 := by omega
      have hm := hM (i / 12) (by omega) (i % 12) (by omega)
      rw [show 12 * (i / 12) + i % 12 = i by omega] at hm
      have st : ∀ x : Int32, vp_nar .boolean x = bI (ov M (i / 12) (i % 12)) → ∃ τ', mX4_beginChange_30 (mX4_beginChange_2 n) (nI i) x (nI i) τ = some τ' ∧ (∀ k i, k ≠ 0 → k ≠ 7 → k ≠ 9 → τ'.1 k i = τ.1 k i) ∧ (∀ i, i ≠ 24 → τ'.1 0 i = τ.1 0 i) ∧ τ'.1 0 24 = 0 ∧ (∀ i, i < 3 → τ'.1 7 i = 0) ∧ (∀ j, j < 144 → τ'.1 9 j = bI (ov M (j / 12) (j % 12))) := by
        intro x hx
        obtain ⟨τ', e1, e2, e3, e4, e5, e6⟩ := ih n (i + 1) (bx_up τ 9 i (vp_nar .boolean x)) (by omega) (by omega) (fun a ha b hb => by rw [up_get, if_neg (by decide)]; exact hM a ha b hb) (fun j hj => by
          rw [up_get, if_pos rfl]
          by_cases q : j = i
          · rw [if_pos q, q, hx]
          · rw [if_neg q]; exact h j (by omega))
        refine ⟨τ', by rw [mX4_beginChange_30, if_pos (ok_nI hi144 (by decide)), cl_nI (by omega), bx_let, nI_1]; exact e1, fun k i q1 q2 q3 => ?_, fun i q => ?_, e4, e5, e6⟩
        · rw [e2 k i q1 q2 q3, up_get, if_neg q3]
        · rw [e3 i q, up_get, if_neg (by decide)]
      rw [mX4_beginChange_2, if_neg (n144 hi144), if_pos (ok_nI hi144 (by decide)), cl_nI (by omega), hm]
      by_cases q : (M 0 (i / 12) (i % 12) && M 1 (i / 12) (i % 12) && M 2 (i / 12) (i % 12)) = true
      · rw [if_pos ((bm7 (fun ax => M ax (i / 12) (i % 12))).mpr q)]
        exact st 1 (by rw [ov, q]; decide)
      · rw [if_neg (fun q2 => q ((bm7 (fun ax => M ax (i / 12) (i % 12))).mp q2))]
        exact st 0 (by rw [ov, Bool.eq_false_iff.mpr q]; decide)
  obtain ⟨τ', e1, e2, e3, e4, e5, e6⟩ := l 144 5000 0 τ rfl (by omega) hM (fun j hj => absurd hj (Nat.not_lt_zero j))
  refine ⟨τ', by rw [mX4_beginChange]; exact e1, e2, e3, e4, e5, fun a b ha hb => ?_⟩
  rw [e6 _ (by omega), show (12 * a + b) / 12 = a by omega, show (12 * a + b) % 12 = b by omega]
/-! the events of a change are told -/
def df (O : Nat → Nat → Bool) (M : Nat → Nat → Nat → Bool) (a b : Nat) : Bool := O a b ^^ ov M a b
/-- events alike, up to a code -/
def EV (σ τ : bx_St) (E : Nat) : Prop := ∃ B, B ≤ E ∧ σ.1 5 2 = nI B ∧ σ.1 5 3 = nI (E - B) ∧ τ.1 0 8 = nI E ∧ τ.1 0 11 = nI B ∧ ∀ i, i < E → ∃ (c : Nat) (b : Bool), c < 144 ∧ τ.1 5 i = nI c ∧ τ.1 6 i = bI b ∧ σ.1 6 i = nI (2 * c + (if b then 1 else 0))
def EX (σ0 σ : bx_St) : Prop := (∀ k i, k ≠ 1 → k ≠ 5 → k ≠ 6 → σ.1 k i = σ0.1 k i) ∧ (∀ i, i ≠ 2 → i ≠ 3 → σ.1 5 i = σ0.1 5 i)
def EM (τ0 τ : bx_St) : Prop := (∀ k i, k ≠ 0 → k ≠ 5 → k ≠ 6 → τ.1 k i = τ0.1 k i) ∧ (∀ i, i ≠ 8 → i ≠ 11 → τ.1 0 i = τ0.1 0 i)
def EO (σ : bx_St) (O : Nat → Nat → Bool) (M : Nat → Nat → Nat → Bool) (a : Nat) : Prop := ∀ c, c < 12 → σ.1 1 c = if c < a then bm (ov M c) else bm (O c)
theorem x_addEvent {σ : bx_St} {E B : Nat} (hE : E < 66) (hB : B ≤ E) (h2 : σ.1 5 2 = nI B) (h3 : σ.1 5 3 = nI (E - B)) (c : Nat) (g : Bool) : mX0_addEvent (nI c) (bI g) σ = some (bx_up (bx_up σ 6 E (nI (2 * c + (if g then 1 else 0)))) 5 (if g then 2 else 3) (nI (if g then B + 1 else E - B + 1))) := by
  have hc : mX0_eventCount σ = nI E := by rw [mX0_eventCount, h2, h3, nI_add, show B + (E - B) = E by omega]
  have e66 : nI E < (66 : Int32) := nI_lt (b := 66) hE (by decide)
  rw [mX0_addEvent, hc, if_pos e66]
  have t0 : (2 : Int32) * nI c = nI (2 * c) := by show nI 2 * nI c = _; rw [pk_mul]
  have t1 : (2 : Int32) * nI c + 1 = nI (2 * c + 1) := by rw [t0, nI_1]
  cases g with
  | false =>
    rw [if_pos (by rfl), mX0_addEvent_32, if_pos (ok_nI hE (by decide)), if_pos (by rfl), cl_nI (by omega), bx_let, t0, up_ne (show (5 : Nat) ≠ 6 by decide), h3, nI_1]
    rfl
  | true =>
    rw [if_neg (by decide), mX0_addEvent_32, if_pos (ok_nI hE (by decide)), if_neg (by decide), cl_nI (by omega), bx_let, t1, up_ne (show (5 : Nat) ≠ 6 by decide), h2, nI_1]
    rfl
theorem bI_nI2 (g : Bool) : bI g = nI (if g then 1 else 0) := bI_nI g
theorem m_addEvent {τ : bx_St} {E B : Nat} (hE : E < 66) (h8 : τ.1 0 8 = nI E) (h11 : τ.1 0 11 = nI B) (g : Bool) (K12 : Int32 → Int32 → bx_St → Option bx_St) (K22 : Int32 → Int32 → Int32 → bx_St → Option bx_St) (v1 a : Int32) (b : Nat) : mX4_endChange_85 K12 K22 v1 a (nI b) (bI g) (nI E) τ = K22 v1 a (nI (b + 1)) (bx_up (bx_up (bx_up τ 6 E (bI g)) 0 11 (nI (B + (if g then 1 else 0)))) 0 8 (nI (E + 1))) := by
  rw [mX4_endChange_85, if_pos (ok_nI hE (by decide)), cl_nI (by omega), up_ne (show (0 : Nat) ≠ 6 by decide), h8, if_pos (ok_nI hE (by decide)), cl_nI (by omega), bx_let, mX4_endChange_114, nI_1, h11]
  have e1 : (bx_up τ 6 E (bI g)).1 6 E = bI g := by rw [up_get, if_pos rfl, if_pos rfl]
  have e2 : ∀ x, (bx_up (bx_up τ 6 E (bI g)) 0 11 x).1 0 8 = nI E := by intro x; rw [up_get, if_pos rfl, if_neg (by decide), up_get, if_neg (by decide), h8]
  rw [e1, e2, nI_1, bI_nI, nI_add]
theorem tell_in {σ0 τ0 : bx_St} {O : Nat → Nat → Bool} {M : Nat → Nat → Nat → Bool} (hM : MM τ0 M) (hW : ∀ a b, a < 12 → b < 12 → τ0.1 9 (12 * a + b) = bI (O a b)) {a : Nat} (ha : a < 12) (K : Int32 → bx_St → Option bx_St) (K' : Int32 → Int32 → bx_St → Option bx_St) (v1 : Int32) : ∀ (k n b : Nat) (σ τ : bx_St), b + k = 12 → a < b → k < n → EX σ0 σ → EM τ0 τ → EO σ O M a → EV σ τ (fb_ct (pc (df O M)) (12 * a + b)) → ∃ σ' τ', mX3_tellEvents_18 K n (nI a) (bm (ov M a)) (nI b) σ = K (nI (a + 1)) (bx_up σ' 1 a (bm (ov M a))) ∧ mX4_endChange_22 K' n v1 (nI a) (nI b) τ = K' v1 (nI (a + 1)) τ' ∧ EX σ0 σ' ∧ EM τ0 τ' ∧ EO σ' O M a ∧ EV σ' τ' (fb_ct (pc (df O M)) (12 * a + 12)) := by
  intro k
  induction k with
  | zero =>
    intro n b σ τ hb hab hn hx hm ho hv
    obtain ⟨n, rfl⟩ : ∃ m, n = m + 1 := ⟨n - 1, by omega⟩
    have : b = 12 := by omega
    subst this
    refine ⟨σ, τ, ?_, ?_, hx, hm, ho, hv⟩
    · rw [mX3_tellEvents_18, if_pos (by decide), if_pos (ok_nI ha (by decide)), cl_nI (by omega), nI_1]
    · rw [mX4_endChange_22, if_pos (by decide), nI_1]
  | succ k ih =>
    intro n b σ τ hb hab hn hx hm ho hv
    obtain ⟨n, rfl⟩ : ∃ m, n = m + 1 := ⟨n - 1, by omega⟩
    have hb12 : b < 12 := by omega
    have hMτ : MM τ M := fun c hc d hd => by rw [hm.1 4 _ (by decide) (by decide) (by decide)]; exact hM c hc d hd
    have hWτ : τ.1 9 (12 * a + b) = bI (O a b) := by rw [hm.1 9 _ (by decide) (by decide) (by decide)]; exact hW a b ha hb12
    have hs : fb_ct (pc (df O M)) (12 * a + (b + 1)) = fb_ct (pc (df O M)) (12 * a + b) + (if df O M a b then 1 else 0) := by
      rw [show 12 * a + (b + 1) = (12 * a + b) + 1 by omega, fb_ct_succ, pc_ab _ (by omega), decide_eq_true hab, Bool.true_and]
    have hOa : σ.1 1 a = bm (O a) := by rw [ho a ha, if_neg (by omega)]
    rw [mX3_tellEvents_18, if_neg (n12 hb12), if_pos (ok_nI ha (by decide)), cl_nI (by omega), hOa, bm_xorm, hold_bm _ hb12, mX4_endChange_22, if_neg (n12 hb12), m_ix12, if_pos (ok_nI (by omega) (by decide)), m_areOver hMτ ha hb12, Option.bind_some, cl_nI (by omega), hWτ]
    cases e : df O M a b with
    | false =>
      have e' : O a b = ov M a b := by revert e; unfold df; cases O a b <;> cases ov M a b <;> decide
      rw [e] at hs
      have e2 : (ov M a b ^^ O a b) = false := by rw [e']; cases ov M a b <;> rfl
      rw [if_pos (by rw [e2]; rfl), if_pos (by rw [e']), mX3_tellEvents_56, mX4_endChange_114, nI_1]
      exact ih n (b + 1) σ τ (by omega) (by omega) (by omega) hx hm ho (by rw [hs]; exact hv)
    | true =>
      have e' : ¬ O a b = ov M a b := by revert e; unfold df; cases O a b <;> cases ov M a b <;> decide
      rw [e] at hs
      have e2 : (ov M a b ^^ O a b) = true := by revert e'; cases ov M a b <;> cases O a b <;> decide
      have hlt : fb_ct (pc (df O M)) (12 * a + b) < 66 := by
        have h1 := fb_ct_mono (pc (df O M)) (by omega : 12 * a + (b + 1) ≤ 144)
        have h2 := pc_66 (df O M)
        rw [hs] at h1
        simp at h1
        omega
      obtain ⟨B, hB, v2, v3, v8, v11, vE⟩ := hv
      have hs2 : fb_ct (pc (df O M)) (12 * a + (b + 1)) = fb_ct (pc (df O M)) (12 * a + b) + 1 := hs
      clear hs
      generalize hEE : fb_ct (pc (df O M)) (12 * a + b) = E at *
      rw [if_neg (by rw [e2]; decide), if_neg (fun q => e' (bI_inj.mp q)), mX3_pairCode, m_ix12, hold_bm _ hb12, x_addEvent hlt hB v2 v3, Option.bind_some, mX3_tellEvents_56, nI_1, v8, if_pos (ok_nI hlt (by decide)), cl_nI (by omega), bx_let]
      have hMτ2 : MM (bx_up τ 5 E (nI (12 * a + b))) M := fun c hc d hd => by rw [up_get, if_neg (by decide)]; exact hMτ c hc d hd
      have q8 : (bx_up τ 5 E (nI (12 * a + b))).1 0 8 = nI E := by rw [up_get, if_neg (by decide), v8]
      have q11 : (bx_up τ 5 E (nI (12 * a + b))).1 0 11 = nI B := by rw [up_get, if_neg (by decide), v11]
      rw [m_areOver hMτ2 ha hb12, Option.bind_some]
      have m85 : ∀ K22, (if bI (ov M a b) = 0 then mX4_endChange_85 K' K22 v1 (nI a) (nI b) (0 : Int32) ((bx_up τ 5 E (nI (12 * a + b))).1 0 8) (bx_up τ 5 E (nI (12 * a + b))) else mX4_endChange_85 K' K22 v1 (nI a) (nI b) (1 : Int32) ((bx_up τ 5 E (nI (12 * a + b))).1 0 8) (bx_up τ 5 E (nI (12 * a + b)))) = K22 v1 (nI a) (nI (b + 1)) (bx_up (bx_up (bx_up (bx_up τ 5 E (nI (12 * a + b))) 6 E (bI (ov M a b))) 0 11 (nI (B + (if ov M a b then 1 else 0)))) 0 8 (nI (E + 1))) := by
        intro K22
        rw [q8, ← m_addEvent hlt q8 q11 (ov M a b) K' K22 v1 (nI a) b]
        cases ov M a b with
        | false => rw [if_pos (by rfl)]; rfl
        | true => rw [if_neg (by decide)]; rfl
      rw [m85]
      refine ih n (b + 1) _ _ (by omega) (by omega) (by omega) ⟨?_, ?_⟩ ⟨?_, ?_⟩ ?_ ?_
      · intro k' i q1 q2 q3
        rw [up_get, if_neg q2, up_get, if_neg q3]
        exact hx.1 k' i q1 q2 q3
      · intro i q1 q2
        rw [up_get, if_pos rfl, if_neg (by cases ov M a b <;> simp <;> assumption), up_get, if_neg (by decide)]
        exact hx.2 i q1 q2
      · intro k' i q1 q2 q3
        rw [up_get, if_neg q1, up_get, if_neg q1, up_get, if_neg q3, up_get, if_neg q2]
        exact hm.1 k' i q1 q2 q3
      · intro i q1 q2
        rw [up_get, if_pos rfl, if_neg q1, up_get, if_pos rfl, if_neg q2, up_get, if_neg (by decide), up_get, if_neg (by decide)]
        exact hm.2 i q1 q2
      · intro c hc
        rw [up_get, if_neg (by decide), up_get, if_neg (by decide)]
        exact ho c hc
      · rw [hs2]
        refine ⟨B + (if ov M a b then 1 else 0), ?_, ?_, ?_, ?_, ?_, ?_⟩
        · cases ov M a b <;> simp <;> omega
        · cases ov M a b
          · simp [up_get, v2]
          · simp [up_get]
        · cases ov M a b
          · simp [up_get]
            congr 1; omega
          · simp [up_get, v3]
        · simp [up_get]
        · simp [up_get]
        · intro i hi
          by_cases q : i = E
          · subst q
            refine ⟨12 * a + b, ov M a b, by omega, ?_, ?_, ?_⟩
            · simp [up_get]
            · simp [up_get]
            · simp [up_get]
          · obtain ⟨c, g, c1, c2, c3, c4⟩ := vE i (by omega)
            refine ⟨c, g, c1, ?_, ?_, ?_⟩
            · simp [up_get, q, c2]
            · simp [up_get, q, c3]
            · simp [up_get, q, c4]
theorem tell_out {σ0 τ0 : bx_St} {O : Nat → Nat → Bool} {M : Nat → Nat → Nat → Bool} (hX : XM σ0 M) (hM : MM τ0 M) (hW : ∀ a b, a < 12 → b < 12 → τ0.1 9 (12 * a + b) = bI (O a b)) (v1 : Int32) : ∀ (k n a : Nat) (σ τ : bx_St), a + k = 12 → k < n → EX σ0 σ → EM τ0 τ → EO σ O M a → EV σ τ (fb_ct (pc (df O M)) (12 * a)) → ∃ σ' τ' n', mX3_tellEvents_2 n (nI a) σ = (Option.bind (mX0_close σ') fun u2 => (some u2)) ∧ mX4_endChange_12 n v1 (nI a) τ = mX4_endChange_12 (n' + 1) v1 12 τ' ∧ EX σ0 σ' ∧ EM τ0 τ' ∧ EO σ' O M 12 ∧ EV σ' τ' (fb_ct (pc (df O M)) 144) := by
  intro k
  induction k with
  | zero =>
    intro n a σ τ ha hn hx hm ho hv
    obtain ⟨n, rfl⟩ : ∃ m, n = m + 1 := ⟨n - 1, by omega⟩
    have : a = 12 := by omega
    subst this
    exact ⟨σ, τ, n, by rw [mX3_tellEvents_2, if_pos (by decide)], rfl, hx, hm, ho, hv⟩
  | succ k ih =>
    intro n a σ τ ha hn hx hm ho hv
    obtain ⟨n, rfl⟩ : ∃ m, n = m + 1 := ⟨n - 1, by omega⟩
    have ha12 : a < 12 := by omega
    have hr := pc_row (df O M) a (a + 1) (by omega) (by omega)
    have on : ∀ ax, ax < 3 → σ.1 (8 + 5 * ax + 4) a = bm (M ax a) := fun ax h => by rw [hx.1 _ _ (by omega) (by omega) (by omega)]; exact hX ax h a ha12
    have o0 : σ.1 (8 + 4) a = bm (M 0 a) := on 0 (by omega)
    have o1 : σ.1 (13 + 4) a = bm (M 1 a) := on 1 (by omega)
    have o2 : σ.1 (18 + 4) a = bm (M 2 a) := on 2 (by omega)
    have on3 : mX3_meetsOnAll (nI a) σ = some (bm (ov M a)) := by
      rw [mX3_meetsOnAll, if_pos (ok_nI ha12 (by decide)), if_pos (ok_nI ha12 (by decide)), if_pos (ok_nI ha12 (by decide)), cl_nI (by omega), o0, o1, o2, bm_andm, bm_andm]
      rfl
    obtain ⟨σ1, τ1, e1, e2, hx1, hm1, ho1, hv1⟩ := tell_in hM hW ha12 (mX3_tellEvents_2 n) (mX4_endChange_12 n) v1 (11 - a) 5000 (a + 1) σ τ (by omega) (by omega) (by omega) hx hm ho (by rw [hr]; exact hv)
    have bF : bx_F = 5000 := rfl
    rw [mX3_tellEvents_2, if_neg (n12 ha12), on3, Option.bind_some, nI_1, bF, e1, mX4_endChange_12, if_neg (n12 ha12), nI_1, bF, e2]
    refine ih n (a + 1) _ τ1 (by omega) (by omega) ⟨?_, ?_⟩ hm1 ?_ ?_
    · intro k' i q1 q2 q3
      rw [up_get, if_neg q1]
      exact hx1.1 k' i q1 q2 q3
    · intro i q1 q2
      rw [up_get, if_neg (by decide)]
      exact hx1.2 i q1 q2
    · intro c hc
      rw [up_get, if_pos rfl]
      by_cases q : c = a
      · rw [if_pos q, q, if_pos (by omega)]
      · rw [if_neg q, ho1 c hc]
        by_cases q2 : c < a
        · rw [if_pos q2, if_pos (by omega)]
        · rw [if_neg q2, if_neg (by omega)]
    · rw [show 12 * (a + 1) = 12 * a + 12 by omega]
      obtain ⟨B, w1, w2, w3, w4, w5, w6⟩ := hv1
      refine ⟨B, w1, ?_, ?_, w4, w5, fun i hi => ?_⟩
      · rw [up_get, if_neg (by decide), w2]
      · rw [up_get, if_neg (by decide), w3]
      · rw [up_get, if_neg (by decide)]; exact w6 i hi
/-- what a change leaves alone as its events are told -/
def TX (σ σ' : bx_St) : Prop := ∀ k i, k ≠ 1 → k ≠ 5 → k ≠ 6 → σ'.1 k i = σ.1 k i
def TM (τ τ' : bx_St) : Prop := (∀ k i, k ≠ 0 → k ≠ 5 → k ≠ 6 → τ'.1 k i = τ.1 k i) ∧ (∀ i, i ≠ 8 → i ≠ 11 → i ≠ 12 → (i < 14 ∨ 18 < i) → τ'.1 0 i = τ.1 0 i)
/-- the ledgers in the midst of a change -/
def LG (σ τ : bx_St) (t : Nat) : Prop := σ.1 5 2 = 0 ∧ σ.1 5 3 = 0 ∧ σ.1 5 10 = nI t ∧ τ.1 0 24 = nI t ∧ τ.1 0 14 = σ.1 5 5 ∧ τ.1 0 15 = σ.1 5 6 ∧ τ.1 0 16 = σ.1 5 7 ∧ τ.1 0 17 = σ.1 5 8 ∧ τ.1 0 18 = σ.1 5 9 ∧ (∀ i, i < 3 → τ.1 7 i = σ.1 7 i)
theorem max0 {t E : Nat} (ht : t < 2 ^ 20) (hE : E ≤ 66) (h : t = 0 ∨ E ≤ t) : mJ9_max_7cf53 0 (nI t - nI E) = (if t = 0 then 0 else nI (t - E)) := by
  have s : (nI t - nI E).toInt = (t : Int) - E := by
    have : nI t - nI E = iv ((t : Int) - E) := iv_sub (t : Int) (E : Int)
    rw [this, iv_toInt (by omega) (by omega)]
  have z : (0 : Int32).toInt = 0 := by decide
  by_cases q : t = 0
  · rw [if_pos q, mJ9_max_7cf53]
    split
    · rename_i g
      rw [fa_lt] at g
      omega
    · rfl
  · rw [if_neg q]
    have hh : nI t - nI E = nI (t - E) := by
      rw [fa_eq, s, nI_toInt (by omega)]
      omega
    rw [mJ9_max_7cf53, hh]
    split
    · rfl
    · rename_i g
      rw [fa_lt, nI_toInt (by omega)] at g
      have : t - E = 0 := by omega
      rw [this]; rfl
theorem x_close {σ : bx_St} {B E t : Nat} (hB : B ≤ E) (hE : E ≤ 66) (h2 : σ.1 5 2 = nI B) (h3 : σ.1 5 3 = nI (E - B)) (h10 : σ.1 5 10 = nI t) (ht : t < 2 ^ 20) (h : t = 0 ∨ E ≤ t) : ∃ σ', mX0_close σ = some σ' ∧ (∀ k i, k ≠ 5 → σ'.1 k i = σ.1 k i) ∧ σ'.1 5 2 = nI B ∧ σ'.1 5 3 = nI (E - B) ∧ σ'.1 5 4 = (if t = 0 then 0 else nI (t - E)) ∧ σ'.1 5 5 = σ.1 5 5 + nI B ∧ σ'.1 5 6 = σ.1 5 6 + nI (E - B) ∧ σ'.1 5 7 = σ.1 5 7 + (σ.1 7 0 + σ.1 7 1 + σ.1 7 2) ∧ σ'.1 5 8 = σ.1 5 8 + (if t = 0 then 0 else nI (t - E)) ∧ σ'.1 5 9 = σ.1 5 9 + 1 := by
  have hc : mX0_eventCount σ = nI E := by rw [mX0_eventCount, h2, h3, nI_add, show B + (E - B) = E by omega]
  have sw : ∀ ρ : bx_St, mX0_allSwaps ρ = some (ρ.1 7 0 + ρ.1 7 1 + ρ.1 7 2) := by
    intro ρ
    rw [mX0_allSwaps, if_pos ok3_0, if_pos ok3_1, if_pos ok3_2]
    rfl
  rw [mX0_close, hc, h10, max0 ht hE h]
  simp only [bx_let, sw, Option.bind_some]
  refine ⟨_, rfl, fun k i q => ?_, ?_, ?_, ?_, ?_, ?_, ?_, ?_, ?_⟩
  · simp only [up_get, if_neg q]
  · simp [up_get, h2]
  · simp [up_get, h3]
  · simp [up_get]
  · simp [up_get, h2]
  · simp [up_get, h3]
  · simp [up_get]
  · simp [up_get]
  · simp [up_get]
theorem m_close {τ : bx_St} {B E : Nat} (hB : B ≤ E) (h8 : τ.1 0 8 = nI E) (h11 : τ.1 0 11 = nI B) (x : Int32) : ∃ τ', mX4_endChange_141 x τ = some τ' ∧ (∀ k i, k ≠ 0 → τ'.1 k i = τ.1 k i) ∧ (∀ i, i ≠ 12 → (i < 14 ∨ 18 < i) → τ'.1 0 i = τ.1 0 i) ∧ τ'.1 0 12 = x ∧ τ'.1 0 14 = τ.1 0 14 + nI B ∧ τ'.1 0 15 = τ.1 0 15 + nI (E - B) ∧ τ'.1 0 16 = τ.1 0 16 + (τ.1 7 0 + τ.1 7 1 + τ.1 7 2) ∧ τ'.1 0 17 = τ.1 0 17 + x ∧ τ'.1 0 18 = τ.1 0 18 + 1 := by
  have c0 : (0 : Int32).toNatClampNeg = 0 := by decide
  have c1 : (1 : Int32).toNatClampNeg = 1 := by decide
  have c2 : (2 : Int32).toNatClampNeg = 2 := by decide
  have hs : nI E - nI B = nI (E - B) := by
    obtain ⟨d, rfl⟩ : ∃ d, E = B + d := ⟨E - B, by omega⟩
    rw [show B + d - B = d by omega, ← nI_add, Int32.add_comm, Int32.add_sub_cancel]
  simp only [mX4_endChange_141, bx_let, if_pos ok3_0, if_pos ok3_1, if_pos ok3_2, c0, c1, c2]
  refine ⟨_, rfl, fun k i q => ?_, fun i q1 q2 => ?_, ?_, ?_, ?_, ?_, ?_, ?_⟩
  · simp only [up_get, if_neg q]
  · have n14 : ¬ i = 14 := by omega
    have n15 : ¬ i = 15 := by omega
    have n16 : ¬ i = 16 := by omega
    have n17 : ¬ i = 17 := by omega
    have n18 : ¬ i = 18 := by omega
    simp [up_get, q1, n14, n15, n16, n17, n18]
  · simp [up_get]
  · simp [up_get, h11]
  · simp [up_get, h8, h11, hs]
  · simp [up_get]
  · simp [up_get]
  · simp [up_get]
theorem tell_eq {σ τ : bx_St} {O : Nat → Nat → Bool} {M : Nat → Nat → Nat → Bool} {t : Nat} (hO : XO σ O) (hX : XM σ M) (hM : MM τ M) (hW : ∀ a b, a < 12 → b < 12 → τ.1 9 (12 * a + b) = bI (O a b)) (hL : LG σ τ t) (ht : t < 2 ^ 20) (h : t = 0 ∨ fb_ct (pc (df O M)) 144 ≤ t) : ∃ σ' τ', mX3_tellEvents σ = some σ' ∧ mX4_endChange (nI t) τ = some τ' ∧ RG σ' τ' ∧ XO σ' (ov M) ∧ TX σ σ' ∧ TM τ τ' := by
  obtain ⟨l2, l3, l10, l24, l14, l15, l16, l17, l18, l7⟩ := hL
  have bF : bx_F = 5000 := rfl
  have hm0 : EM τ (bx_up (bx_up τ 0 8 0) 0 11 0) := ⟨fun k i q1 q2 q3 => by rw [up_get, if_neg q1, up_get, if_neg q1], fun i q1 q2 => by simp [up_get, q1, q2]⟩
  obtain ⟨σ1, τ1, n', e1, e2, hx1, hm1, ho1, B, w1, w2, w3, w4, w5, w6⟩ := tell_out hX hM hW (nI t) 12 5000 0 σ (bx_up (bx_up τ 0 8 0) 0 11 0) rfl (by omega) ⟨fun _ _ _ _ _ => rfl, fun _ _ _ => rfl⟩ hm0 (fun c hc => by rw [if_neg (by omega)]; exact hO c hc) ⟨0, by omega, l2, l3, rfl, rfl, fun i hi => absurd hi (Nat.not_lt_zero i)⟩
  have hE := pc_66 (df O M)
  generalize hEE : fb_ct (pc (df O M)) 144 = E at *
  obtain ⟨σ2, s0, s1, s2, s3, s4, s5, s6, s7, s8, s9⟩ := x_close w1 hE w2 w3 (by rw [hx1.2 10 (by omega) (by omega), l10]) ht h
  have c5 : ∀ i, 4 ≤ i → σ1.1 5 i = σ.1 5 i := fun i hi => hx1.2 i (by omega) (by omega)
  have c7 : ∀ i, σ1.1 7 i = σ.1 7 i := fun i => hx1.1 7 i (by omega) (by omega) (by omega)
  have d0 : ∀ i, 12 ≤ i → τ1.1 0 i = τ.1 0 i := fun i hi => hm1.2 i (by omega) (by omega)
  have d7 : ∀ i, τ1.1 7 i = τ.1 7 i := fun i => hm1.1 7 i (by omega) (by omega) (by omega)
  obtain ⟨τ2, t0, t1, t2, t12, t14, t15, t16, t17, t18⟩ := m_close w1 w4 w5 (if t = 0 then 0 else nI (t - E))
  have end0 : mX4_endChange (nI t) τ = some τ2 := by
    rw [mX4_endChange, bx_let, bF]
    refine (show mX4_endChange_12 5000 (nI t) 0 (bx_up (bx_up τ 0 8 0) 0 11 0) = _ from e2).trans ?_
    rw [mX4_endChange_12, if_pos (by decide), w4, ← t0]
    by_cases q : t = 0
    · rw [if_pos (by rw [q]; decide), if_pos q]
    · have : nI t - nI E = nI (t - E) := by
        obtain ⟨d, rfl⟩ : ∃ d, t = E + d := ⟨t - E, by omega⟩
        rw [show E + d - E = d by omega, ← nI_add, Int32.add_comm, Int32.add_sub_cancel]
      rw [if_neg (by rw [le0_iff (by omega)]; exact q), if_neg q, this]
  refine ⟨σ2, τ2, by rw [mX3_tellEvents, bF, nI_00, e1, s0, Option.bind_some], end0, ⟨?_, ?_, ?_, ?_, ?_, ?_, ?_, ?_, ?_, E, hE, ?_, ?_⟩, ?_, ?_, ?_⟩
  · rw [t2 11 (by omega) (by omega), w5, s2]
  · rw [t2 8 (by omega) (by omega), w4, s2, s3, nI_add, show B + (E - B) = E by omega]
  · rw [t12, s4]
  · rw [t14, s5, c5 5 (by omega), d0 14 (by omega), l14]
  · rw [t15, s6, c5 6 (by omega), d0 15 (by omega), l15]
  · rw [t16, s7, c5 7 (by omega), d0 16 (by omega), l16, d7, d7, d7, c7, c7, c7, l7 0 (by omega), l7 1 (by omega), l7 2 (by omega)]
  · rw [t17, s8, c5 8 (by omega), d0 17 (by omega), l17]
  · rw [t18, s9, c5 9 (by omega), d0 18 (by omega), l18]
  · intro i hi
    rw [t1 7 i (by omega), s1 7 i (by omega), d7, c7, l7 i hi]
  · rw [t2 8 (by omega) (by omega), w4]
  · intro i hi
    rw [t1 5 i (by omega), t1 6 i (by omega), s1 6 i (by omega)]
    exact w6 i hi
  · intro c hc
    rw [s1 1 c (by omega), ho1 c hc, if_pos hc]
  · intro k i q1 q2 q3
    rw [s1 k i q2]
    exact hx1.1 k i q1 q2 q3
  · refine ⟨fun k i q1 q2 q3 => ?_, fun i q1 q2 q3 q4 => ?_⟩
    · rw [t1 k i q1]; exact hm1.1 k i q1 q2 q3
    · rw [t2 i q3 q4]; exact hm1.2 i q1 q2
