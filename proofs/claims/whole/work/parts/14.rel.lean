/-! the abstract world: T which boxes are there, tc whether touching counts, V the number of each end (axis, 2 box + (1 for a high)), F the rows of ends, u how many ends, M on which axes boxes meet -/
def XB (σ : bx_St) (T : Nat → Bool) (tc : Bool) : Prop := σ.1 0 6 = bm T ∧ σ.1 0 7 = bI tc
def XK (σ : bx_St) (tc : Bool) : Prop := ∀ ax, ax < 3 → σ.1 (8 + 5 * ax) 5 = bI tc
def XV (σ : bx_St) (V : Nat → Nat → Int) : Prop := ∀ ax, ax < 3 → ∀ b, b < 12 → σ.1 (8 + 5 * ax + 1) b = iv (V ax (2 * b)) ∧ σ.1 (8 + 5 * ax + 2) b = iv (V ax (2 * b + 1))
def XF (σ : bx_St) (F : Nat → Nat → Nat) (u : Nat) : Prop := ∀ ax, ax < 3 → σ.1 (8 + 5 * ax) 4 = nI u ∧ ∀ p, p < 24 → σ.1 (8 + 5 * ax + 3) p = nI (F ax p)
def XM (σ : bx_St) (M : Nat → Nat → Nat → Bool) : Prop := ∀ ax, ax < 3 → ∀ a, a < 12 → σ.1 (8 + 5 * ax + 4) a = bm (M ax a)
def XO (σ : bx_St) (O : Nat → Nat → Bool) : Prop := ∀ a, a < 12 → σ.1 1 a = bm (O a)
def MB (τ : bx_St) (T : Nat → Bool) (tc : Bool) : Prop := τ.1 0 2 = bm T ∧ τ.1 0 3 = bI tc
def MV (τ : bx_St) (V : Nat → Nat → Int) : Prop := ∀ ax, ax < 3 → ∀ b, b < 12 → ∀ h, h < 2 → τ.1 2 (6 * b + 2 * ax + h) = iv (V ax (2 * b + h))
def MF (τ : bx_St) (F : Nat → Nat → Nat) (u : Nat) : Prop := τ.1 0 5 = nI u ∧ ∀ ax, ax < 3 → ∀ p, p < 24 → τ.1 3 (24 * ax + p) = nI (F ax p)
def MM (τ : bx_St) (M : Nat → Nat → Nat → Bool) : Prop := ∀ a, a < 12 → ∀ b, b < 12 → τ.1 4 (12 * a + b) = bm (fun ax => decide (ax < 3) && M ax a b)
/-- two boxes overlap -/
def ov (M : Nat → Nat → Nat → Bool) (a b : Nat) : Bool := M 0 a b && M 1 a b && M 2 a b
/-- where an end belongs: by its number, then by its kind, then by its box -/
def ky (tc : Bool) (V : Nat → Nat → Int) (ax c : Nat) : Int := V ax c * 64 + (if decide (c % 2 = 1) = tc then 32 else 0) + ((c / 2 : Nat) : Int)
/-- a row: each end that is there, once -/
def RW (T : Nat → Bool) (f : Nat → Nat) (u : Nat) : Prop := u ≤ 24 ∧ (∀ p, p < u → f p < 24 ∧ T (f p / 2) = true) ∧ (∀ p q, p < q → q < u → f p ≠ f q) ∧ (∀ c, c < 24 → T (c / 2) = true → ∃ p, p < u ∧ f p = c)
def VR (V : Nat → Nat → Int) : Prop := ∀ ax, ax < 3 → ∀ c, c < 24 → -999 ≤ V ax c ∧ V ax c ≤ 999
def VL (T : Nat → Bool) (V : Nat → Nat → Int) : Prop := ∀ ax, ax < 3 → ∀ b, b < 12 → T b = true → V ax (2 * b) < V ax (2 * b + 1)
def FS (tc : Bool) (V : Nat → Nat → Int) (F : Nat → Nat → Nat) (u : Nat) : Prop := ∀ ax, ax < 3 → ∀ p q, p < q → q < u → ky tc V ax (F ax p) < ky tc V ax (F ax q)
def MK (T : Nat → Bool) (tc : Bool) (V : Nat → Nat → Int) (M : Nat → Nat → Nat → Bool) : Prop := ∀ ax, ax < 3 → ∀ a, a < 12 → ∀ b, b < 12 → M ax a b = (decide (a ≠ b) && T a && T b && decide (ky tc V ax (2 * a) < ky tc V ax (2 * b + 1)) && decide (ky tc V ax (2 * b) < ky tc V ax (2 * a + 1)))
/-- the ledgers agree -/
def RG (σ τ : bx_St) : Prop := τ.1 0 11 = σ.1 5 2 ∧ τ.1 0 8 = σ.1 5 2 + σ.1 5 3 ∧ τ.1 0 12 = σ.1 5 4 ∧ τ.1 0 14 = σ.1 5 5 ∧ τ.1 0 15 = σ.1 5 6 ∧ τ.1 0 16 = σ.1 5 7 ∧ τ.1 0 17 = σ.1 5 8 ∧ τ.1 0 18 = σ.1 5 9 ∧ (∀ i, i < 3 → τ.1 7 i = σ.1 7 i) ∧
  ∃ E, E ≤ 66 ∧ τ.1 0 8 = nI E ∧ ∀ i, i < E → ∃ (c : Nat) (b : Bool), c < 144 ∧ τ.1 5 i = nI c ∧ τ.1 6 i = bI b ∧ σ.1 6 i = nI (2 * c + (if b then 1 else 0))
/-- the pages agree -/
def RP (σ τ : bx_St) : Prop := (∃ n, (n ≤ 60 ∧ ∀ i, i < n → ¬ σ.1 3 i = 0) ∧ σ.1 2 1 = nI n ∧ τ.1 0 0 = nI n) ∧ ∀ i, σ.1 3 i = τ.1 1 i
/-- class and reference at rest -/
def RA (σ τ : bx_St) (T : Nat → Bool) (tc : Bool) (V : Nat → Nat → Int) (F : Nat → Nat → Nat) (u : Nat) (M : Nat → Nat → Nat → Bool) : Prop :=
  (XB σ T tc ∧ XK σ tc ∧ XV σ V ∧ XF σ F u ∧ XM σ M ∧ XO σ (ov M)) ∧ (MB τ T tc ∧ MV τ V ∧ MF τ F u ∧ MM τ M) ∧ (VR V ∧ VL T V ∧ (∀ ax, ax < 3 → RW T (F ax) u) ∧ FS tc V F u ∧ MK T tc V M)
def bx_R (σ τ : bx_St) : Prop := (∃ T tc V F u M, RA σ τ T tc V F u M) ∧ RG σ τ ∧ RP σ τ
/-- what lies elsewhere stays -/
theorem RA.keep {σ τ σ' τ' : bx_St} {T : Nat → Bool} {tc : Bool} {V : Nat → Nat → Int} {F : Nat → Nat → Nat} {u : Nat} {M : Nat → Nat → Nat → Bool} (h : RA σ τ T tc V F u M) (hx : ∀ k, k = 0 ∨ k = 1 ∨ 8 ≤ k → ∀ i, σ'.1 k i = σ.1 k i) (h0 : ∀ i, i = 2 ∨ i = 3 ∨ i = 5 → τ'.1 0 i = τ.1 0 i) (hm : ∀ k, k = 2 ∨ k = 3 ∨ k = 4 → ∀ i, τ'.1 k i = τ.1 k i) : RA σ' τ' T tc V F u M := by
  obtain ⟨⟨a1, a2, a3, a4, a5, a6⟩, ⟨b1, b2, b3, b4⟩, c⟩ := h
  refine ⟨⟨?_, ?_, ?_, ?_, ?_, ?_⟩, ⟨?_, ?_, ?_, ?_⟩, c⟩
  · exact ⟨by rw [hx 0 (by omega)]; exact a1.1, by rw [hx 0 (by omega)]; exact a1.2⟩
  · intro ax h; rw [hx _ (by omega)]; exact a2 ax h
  · intro ax h b hb; rw [hx _ (by omega), hx _ (by omega)]; exact a3 ax h b hb
  · intro ax h
    refine ⟨by rw [hx _ (by omega)]; exact (a4 ax h).1, fun p hp => by rw [hx _ (by omega)]; exact (a4 ax h).2 p hp⟩
  · intro ax h a ha; rw [hx _ (by omega)]; exact a5 ax h a ha
  · intro a ha; rw [hx _ (by omega)]; exact a6 a ha
  · exact ⟨by rw [h0 _ (by omega)]; exact b1.1, by rw [h0 _ (by omega)]; exact b1.2⟩
  · intro ax h b hb i hi; rw [hm _ (by omega)]; exact b2 ax h b hb i hi
  · exact ⟨by rw [h0 _ (by omega)]; exact b3.1, fun ax h p hp => by rw [hm _ (by omega)]; exact b3.2 ax h p hp⟩
  · intro a ha b hb; rw [hm _ (by omega)]; exact b4 a ha b hb
theorem RG.keep {σ τ σ' τ' : bx_St} (h : RG σ τ) (hx : ∀ k, 5 ≤ k → k ≤ 7 → ∀ i, σ'.1 k i = σ.1 k i) (h0 : ∀ i, i = 8 ∨ i = 11 ∨ i = 12 ∨ (14 ≤ i ∧ i ≤ 18) → τ'.1 0 i = τ.1 0 i) (hm : ∀ k, 5 ≤ k → k ≤ 7 → ∀ i, τ'.1 k i = τ.1 k i) : RG σ' τ' := by
  obtain ⟨a1, a2, a3, a4, a5, a6, a7, a8, a9, E, e1, e2, e3⟩ := h
  refine ⟨?_, ?_, ?_, ?_, ?_, ?_, ?_, ?_, ?_, E, e1, ?_, ?_⟩
  all_goals first | (rw [h0 _ (by omega), hx 5 (by omega) (by omega)]; assumption) | skip
  · rw [h0 _ (by omega), hx 5 (by omega) (by omega), hx 5 (by omega) (by omega)]; exact a2
  · intro i hi; rw [hm 7 (by omega) (by omega), hx 7 (by omega) (by omega)]; exact a9 i hi
  · rw [h0 _ (by omega)]; exact e2
  · intro i hi; rw [hm 5 (by omega) (by omega), hm 6 (by omega) (by omega), hx 6 (by omega) (by omega)]; exact e3 i hi
theorem RP.keep {σ τ σ' τ' : bx_St} (h : RP σ τ) (h2 : σ'.1 2 1 = σ.1 2 1) (h3 : ∀ i, σ'.1 3 i = σ.1 3 i) (h0 : τ'.1 0 0 = τ.1 0 0) (h1 : ∀ i, τ'.1 1 i = τ.1 1 i) : RP σ' τ' := by
  obtain ⟨⟨n, a1, a2, a3⟩, a4⟩ := h
  exact ⟨⟨n, ⟨a1.1, fun i hi => by rw [h3]; exact a1.2 i hi⟩, by rw [h2]; exact a2, by rw [h0]; exact a3⟩, fun i => by rw [h3, h1]; exact a4 i⟩
/-! at the start -/
theorem iv_0 : (0 : Int32) = iv 0 := by decide
theorem nI_00 : (0 : Int32) = nI 0 := rfl
theorem R_start : bx_R (fun _ _ => 0, 0) (fun _ _ => 0, 0) := by
  refine ⟨⟨fun _ => false, false, fun _ _ => 0, fun _ _ => 0, 0, fun _ _ _ => false, ⟨⟨?_, ?_⟩, ?_, ?_, ?_, ?_, ?_⟩, ⟨⟨?_, ?_⟩, ?_, ?_, ?_⟩, ⟨?_, ?_, ?_, ?_, ?_⟩⟩, ?_, ?_⟩
  · exact bm_0.symm
  · rfl
  · intro _ _; rfl
  · intro _ _ _ _; exact ⟨iv_0, iv_0⟩
  · intro _ _; exact ⟨nI_00, fun _ _ => nI_00⟩
  · intro _ _ _ _; exact bm_0.symm
  · intro _ _; exact bm_0.symm
  · exact bm_0.symm
  · rfl
  · intro _ _ _ _ _ _; exact iv_0
  · exact ⟨nI_00, fun _ _ _ _ => nI_00⟩
  · intro _ _ _ _
    show (0 : Int32) = bm (fun ax => decide (ax < 3) && false)
    rw [bm_cong (g := fun _ => false) (fun i _ => Bool.and_false _)]
    exact bm_0.symm
  · intro _ _ _ _; exact ⟨(by decide : (-999 : Int) ≤ 0), (by decide : (0 : Int) ≤ 999)⟩
  · intro _ _ _ _ h; cases h
  · intro _ _
    exact ⟨by omega, fun p h => absurd h (Nat.not_lt_zero p), fun p q _ h => absurd h (Nat.not_lt_zero q), fun c _ h => by cases h⟩
  · intro _ _ p q _ h; exact absurd h (Nat.not_lt_zero q)
  · intro _ _ a _ b _; simp
  · exact ⟨rfl, by decide, rfl, rfl, rfl, rfl, rfl, rfl, fun _ _ => rfl, 0, by omega, by decide, fun i h => absurd h (Nat.not_lt_zero i)⟩
  · exact ⟨⟨0, ⟨by omega, fun i h => absurd h (Nat.not_lt_zero i)⟩, by decide, by decide⟩, fun _ => rfl⟩
