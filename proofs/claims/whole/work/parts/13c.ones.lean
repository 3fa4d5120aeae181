theorem nI_b1 {k : Nat} (hk : k < 31) (x : Int32) : (x >>> (nI k &&& 31)) &&& (1 : Int32) = bI (bt x k) := by
  refine b_ext (fun i hi => ?_)
  rw [b_and, b_1, b_sshr k (by omega) x hi]
  by_cases e : i = 0
  · subst e
    rw [if_pos (by omega)]
    unfold bI
    cases bt x (k + 0) <;> simp [b_1, b_0]
  · rw [decide_eq_false e]
    unfold bI
    cases bt x k <;> simp [b_1, b_0, e]
theorem bI_nI (b : Bool) : bI b = nI (if b then 1 else 0) := by cases b <;> rfl
theorem n3 {i : Nat} (h : i < 3) : ¬ (3 : Int32) ≤ nI i := nI_ge (b := 3) h (by decide)
theorem n4 {i : Nat} (h : i < 4) : ¬ (4 : Int32) ≤ nI i := nI_ge (b := 4) h (by decide)
theorem n6 {i : Nat} (h : i < 6) : ¬ (6 : Int32) ≤ nI i := nI_ge (b := 6) h (by decide)
theorem n7 {i : Nat} (h : i < 7) : ¬ (7 : Int32) ≤ nI i := nI_ge (b := 7) h (by decide)
theorem n9 {i : Nat} (h : i < 9) : ¬ (9 : Int32) ≤ nI i := nI_ge (b := 9) h (by decide)
theorem n10 {i : Nat} (h : i < 10) : ¬ (10 : Int32) ≤ nI i := nI_ge (b := 10) h (by decide)
theorem n12 {i : Nat} (h : i < 12) : ¬ (12 : Int32) ≤ nI i := nI_ge (b := 12) h (by decide)
theorem n24 {i : Nat} (h : i < 24) : ¬ (24 : Int32) ≤ nI i := nI_ge (b := 24) h (by decide)
theorem n144 {i : Nat} (h : i < 144) : ¬ (144 : Int32) ≤ nI i := nI_ge (b := 144) h (by decide)
theorem n4096 {i : Nat} (h : i < 4096) : ¬ (4096 : Int32) ≤ nI i := nI_ge (b := 4096) h (by decide)
theorem g2 {i : Nat} (h : i ≤ 2) : ¬ (2 : Int32) < nI i := nI_nlt (a := 2) h (by decide)
theorem g3 {i : Nat} (h : i ≤ 3) : ¬ (3 : Int32) < nI i := nI_nlt (a := 3) h (by decide)
theorem g6 {i : Nat} (h : i ≤ 6) : ¬ (6 : Int32) < nI i := nI_nlt (a := 6) h (by decide)
theorem g8 {i : Nat} (h : i ≤ 8) : ¬ (8 : Int32) < nI i := nI_nlt (a := 8) h (by decide)
theorem g9 {i : Nat} (h : i ≤ 9) : ¬ (9 : Int32) < nI i := nI_nlt (a := 9) h (by decide)
theorem ones_loop (f : Nat → Bool) : ∀ (k n i c : Nat), i + k = 12 → k < n → mX4_ones_4 n (bm f) (nI c) (nI i) = some (nI (c + (fb_ct f 12 - fb_ct f i))) := by
  intro k
  induction k with
  | zero =>
    intro n i c hi hn
    obtain ⟨n, rfl⟩ : ∃ m, n = m + 1 := ⟨n - 1, by omega⟩
    have : i = 12 := by omega
    subst this
    rw [mX4_ones_4, if_pos (by decide)]
    simp
  | succ k ih =>
    intro n i c hi hn
    obtain ⟨n, rfl⟩ : ∃ m, n = m + 1 := ⟨n - 1, by omega⟩
    rw [mX4_ones_4, if_neg (n12 (by omega)), nI_b1 (by omega), bm_bt, decide_eq_true (by omega : i < 12), Bool.true_and, bI_nI, nI_add, nI_1]
    rw [ih n (i + 1) _ (by omega) (by omega), fb_ct_succ f i]
    have h1 := fb_ct_mono f (by omega : i + 1 ≤ 12)
    rw [fb_ct_succ f i] at h1
    congr 2
    omega
theorem ones_bm (f : Nat → Bool) : mX4_ones (bm f) = some (nI (fb_ct f 12)) := by
  have := ones_loop f 12 5000 0 0 rfl (by omega)
  rw [mX4_ones]
  exact this.trans (by simp [fb_ct])
theorem bc_bm (f : Nat → Bool) : mJ6_bitCount_0f7a4 (bm f) = nI (fb_ct f 12) := by
  have h1 := ones_bm f
  have h2 := ones_bc (n := bm_N f 12) (bm_N_lt f 12)
  exact Option.some.inj (h2.symm.trans h1)
