/-! masks of 12 bits, small numbers -/
def bm_N (f : Nat → Bool) : Nat → Nat
  | 0 => 0
  | n + 1 => bm_N f n + (if f n then 2 ^ n else 0)
def bm (f : Nat → Bool) : Int32 := nI (bm_N f 12)
def bI (b : Bool) : Int32 := if b then 1 else 0
def iv (z : Int) : Int32 := Int32.ofInt z
theorem bm_N_lt (f : Nat → Bool) : ∀ n, bm_N f n < 2 ^ n := by
  intro n
  induction n with
  | zero => exact Nat.one_pos
  | succ n ih =>
    rw [bm_N, Nat.pow_succ]
    split <;> omega
theorem bm_N_tb (f : Nat → Bool) (i : Nat) : ∀ n, (bm_N f n).testBit i = (decide (i < n) && f i) := by
  intro n
  induction n with
  | zero => simp [bm_N]
  | succ n ih =>
    rw [bm_N]
    have hl := bm_N_lt f n
    by_cases hf : f n = true
    · rw [if_pos hf, Nat.add_comm]
      rcases Nat.lt_trichotomy i n with h | h | h
      · rw [Nat.testBit_two_pow_add_gt h, ih, decide_eq_true h, decide_eq_true (by omega : i < n + 1)]
      · subst h
        rw [Nat.testBit_two_pow_add_eq, ih, decide_eq_false (Nat.lt_irrefl i), decide_eq_true (by omega : i < i + 1), hf]
        rfl
      · have h2 : 2 ^ n + bm_N f n < 2 ^ i := by
          have := Nat.pow_le_pow_right (n := 2) (by omega) h
          rw [Nat.pow_succ] at this
          omega
        rw [Nat.testBit_lt_two_pow h2, decide_eq_false (by omega : ¬ i < n + 1)]
        rfl
    · rw [if_neg hf, Nat.add_zero, ih]
      rcases Nat.lt_trichotomy i n with h | h | h
      · rw [decide_eq_true h, decide_eq_true (by omega : i < n + 1)]
      · subst h
        have hf2 : f i = false := by cases h : f i <;> simp_all
        rw [hf2]
        simp
      · rw [decide_eq_false (by omega : ¬ i < n), decide_eq_false (by omega : ¬ i < n + 1)]
theorem nI_bt (n i : Nat) (hi : i < 32) : bt (nI n) i = n.testBit i := by
  unfold bt nI
  show (BitVec.ofNat 32 n).getLsbD i = _
  rw [BitVec.getLsbD_ofNat]
  simp [hi]
theorem bm_bt (f : Nat → Bool) (i : Nat) : bt (bm f) i = (decide (i < 12) && f i) := by
  rcases Nat.lt_or_ge i 32 with h | h
  · rw [bm, nI_bt _ _ h, bm_N_tb]
  · rw [b_big h, decide_eq_false (by omega : ¬ i < 12)]
    rfl
theorem b_1 (i : Nat) : bt 1 i = decide (i = 0) := by
  rcases Nat.lt_or_ge i 32 with h | h
  · exact (by decide +kernel : ∀ i, i < 32 → bt 1 i = decide (i = 0)) i h
  · rw [b_big h, decide_eq_false (by omega)]
theorem bit_bt {k : Nat} (hk : k < 32) (i : Nat) : bt (mX3_bit (nI k)) i = decide (i = k) := by
  rcases Nat.lt_or_ge i 32 with h | h
  · rw [mX3_bit, b_shl k hk 1 h, b_1]
    by_cases e : i = k
    · subst e; simp
    · rw [decide_eq_false e]
      by_cases e2 : k ≤ i
      · rw [decide_eq_true e2, decide_eq_false (by omega)]
        rfl
      · rw [decide_eq_false e2]
        rfl
  · rw [b_big h, decide_eq_false (by omega)]
theorem bz_iff (x : Int32) : x = 0 ↔ ∀ i, i < 32 → bt x i = false := by
  constructor
  · intro h i _
    rw [h, b_0]
  · intro h
    exact b_ext (fun i hi => by rw [h i hi, b_0])
theorem hold_bt (x : Int32) {k : Nat} (hk : k < 32) : mX3_holds x (nI k) = bI (bt x k) := by
  unfold mX3_holds bI
  by_cases h : bt x k = true
  · rw [if_neg, if_pos h]
    intro h2
    have := (bz_iff _).mp h2 k hk
    rw [b_and, bit_bt hk, h] at this
    simp at this
  · rw [if_pos, if_neg h]
    refine (bz_iff _).mpr (fun i hi => ?_)
    rw [b_and, bit_bt hk]
    by_cases e : i = k
    · subst e
      have : bt x i = false := by cases h2 : bt x i <;> simp_all
      rw [this]; rfl
    · rw [decide_eq_false e]; simp
theorem has_bt (x : Int32) {k : Nat} (hk : k < 31) : mX4_has x (nI k) = bI (bt x k) := by
  unfold mX4_has bI
  have key : ∀ i, i < 32 → bt ((x >>> (nI k &&& 31)) &&& (1 : Int32)) i = (decide (i = 0) && bt x k) := by
    intro i hi
    rw [b_and, b_1, b_sshr k (by omega) x hi]
    by_cases e : i = 0
    · subst e
      rw [if_pos (by omega)]
      simp
    · rw [decide_eq_false e]
      simp
  by_cases h : bt x k = true
  · rw [if_pos h, if_pos]
    refine b_ext (fun i hi => ?_)
    rw [key i hi, b_1, h, Bool.and_true]
  · have h2 : bt x k = false := by cases h2 : bt x k <;> simp_all
    rw [if_neg h, if_neg]
    intro h3
    have := key 0 (by omega)
    rw [h3, h2, b_1] at this
    simp at this
theorem bI_z (b : Bool) : (bI b = 0) ↔ b = false := by cases b <;> decide
theorem bI_o (b : Bool) : (bI b = 1) ↔ b = true := by cases b <;> decide
theorem bI_bo (b : Bool) : bx_bo (bI b) := by cases b <;> decide
theorem bI_inj {a b : Bool} : bI a = bI b ↔ a = b := by cases a <;> cases b <;> decide
theorem bm_or {f : Nat → Bool} {k : Nat} (hk : k < 12) : bm f ||| mX3_bit (nI k) = bm (fun i => f i || decide (i = k)) := by
  refine b_ext (fun i hi => ?_)
  rw [b_or, bm_bt, bm_bt, bit_bt (by omega)]
  by_cases h : i < 12
  · rw [decide_eq_true h]; simp
  · rw [decide_eq_false h, decide_eq_false (by omega : ¬ i = k)]; simp
theorem bm_xor {f : Nat → Bool} {k : Nat} (hk : k < 12) : bm f ^^^ mX3_bit (nI k) = bm (fun i => if i = k then !f i else f i) := by
  refine b_ext (fun i hi => ?_)
  rw [b_xor, bm_bt, bm_bt, bit_bt (by omega)]
  by_cases h : i < 12
  · rw [decide_eq_true h]
    by_cases e : i = k <;> simp [e]
  · rw [decide_eq_false h, decide_eq_false (by omega : ¬ i = k)]; simp
theorem bm_orm (f g : Nat → Bool) : bm f ||| bm g = bm (fun i => f i || g i) := by
  refine b_ext (fun i hi => ?_)
  rw [b_or, bm_bt, bm_bt, bm_bt]
  cases decide (i < 12) <;> simp
theorem bm_andm (f g : Nat → Bool) : bm f &&& bm g = bm (fun i => f i && g i) := by
  refine b_ext (fun i hi => ?_)
  rw [b_and, bm_bt, bm_bt, bm_bt]
  cases decide (i < 12) <;> simp
theorem bm_xorm (f g : Nat → Bool) : bm f ^^^ bm g = bm (fun i => f i ^^ g i) := by
  refine b_ext (fun i hi => ?_)
  rw [b_xor, bm_bt, bm_bt, bm_bt]
  cases decide (i < 12) <;> simp
theorem bm_andn (f g : Nat → Bool) : bm f &&& (bm g ^^^ (-1 : Int32)) = bm (fun i => f i && !g i) := by
  refine b_ext (fun i hi => ?_)
  rw [b_and, b_xor, bm_bt, bm_bt, bm_bt, b_m1 i hi]
  cases decide (i < 12) <;> simp
theorem bm_cong {f g : Nat → Bool} (h : ∀ i, i < 12 → f i = g i) : bm f = bm g := by
  refine b_ext (fun i hi => ?_)
  rw [bm_bt, bm_bt]
  by_cases h2 : i < 12
  · rw [h i h2]
  · rw [decide_eq_false h2]; rfl
theorem bm_inj {f g : Nat → Bool} (h : bm f = bm g) : ∀ i, i < 12 → f i = g i := by
  intro i hi
  have h2 := congrArg (fun x => bt x i) h
  simp only [bm_bt, decide_eq_true hi, Bool.true_and] at h2
  exact h2
theorem bm_0 : bm (fun _ => false) = 0 := by decide +kernel
theorem hold_bm (f : Nat → Bool) {k : Nat} (hk : k < 12) : mX3_holds (bm f) (nI k) = bI (f k) := by
  rw [hold_bt _ (by omega), bm_bt, decide_eq_true hk, Bool.true_and]
theorem has_bm (f : Nat → Bool) {k : Nat} (hk : k < 12) : mX4_has (bm f) (nI k) = bI (f k) := by
  rw [has_bt _ (by omega), bm_bt, decide_eq_true hk, Bool.true_and]
/-- an int whose bits lie among the lower twelve -/
theorem bm_of {x : Int32} (h : ∀ i, i < 32 → 12 ≤ i → bt x i = false) : x = bm (bt x) := by
  refine b_ext (fun i hi => ?_)
  rw [bm_bt]
  by_cases h2 : i < 12
  · rw [decide_eq_true h2]; rfl
  · rw [decide_eq_false h2, h i hi (by omega)]; rfl
theorem up_get (σ : bx_St) (k i k' j : Nat) (v : Int32) : (bx_up σ k i v).1 k' j = if k' = k then (if j = i then v else σ.1 k j) else σ.1 k' j := by
  show (if k' = k then upd (σ.1 k) i v else σ.1 k') j = _
  by_cases h : k' = k
  · rw [if_pos h, if_pos h]; rfl
  · rw [if_neg h, if_neg h]
theorem up_ne {σ : bx_St} {k i k' : Nat} {v : Int32} (h : k' ≠ k) : (bx_up σ k i v).1 k' = σ.1 k' := if_neg h
theorem up_eq {σ : bx_St} {k i : Nat} {v : Int32} : (bx_up σ k i v).1 k = upd (σ.1 k) i v := if_pos rfl
theorem up_2 {σ : bx_St} {k i : Nat} {v : Int32} : (bx_up σ k i v).2 = σ.2 := rfl
theorem ok_nI {i N : Nat} (h : i < N) (hN : N < 2 ^ 31) : bx_ok (nI i) N := nI_in h hN
theorem cl_nI {i : Nat} (h : i < 2 ^ 31) : (nI i).toNatClampNeg = i := nI_clamp h
theorem iv_toInt {z : Int} (h1 : -2147483648 ≤ z) (h2 : z < 2147483648) : (iv z).toInt = z := by
  unfold iv
  rw [Int32.toInt_ofInt, fb_bmod h1 h2]
theorem lineOf_eq : ∀ ax, ax < 3 → mX3_lineOf (nI ax) = 8 + 5 * ax := by decide
theorem isL_ax {ax : Nat} (h : ax < 3) : bx_isL (8 + 5 * ax) := by
  rcases (by omega : ax = 0 ∨ ax = 1 ∨ ax = 2) with rfl | rfl | rfl
  · exact Or.inl rfl
  · exact Or.inr (Or.inl rfl)
  · exact Or.inr (Or.inr rfl)
