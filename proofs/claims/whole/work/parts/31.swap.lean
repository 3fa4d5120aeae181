/-! ends swapped side by side: what is meant by places -/
def mpa (T : Nat → Bool) (P : Nat → Nat) (a b : Nat) : Bool := decide (a ≠ b) && T a && T b && decide (P (2 * a) < P (2 * b + 1)) && decide (P (2 * b) < P (2 * a + 1))
def mp (T : Nat → Bool) (P : Nat → Nat → Nat) (ax a b : Nat) : Bool := mpa T (P ax) a b
def RWP (T : Nat → Bool) (f : Nat → Nat) (u : Nat) (P : Nat → Nat) : Prop := u ≤ 24 ∧ (∀ i, i < u → f i < 24 ∧ T (f i / 2) = true ∧ P (f i) = i) ∧ (∀ z, z < 24 → T (z / 2) = true → P z < u ∧ f (P z) = z)
def OWN (T : Nat → Bool) (P : Nat → Nat) : Prop := ∀ b, b < 12 → T b = true → P (2 * b) < P (2 * b + 1)
def swF (f : Nat → Nat) (p i : Nat) : Nat := if i = p then f (p + 1) else if i = p + 1 then f p else f i
def swP (f : Nat → Nat) (p : Nat) (P : Nat → Nat) (z : Nat) : Nat := if z = f p then p + 1 else if z = f (p + 1) then p else P z
theorem RWP.ne {T : Nat → Bool} {f : Nat → Nat} {u : Nat} {P : Nat → Nat} (h : RWP T f u P) {i j : Nat} (hi : i < u) (hj : j < u) (hne : i ≠ j) : f i ≠ f j := fun e => by
  have h1 := (h.2.1 i hi).2.2
  have h2 := (h.2.1 j hj).2.2
  rw [e, h2] at h1
  exact hne h1.symm
theorem swap_lt {T : Nat → Bool} {f : Nat → Nat} {u : Nat} {P : Nat → Nat} (h : RWP T f u P) {p : Nat} (hp : p + 1 < u) {z w : Nat} (hz : z < 24) (hTz : T (z / 2) = true) (hw : w < 24) (hTw : T (w / 2) = true) (n1 : ¬ (z = f p ∧ w = f (p + 1))) (n2 : ¬ (z = f (p + 1) ∧ w = f p)) : (swP f p P z < swP f p P w) ↔ (P z < P w) := by
  have hne : f p ≠ f (p + 1) := h.ne (by omega) hp (by omega)
  have ep : P (f p) = p := (h.2.1 p (by omega)).2.2
  have eq : P (f (p + 1)) = p + 1 := (h.2.1 (p + 1) hp).2.2
  have z1 : z ≠ f p → P z ≠ p := fun g e => g (by rw [← e, (h.2.2 z hz hTz).2])
  have z2 : z ≠ f (p + 1) → P z ≠ p + 1 := fun g e => g (by rw [← e, (h.2.2 z hz hTz).2])
  have w1 : w ≠ f p → P w ≠ p := fun g e => g (by rw [← e, (h.2.2 w hw hTw).2])
  have w2 : w ≠ f (p + 1) → P w ≠ p + 1 := fun g e => g (by rw [← e, (h.2.2 w hw hTw).2])
  unfold swP
  by_cases a1 : z = f p
  · have pz : P z = p := by rw [a1, ep]
    by_cases b1 : w = f p
    · rw [if_pos a1, if_pos b1, a1, b1]; omega
    · have b2 : w ≠ f (p + 1) := fun g => n1 ⟨a1, g⟩
      have := w1 b1
      have := w2 b2
      rw [if_pos a1, if_neg b1, if_neg b2]; omega
  · by_cases a2 : z = f (p + 1)
    · have pz : P z = p + 1 := by rw [a2, eq]
      by_cases b1 : w = f p
      · exact absurd ⟨a2, b1⟩ n2
      · by_cases b2 : w = f (p + 1)
        · rw [if_neg a1, if_pos a2, if_neg b1, if_pos b2, a2, b2]; omega
        · have := w1 b1
          have := w2 b2
          rw [if_neg a1, if_pos a2, if_neg b1, if_neg b2]; omega
    · have := z1 a1
      have := z2 a2
      by_cases b1 : w = f p
      · have pw : P w = p := by rw [b1, ep]
        rw [if_neg a1, if_neg a2, if_pos b1]; omega
      · by_cases b2 : w = f (p + 1)
        · have pw : P w = p + 1 := by rw [b2, eq]
          rw [if_neg a1, if_neg a2, if_neg b1, if_pos b2]; omega
        · rw [if_neg a1, if_neg a2, if_neg b1, if_neg b2]
theorem swap_RWP {T : Nat → Bool} {f : Nat → Nat} {u : Nat} {P : Nat → Nat} (h : RWP T f u P) {p : Nat} (hp : p + 1 < u) : RWP T (swF f p) u (swP f p P) := by
  have hne : f p ≠ f (p + 1) := h.ne (by omega) hp (by omega)
  refine ⟨h.1, fun i hi => ?_, fun z hz hT => ?_⟩
  · unfold swF
    by_cases a1 : i = p
    · rw [if_pos a1]
      have := h.2.1 (p + 1) hp
      refine ⟨this.1, this.2.1, ?_⟩
      rw [swP, if_neg hne.symm, if_pos rfl, a1]
    · by_cases a2 : i = p + 1
      · rw [if_neg a1, if_pos a2]
        have := h.2.1 p (by omega)
        exact ⟨this.1, this.2.1, by rw [swP, if_pos rfl, a2]⟩
      · rw [if_neg a1, if_neg a2]
        have := h.2.1 i hi
        refine ⟨this.1, this.2.1, ?_⟩
        rw [swP, if_neg (h.ne hi (by omega) a1), if_neg (h.ne hi hp a2), this.2.2]
  · have hh := h.2.2 z hz hT
    unfold swP
    by_cases a1 : z = f p
    · rw [if_pos a1]
      exact ⟨hp, by rw [swF, if_neg (by omega), if_pos rfl, a1]⟩
    · by_cases a2 : z = f (p + 1)
      · rw [if_neg a1, if_pos a2]
        exact ⟨by omega, by rw [swF, if_pos rfl, a2]⟩
      · rw [if_neg a1, if_neg a2]
        refine ⟨hh.1, ?_⟩
        have q1 : P z ≠ p := fun g => a1 (by rw [← g, hh.2])
        have q2 : P z ≠ p + 1 := fun g => a2 (by rw [← g, hh.2])
        rw [swF, if_neg q1, if_neg q2, hh.2]
theorem swap_OWN {T : Nat → Bool} {f : Nat → Nat} {u : Nat} {P : Nat → Nat} (h : RWP T f u P) (ho : OWN T P) {p : Nat} (hp : p + 1 < u) (hb : f p / 2 ≠ f (p + 1) / 2) : OWN T (swP f p P) := fun b hb12 hT =>
  (swap_lt h hp (by omega) (by rw [show 2 * b / 2 = b by omega]; exact hT) (by omega) (by rw [show (2 * b + 1) / 2 = b by omega]; exact hT) (fun q => by omega) (fun q => by omega)).mpr (ho b hb12 hT)
theorem mpa_sym (T : Nat → Bool) (P : Nat → Nat) (a b : Nat) : mpa T P a b = mpa T P b a := by
  unfold mpa
  rw [show decide (a ≠ b) = decide (b ≠ a) from decide_eq_decide.mpr ⟨Ne.symm, Ne.symm⟩]
  cases decide (b ≠ a) <;> cases T a <;> cases T b <;> simp [Bool.and_comm]
theorem mpa_keep {T : Nat → Bool} {f : Nat → Nat} {u : Nat} {P : Nat → Nat} (h : RWP T f u P) {p : Nat} (hp : p + 1 < u) {a b : Nat} (ha : a < 12) (hb : b < 12) (n1 : ∀ A B, ((A = a ∧ B = b) ∨ (A = b ∧ B = a)) → ¬ (2 * A = f p ∧ 2 * B + 1 = f (p + 1)) ∧ ¬ (2 * A = f (p + 1) ∧ 2 * B + 1 = f p)) : mpa T (swP f p P) a b = mpa T P a b := by
  unfold mpa
  cases hTa : T a with
  | false => simp
  | true =>
    cases hTb : T b with
    | false => simp
    | true =>
      have l : ∀ c, (2 * c) / 2 = c := fun c => by omega
      have l1 : ∀ c, (2 * c + 1) / 2 = c := fun c => by omega
      have e1 := swap_lt h hp (z := 2 * a) (w := 2 * b + 1) (by omega) (by rw [l]; exact hTa) (by omega) (by rw [l1]; exact hTb) (n1 a b (Or.inl ⟨rfl, rfl⟩)).1 (n1 a b (Or.inl ⟨rfl, rfl⟩)).2
      have e2 := swap_lt h hp (z := 2 * b) (w := 2 * a + 1) (by omega) (by rw [l]; exact hTb) (by omega) (by rw [l1]; exact hTa) (n1 b a (Or.inr ⟨rfl, rfl⟩)).1 (n1 b a (Or.inr ⟨rfl, rfl⟩)).2
      rw [decide_eq_decide.mpr e1, decide_eq_decide.mpr e2]
theorem mpa_same {T : Nat → Bool} {f : Nat → Nat} {u : Nat} {P : Nat → Nat} (h : RWP T f u P) {p : Nat} (hp : p + 1 < u) (hk : f p % 2 = f (p + 1) % 2) {a b : Nat} (ha : a < 12) (hb : b < 12) : mpa T (swP f p P) a b = mpa T P a b := mpa_keep h hp ha hb (fun A B _ => ⟨fun q => by omega, fun q => by omega⟩)
theorem mpa_else {T : Nat → Bool} {f : Nat → Nat} {u : Nat} {P : Nat → Nat} (h : RWP T f u P) {p : Nat} (hp : p + 1 < u) {a b : Nat} (ha : a < 12) (hb : b < 12) (n1 : ¬ (a = f p / 2 ∧ b = f (p + 1) / 2)) (n2 : ¬ (b = f p / 2 ∧ a = f (p + 1) / 2)) : mpa T (swP f p P) a b = mpa T P a b := mpa_keep h hp ha hb (fun A B g => ⟨fun q => by omega, fun q => by omega⟩)
/-- before the swap: they meet if the low is the first of the two; behind it the other way round -/
theorem mpa_two {T : Nat → Bool} {f : Nat → Nat} {u : Nat} {P : Nat → Nat} (h : RWP T f u P) (ho : OWN T P) {p : Nat} (hp : p + 1 < u) (hk : f p % 2 ≠ f (p + 1) % 2) (hb : f p / 2 ≠ f (p + 1) / 2) : mpa T P (f p / 2) (f (p + 1) / 2) = decide (f p % 2 = 0) ∧ mpa T (swP f p P) (f p / 2) (f (p + 1) / 2) = decide (f (p + 1) % 2 = 0) := by
  have ho' := swap_OWN h ho hp hb
  have h' := swap_RWP h hp
  obtain ⟨x1, x2, x3⟩ := h.2.1 p (by omega)
  obtain ⟨y1, y2, y3⟩ := h.2.1 (p + 1) hp
  have sx : swP f p P (f p) = p + 1 := by rw [swP, if_pos rfl]
  have sy : swP f p P (f (p + 1)) = p := by rw [swP, if_neg (by omega), if_pos rfl]
  have key : ∀ (g : Nat → Nat) (Q : Nat → Nat), RWP T g u Q → OWN T Q → ∀ x y, x < 24 → y < 24 → T (x / 2) = true → T (y / 2) = true → x / 2 ≠ y / 2 → x % 2 ≠ y % 2 → Q y = Q x + 1 → mpa T Q (x / 2) (y / 2) = decide (x % 2 = 0) := by
    intro g Q hg hq x y hx hy tx ty hne hkk hQ
    have ox := hq (x / 2) (by omega) tx
    have oy := hq (y / 2) (by omega) ty
    have inj : ∀ z w, z < 24 → w < 24 → T (z / 2) = true → T (w / 2) = true → z ≠ w → Q z ≠ Q w := fun z w hz hw tz tw hn e => hn (by rw [← (hg.2.2 z hz tz).2, ← (hg.2.2 w hw tw).2, e])
    unfold mpa
    rw [decide_eq_true hne, tx, ty, Bool.true_and, Bool.true_and, Bool.true_and]
    rcases (by omega : x % 2 = 0 ∨ x % 2 = 1) with k | k
    · have ex : 2 * (x / 2) = x := by omega
      have ey : 2 * (y / 2) + 1 = y := by omega
      have i1 := inj (2 * (y / 2)) x (by omega) hx (by rw [show 2 * (y / 2) / 2 = y / 2 by omega]; exact ty) tx (by omega)
      rw [ex] at ox
      rw [ey] at oy
      rw [ex, ey, decide_eq_true k, decide_eq_true (by omega : Q x < Q y), decide_eq_true (by omega : Q (2 * (y / 2)) < Q (x + 1))]
      rfl
    · have ex : 2 * (x / 2) + 1 = x := by omega
      have ey : 2 * (y / 2) = y := by omega
      rw [decide_eq_false (by omega : ¬ x % 2 = 0), ex, ey, decide_eq_false (by omega : ¬ Q y < Q x), Bool.and_false]
  refine ⟨key f P h ho (f p) (f (p + 1)) x1 y1 x2 y2 hb hk (by omega), ?_⟩
  rw [mpa_sym]
  exact key _ _ h' ho' (f (p + 1)) (f p) y1 x1 y2 x2 (Ne.symm hb) (Ne.symm hk) (by omega)
/-! how far two sets of pairs are apart -/
theorem pc_cong {D D' : Nat → Nat → Bool} (h : ∀ a b, a < 12 → b < 12 → D a b = D' a b) : fb_ct (pc D) 144 = fb_ct (pc D') 144 := fb_ct_cong (fun k hk => by unfold pc; rw [h _ _ (by omega) (by omega)])
theorem pc_step {D D' : Nat → Nat → Bool} {A B : Nat} (hA : A < 12) (hB : B < 12) (hne : A ≠ B) (h : ∀ a b, a < 12 → b < 12 → ¬ (a = A ∧ b = B) → ¬ (a = B ∧ b = A) → D' a b = D a b) : fb_ct (pc D') 144 ≤ fb_ct (pc D) 144 + 1 := by
  have go : ∀ A B, A < 12 → B < 12 → A < B → (∀ a b, a < 12 → b < 12 → ¬ (a = A ∧ b = B) → ¬ (a = B ∧ b = A) → D' a b = D a b) → fb_ct (pc D') 144 ≤ fb_ct (pc D) 144 + 1 := by
    intro A B hA hB hlt h
    have u := fb_ct_upd (pc D) true (show 12 * A + B < 144 by omega)
    have s : fb_ct (pc D') 144 ≤ fb_ct (fun k => if k = 12 * A + B then true else pc D k) 144 := fb_ct_sub (fun k hk q => by
      show (if k = 12 * A + B then true else pc D k) = true
      by_cases e : k = 12 * A + B
      · rw [if_pos e]
      · rw [if_neg e]
        unfold pc at q ⊢
        have q2 := Bool.and_eq_true_iff.mp q
        have lt := of_decide_eq_true q2.1
        rw [h _ _ (by omega) (by omega) (fun g => e (by omega)) (fun g => by omega)] at q
        exact q)
    have : (if true = true then 1 else 0) = 1 := rfl
    rw [this] at u
    omega
  rcases Nat.lt_or_gt_of_ne hne with q | q
  · exact go A B hA hB q h
  · exact go B A hB hA q (fun a b ha hb n1 n2 => h a b ha hb n2 n1)
