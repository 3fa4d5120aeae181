theorem ky_lh (tc : Bool) (V : Nat → Nat → Int) (ax : Nat) {a b : Nat} (ha : a < 12) (hb : b < 12) : ky tc V ax (2 * a) < ky tc V ax (2 * b + 1) ↔ V ax (2 * a) < V ax (2 * b + 1) + (if tc then 1 else 0) := by
  rw [ky_kz, ky_kz, kz_lt (by omega) (by omega), show (2 * a) % 2 = 0 by omega, show (2 * b + 1) % 2 = 1 by omega]
  cases tc <;> simp <;> omega
/-- the other axes on which two boxes meet -/
def oth (M : Nat → Nat → Nat → Bool) (ax b j : Nat) : Bool := (decide (ax = 0) || M 0 b j) && (decide (ax = 1) || M 1 b j) && (decide (ax = 2) || M 2 b j)
theorem x_others_n {σ : bx_St} {M : Nat → Nat → Nat → Bool} (h : XM σ M) {ax b : Nat} (ha : ax < 3) (hb : b < 12) (f : Nat → Bool) (n : Nat) : mX3_meetsOnOthers_8 (n + 1 + 1 + 1 + 1) (nI ax) (nI b) (bm f) 0 σ = some (bm (fun j => f j && oth M ax b j)) := by
  have h0 := h 0 (by omega) b hb
  have h1 := h 1 (by omega) b hb
  have h2 := h 2 (by omega) b hb
  have ok : bx_ok (nI b) 12 := ok_nI hb (by decide)
  have cl : (nI b).toNatClampNeg = b := cl_nI (by omega)
  have l0 : mX3_lineOf (0 : Int32) = 8 := by decide
  have l1 : mX3_lineOf ((0 : Int32) + 1) = 13 := by decide
  have l2 : mX3_lineOf ((0 : Int32) + 1 + 1) = 18 := by decide
  have c0 : ¬ (3 : Int32) ≤ 0 := by decide
  have c1 : ¬ (3 : Int32) ≤ 0 + 1 := by decide
  have c2 : ¬ (3 : Int32) ≤ 0 + 1 + 1 := by decide
  have c3 : (3 : Int32) ≤ 0 + 1 + 1 + 1 := by decide
  have d0 : ((0 : Int32) = nI ax) ↔ ax = 0 := by rw [show (0 : Int32) = nI 0 from rfl, nI_eq (by omega) (by omega)]; omega
  have d1 : ((0 : Int32) + 1 = nI ax) ↔ ax = 1 := by rw [show (0 : Int32) + 1 = nI 1 from rfl, nI_eq (by omega) (by omega)]; omega
  have d2 : ((0 : Int32) + 1 + 1 = nI ax) ↔ ax = 2 := by rw [show (0 : Int32) + 1 + 1 = nI 2 from rfl, nI_eq (by omega) (by omega)]; omega
  simp only [mX3_meetsOnOthers_8, mX3_meetsOnOthers_34, if_neg c0, if_neg c1, if_neg c2, if_pos c3, d0, d1, d2, l0, l1, l2, if_pos ok, cl, show 8 + 5 * 0 + 4 = 8 + 4 from rfl]
  rw [show σ.1 (8 + 4) b = _ from h0, show σ.1 (13 + 4) b = _ from h1, show σ.1 (18 + 4) b = _ from h2]
  unfold oth
  rcases (by omega : ax = 0 ∨ ax = 1 ∨ ax = 2) with rfl | rfl | rfl
  · simp [bm_andm, Bool.and_assoc]
  · simp [bm_andm, Bool.and_assoc]
  · simp [bm_andm, Bool.and_assoc]
theorem x_others {σ : bx_St} {T : Nat → Bool} {tc : Bool} {M : Nat → Nat → Nat → Bool} (hB : XB σ T tc) (h : XM σ M) {ax b : Nat} (ha : ax < 3) (hb : b < 12) : mX3_meetsOnOthers (nI ax) (nI b) σ = some (bm (fun j => T j && oth M ax b j)) := by
  rw [mX3_meetsOnOthers, hB.1]
  exact x_others_n h ha hb T 4996
/-- how far a box goes until it begins or ends to meet another one -/
def fd (tc : Bool) (V : Nat → Nat → Int) (M : Nat → Nat → Nat → Bool) (ax b o : Nat) (up : Bool) : Int :=
  if M ax b o then (if up then V ax (2 * o + 1) - V ax (2 * b) else V ax (2 * b + 1) - V ax (2 * o)) + (if tc then 1 else 0) else (if up then V ax (2 * o) - V ax (2 * b + 1) else V ax (2 * b) - V ax (2 * o + 1)) + 1 - (if tc then 1 else 0)
def wy (up : Bool) : Int32 := if up then 1 else -1
theorem iv_sub (y z : Int) : iv y - iv z = iv (y - z) := (Int32.ofInt_sub y z).symm
theorem iv_add1 (y : Int) : iv y + 1 = iv (y + 1) := by
  rw [← iv_add]; rfl
theorem fd_rng {tc : Bool} {V : Nat → Nat → Int} (hr : VR V) (M : Nat → Nat → Nat → Bool) {ax b o : Nat} (ha : ax < 3) (hb : b < 12) (ho : o < 12) (up : Bool) : -2000 ≤ fd tc V M ax b o up ∧ fd tc V M ax b o up ≤ 2000 := by
  have r1 := hr ax ha (2 * b) (by omega)
  have r2 := hr ax ha (2 * b + 1) (by omega)
  have r3 := hr ax ha (2 * o) (by omega)
  have r4 := hr ax ha (2 * o + 1) (by omega)
  unfold fd
  cases tc <;> cases up <;> cases M ax b o <;> simp <;> omega
theorem x_dist {σ : bx_St} {V : Nat → Nat → Int} {tc : Bool} {M : Nat → Nat → Nat → Bool} (h : XV σ V) (hk : XK σ tc) (hm : XM σ M) {ax b o : Nat} (ha : ax < 3) (hb : b < 12) (ho : o < 12) (up : Bool) : mX1_distanceToTurn (8 + 5 * ax) (nI b) (nI o) (wy up) σ = some (iv (fd tc V M ax b o up)) := by
  have okb : bx_ok (nI b) 12 := ok_nI hb (by decide)
  have oko : bx_ok (nI o) 12 := ok_nI ho (by decide)
  have i1 : (1 : Int32) = iv 1 := by decide
  simp only [mX1_distanceToTurn, mX1_distanceToTurn_98, mX1_distanceToTurn_46, if_pos okb, if_pos oko, cl_nI (show b < 2 ^ 31 by omega), cl_nI (show o < 2 ^ 31 by omega), (h ax ha b hb).1, (h ax ha b hb).2, (h ax ha o ho).1, (h ax ha o ho).2, hm ax ha b hb, hold_bm _ ho, hk ax ha, iv_sub]
  unfold fd
  have w1 : ¬ wy true ≤ 0 := by decide
  have w2 : wy false ≤ 0 := by decide
  cases up <;> cases M ax b o <;> cases tc <;> simp [bI, w1, w2, iv_add1]
theorem bm_73 {p : Nat → Bool} {ax : Nat} (ha : ax < 3) : (bm (fun x => decide (x < 3) && p x) &&& ((7 : Int32) &&& (((1 : Int32) <<< (nI ax &&& 31)) ^^^ (-1 : Int32))) = ((7 : Int32) &&& (((1 : Int32) <<< (nI ax &&& 31)) ^^^ (-1 : Int32)))) ↔ ((decide (ax = 0) || p 0) && (decide (ax = 1) || p 1) && (decide (ax = 2) || p 2)) = true := by
  have : bm (fun x => decide (x < 3) && p x) = bm (fun ax => if ax = 0 then p 0 else if ax = 1 then p 1 else if ax = 2 then p 2 else false) := by
    refine bm_cong (fun i hi => ?_)
    by_cases h0 : i = 0
    · subst h0; simp
    by_cases h1 : i = 1
    · subst h1; simp
    by_cases h2 : i = 2
    · subst h2; simp
    simp [h0, h1, h2]
    omega
  rw [this]
  rcases (by omega : ax = 0 ∨ ax = 1 ∨ ax = 2) with rfl | rfl | rfl <;> cases p 0 <;> cases p 1 <;> cases p 2 <;> decide +kernel
theorem has_ax {p : Nat → Bool} {ax : Nat} (ha : ax < 3) : mX4_has (bm (fun x => decide (x < 3) && p x)) (nI ax) = bI (p ax) := by
  rw [has_bm _ (by omega), decide_eq_true ha, Bool.true_and]
/-- the reference's distance, as the class's: none if it isn't above 0 -/
theorem m_letBy {τ : bx_St} {T : Nat → Bool} {V : Nat → Nat → Int} {tc : Bool} {M : Nat → Nat → Nat → Bool} (hB : MB τ T tc) (h : MV τ V) (hm : MM τ M) (hK : MK T tc V M) (hr : VR V) (hl : VL T V) {ax b o : Nat} (ha : ax < 3) (hb : b < 12) (ho : o < 12) (hTb : T b = true) (hTo : T o = true) (hne : b ≠ o) (up : Bool) : mX4_letBy (nI b) (nI o) (nI ax) (wy up) τ = some (if oth M ax b o ∧ 0 < fd tc V M ax b o up then iv (fd tc V M ax b o up) else -10001) := by
  have r1 := hr ax ha (2 * b) (by omega)
  have r2 := hr ax ha (2 * b + 1) (by omega)
  have r3 := hr ax ha (2 * o) (by omega)
  have r4 := hr ax ha (2 * o + 1) (by omega)
  have lb := hl ax ha b hb hTb
  have lo := hl ax ha o ho hTo
  have hMe : M ax b o = (decide (V ax (2 * b) < V ax (2 * o + 1) + (if tc then 1 else 0)) && decide (V ax (2 * o) < V ax (2 * b + 1) + (if tc then 1 else 0))) := by
    rw [hK ax ha b hb o ho, decide_eq_true hne, hTb, hTo]
    simp only [Bool.true_and, ky_lh tc V ax hb ho, ky_lh tc V ax ho hb]
  have e0 : ∀ v : Int32, mX4_letBy_45 (nI b) (nI o) (nI ax) v (if tc then 1 else 0) τ = mX4_letBy_45 (nI b) (nI o) (nI ax) v (iv (if tc then 1 else 0)) τ := fun v => by rw [iv_tc]
  have e1 : mX4_letBy (nI b) (nI o) (nI ax) (wy up) τ = if oth M ax b o then mX4_letBy_45 (nI b) (nI o) (nI ax) (wy up) (iv (if tc then 1 else 0)) τ else some (-10001) := by
    rw [mX4_letBy, m_ix12, if_pos (ok_nI (by omega) (by decide)), cl_nI (by omega), hm b hb o ho, hB.2]
    have := bm_73 (p := fun x => M x b o) ha
    unfold oth
    by_cases q : ((decide (ax = 0) || M 0 b o) && (decide (ax = 1) || M 1 b o) && (decide (ax = 2) || M 2 b o)) = true
    · rw [if_pos (this.mpr q), if_pos q, ← iv_tc]
      cases tc <;> rfl
    · rw [if_neg (fun z => q (this.mp z)), if_neg q]
  rw [e1]
  by_cases q : oth M ax b o = true
  · rw [if_pos q]
    have w1 : wy true = 1 := rfl
    have w2 : ¬ wy false = 1 := by decide
    have z0 : (0 : Int32) = iv 0 := by decide
    have i1 : (1 : Int32) = iv 1 := by decide
    rw [mX4_letBy_45, m_ix12, if_pos (ok_nI (by omega) (by decide)), cl_nI (by omega), hm b hb o ho, has_ax ha, m_lowOf h hb ha, m_lowOf h ho ha, m_highOf h hb ha, m_highOf h ho ha]
    simp only [Option.bind_some, mX4_letBy_142, iv_sub, iv_add, iv_add1]
    generalize hd : fd tc V M ax b o up = d
    unfold fd at hd
    cases e : M ax b o with
    | true =>
      rw [e] at hMe hd
      have hMe := hMe.symm
      simp only [Bool.and_eq_true, decide_eq_true_eq] at hMe
      rw [if_neg (by decide)]
      cases up with
      | true =>
        rw [if_pos w1]
        simp at hd
        have : 0 < d := by rw [← hd]; cases tc <;> simp at hMe ⊢ <;> omega
        rw [if_pos (show oth M ax b o = true ∧ 0 < d from ⟨q, this⟩), ← hd]
      | false =>
        rw [if_neg w2]
        simp at hd
        have : 0 < d := by rw [← hd]; cases tc <;> simp at hMe ⊢ <;> omega
        rw [if_pos (show oth M ax b o = true ∧ 0 < d from ⟨q, this⟩), ← hd]
    | false =>
      rw [e] at hMe hd
      have hMe := hMe.symm
      simp only [Bool.and_eq_false_iff, decide_eq_false_iff_not] at hMe
      rw [if_pos (by rfl)]
      cases up with
      | true =>
        rw [if_pos w1]
        simp at hd
        have c : (0 : Int32) ≤ iv (V ax (2 * o) - V ax (2 * b + 1)) ↔ 0 ≤ V ax (2 * o) - V ax (2 * b + 1) := by rw [z0, iv_le (by omega) (by omega)]
        by_cases g : 0 ≤ V ax (2 * o) - V ax (2 * b + 1)
        · have : 0 < d := by rw [← hd]; cases tc <;> simp at hMe ⊢ <;> omega
          rw [if_pos (c.mpr g), if_pos (show oth M ax b o = true ∧ 0 < d from ⟨q, this⟩), ← hd]
        · have : ¬ 0 < d := by rw [← hd]; cases tc <;> simp <;> omega
          rw [if_neg (fun z => g (c.mp z)), if_neg (show ¬ (oth M ax b o = true ∧ 0 < d) from fun z => this z.2)]
      | false =>
        rw [if_neg w2]
        simp at hd
        have c : (0 : Int32) ≤ iv (V ax (2 * b) - V ax (2 * o + 1)) ↔ 0 ≤ V ax (2 * b) - V ax (2 * o + 1) := by rw [z0, iv_le (by omega) (by omega)]
        by_cases g : 0 ≤ V ax (2 * b) - V ax (2 * o + 1)
        · have : 0 < d := by rw [← hd]; cases tc <;> simp at hMe ⊢ <;> omega
          rw [if_pos (c.mpr g), if_pos (show oth M ax b o = true ∧ 0 < d from ⟨q, this⟩), ← hd]
        · have : ¬ 0 < d := by rw [← hd]; cases tc <;> simp <;> omega
          rw [if_neg (fun z => g (c.mp z)), if_neg (show ¬ (oth M ax b o = true ∧ 0 < d) from fun z => this z.2)]
  · rw [if_neg q, if_neg (fun z => q z.1)]
/-- one turn of both loops, whatever the other box is: the class's and the reference's numbers go on alike -/
def LI (rm : Int) (v6 v7 v5 : Int32) : Prop := (v7 = 0 ∧ v5 = -10001 ∧ v6 = iv (rm + 1)) ∨ ∃ d : Int, 0 < d ∧ d ≤ rm ∧ v7 = 1 ∧ v5 = iv d ∧ v6 = iv d
theorem let_loop {σ τ : bx_St} {T : Nat → Bool} {V : Nat → Nat → Int} {tc : Bool} {M : Nat → Nat → Nat → Bool} (x1 : XB σ T tc) (x2 : XK σ tc) (x3 : XV σ V) (x5 : XM σ M) (m1 : MB τ T tc) (m2 : MV τ V) (m4 : MM τ M) (i1 : VR V) (i2 : VL T V) (i5 : MK T tc V M) {ax b : Nat} (ha : ax < 3) (hb : b < 12) (hT : T b = true) (up : Bool) {rm : Int} (hrm : 0 ≤ rm ∧ rm ≤ 2000) : ∀ (k n o : Nat) (v6 v7 v5 : Int32), o + k = 12 → k < n → LI rm v6 v7 v5 → ∃ u, mX3_let_65 n (nI b) (wy up) (8 + 5 * ax) (bm (fun j => T j && oth M ax b j)) v6 v7 (nI o) σ = some u ∧ mX4_letNow_38 n (nI b) (nI ax) (wy up) (iv rm) v5 (nI o) τ = some u := by
  intro k
  induction k with
  | zero =>
    intro n o v6 v7 v5 ho hn hI
    obtain ⟨n, rfl⟩ : ∃ m, n = m + 1 := ⟨n - 1, by omega⟩
    have : o = 12 := by omega
    subst this
    rcases hI with ⟨e1, e2, e3⟩ | ⟨d, d1, d2, e1, e2, e3⟩
    · exact ⟨-10001, by rw [mX3_let_65, if_pos (by decide), if_pos e1], by rw [mX4_letNow_38, if_pos (by decide), e2]⟩
    · exact ⟨iv d, by rw [mX3_let_65, if_pos (by decide), e1, if_neg one_ne0, e3], by rw [mX4_letNow_38, if_pos (by decide), e2]⟩
  | succ k ih =>
    intro n o v6 v7 v5 ho hn hI
    obtain ⟨n, rfl⟩ : ∃ m, n = m + 1 := ⟨n - 1, by omega⟩
    have ho12 : o < 12 := by omega
    have next : ∀ v6 v7 v5, LI rm v6 v7 v5 → ∃ u, mX3_let_112 (mX3_let_65 n) (nI b) (wy up) (8 + 5 * ax) (bm (fun j => T j && oth M ax b j)) v6 v7 (nI o) σ = some u ∧ mX4_letNow_117 (mX4_letNow_38 n) (nI b) (nI ax) (wy up) (iv rm) (nI o) v5 τ = some u := by
      intro v6 v7 v5 hI
      rw [mX3_let_112, mX4_letNow_117, nI_1]
      exact ih n (o + 1) v6 v7 v5 (by omega) (by omega) hI
    have skip := next v6 v7 v5 hI
    rw [mX3_let_65, mX4_letNow_38, if_neg (n12 ho12), if_neg (n12 ho12), hold_bm _ ho12, m1.1, has_bm T ho12]
    by_cases eob : o = b
    · subst eob
      have hoth : oth M ax o o = false := by
        unfold oth
        rw [i5.irr (ax := 0) (by omega) hb, i5.irr (ax := 1) (by omega) hb, i5.irr (ax := 2) (by omega) hb]
        rcases (by omega : ax = 0 ∨ ax = 1 ∨ ax = 2) with rfl | rfl | rfl <;> rfl
      rw [hoth, Bool.and_false, if_pos (by rfl), if_pos rfl, mX4_letNow_75, mX4_letNow_78, if_pos rfl, mX4_letNow_115]
      exact skip
    · rw [if_neg (fun q => eob ((nI_eq (by omega) (by omega)).mp q))]
      cases hTo : T o with
      | false =>
        rw [Bool.false_and, if_pos (by rfl), if_pos (by rfl), mX4_letNow_75, mX4_letNow_78, if_pos rfl, mX4_letNow_115]
        exact skip
      | true =>
        rw [Bool.true_and, if_neg (show ¬ bI true = 0 by decide), m_letBy m1 m2 m4 i5 i1 i2 ha hb ho12 hT hTo (Ne.symm eob) up, Option.bind_some]
        have rg := fd_rng (tc := tc) i1 M ha hb ho12 up
        cases hoth : oth M ax b o with
        | false =>
          rw [if_pos (by rfl), if_neg (by simp), mX4_letNow_78, if_pos rfl, mX4_letNow_115]
          exact skip
        | true =>
          rw [if_neg (by decide), x_dist x3 x2 x5 ha hb ho12 up, Option.bind_some]
          generalize fd tc V M ax b o up = d at *
          have z0 : (0 : Int32) = iv 0 := by decide
          have c1 : iv d ≤ 0 ↔ d ≤ 0 := by rw [z0, iv_le (by omega) (by omega)]
          have zN : (-10001 : Int32) = iv (-10001) := by decide
          by_cases hd : 0 < d
          · have cN : ¬ iv d = -10001 := fun q => by rw [zN, iv_inj (by omega) (by omega)] at q; omega
            have c1' : ¬ iv d ≤ 0 := fun q => absurd (c1.mp q) (by omega)
            rw [if_neg c1', if_pos (show true = true ∧ 0 < d from ⟨rfl, hd⟩), mX4_letNow_78, if_neg cN]
            have c2 : iv rm < iv d ↔ rm < d := iv_lt (by omega) (by omega)
            rcases hI with ⟨e1, e2, e3⟩ | ⟨d', d1, d2, e1, e2, e3⟩
            · have c3 : v6 ≤ iv d ↔ rm + 1 ≤ d := by rw [e3, iv_le (by omega) (by omega)]
              by_cases g : rm < d
              · rw [if_pos (c3.mpr (by omega)), if_pos (c2.mpr g), mX4_letNow_115]
                exact skip
              · rw [if_neg (fun q => absurd (c3.mp q) (by omega)), if_neg (fun q => g (c2.mp q)), if_pos e2, mX4_letNow_110]
                exact next _ _ _ (Or.inr ⟨d, hd, by omega, rfl, rfl, rfl⟩)
            · have c3 : v6 ≤ iv d ↔ d' ≤ d := by rw [e3, iv_le (by omega) (by omega)]
              have c4 : v5 ≤ iv d ↔ d' ≤ d := by rw [e2, iv_le (by omega) (by omega)]
              have c5 : ¬ v5 = -10001 := fun q => by rw [e2, zN, iv_inj (by omega) (by omega)] at q; omega
              by_cases g : d' ≤ d
              · rw [if_pos (c3.mpr g)]
                by_cases g2 : rm < d
                · rw [if_pos (c2.mpr g2), mX4_letNow_115]
                  exact skip
                · rw [if_neg (fun q => g2 (c2.mp q)), if_neg c5, if_pos (c4.mpr g), mX4_letNow_115]
                  exact skip
              · rw [if_neg (fun q => g (c3.mp q)), if_neg (fun q => absurd (c2.mp q) (by omega)), if_neg c5, if_neg (fun q => g (c4.mp q)), mX4_letNow_110]
                exact next _ _ _ (Or.inr ⟨d, hd, by omega, rfl, rfl, rfl⟩)
          · rw [if_pos (c1.mpr (by omega)), if_neg (fun q => hd q.2), mX4_letNow_78, if_pos rfl, mX4_letNow_115]
            exact skip
/-- let() and the reference's letNow at a box that is there -/
theorem let_eq {σ τ : bx_St} {T : Nat → Bool} {V : Nat → Nat → Int} {tc : Bool} {M : Nat → Nat → Nat → Bool} (x1 : XB σ T tc) (x2 : XK σ tc) (x3 : XV σ V) (x5 : XM σ M) (m1 : MB τ T tc) (m2 : MV τ V) (m4 : MM τ M) (i1 : VR V) (i2 : VL T V) (i5 : MK T tc V M) {ax b : Nat} (ha : ax < 3) (hb : b < 12) (hT : T b = true) (up : Bool) : ∃ u, mX3_let (nI b) (nI ax) (wy up) σ = some u ∧ mX4_letNow (nI b) (nI ax) (wy up) τ = some u := by
  have r1 := i1 ax ha (2 * b) (by omega)
  have r2 := i1 ax ha (2 * b + 1) (by omega)
  have eT : mX3_isThere (nI b) σ = 1 := by rw [there_b x1 hb, hT]; rfl
  have eA : mX3_isAxis (nI ax) = 1 := by rw [mX3_isAxis, if_neg (nI_pos (by omega)), if_neg (n3 ha)]
  have ok : bx_ok (nI b) 12 := ok_nI hb (by decide)
  have n9 : (999 : Int32) = iv 999 := by decide
  have pre : mX3_let (nI b) (nI ax) (wy up) σ = mX3_let_33 (nI b) (nI ax) (wy up) σ := by
    rw [mX3_let, eT, if_neg one_ne0, eA, if_neg one_ne0]
    cases up
    · rw [if_neg (by decide), if_pos (by rfl)]
    · rw [if_pos (by rfl)]
  rw [pre, mX3_let_33, x_others x1 x5 ha hb, Option.bind_some, lineOf_eq ax ha]
  cases up with
  | true =>
    have er : mX1_room (8 + 5 * ax) (nI b) (wy true) σ = some (iv (999 - V ax (2 * b + 1))) := by
      rw [mX1_room, if_neg (by decide), if_pos ok, cl_nI (by omega), (x3 ax ha b hb).2, n9, iv_sub]
    rw [er, Option.bind_some, mX4_letNow, if_pos (by rfl), m_highOf m2 hb ha, Option.bind_some, mX4_letNow_28, n9, iv_sub, iv_add1]
    exact let_loop x1 x2 x3 x5 m1 m2 m4 i1 i2 i5 ha hb hT true (by omega) 12 5000 0 _ _ _ rfl (by omega) (Or.inl ⟨rfl, rfl, rfl⟩)
  | false =>
    have er : mX1_room (8 + 5 * ax) (nI b) (wy false) σ = some (iv (V ax (2 * b) + 999)) := by
      rw [mX1_room, if_pos (by decide), if_pos ok, cl_nI (by omega), (x3 ax ha b hb).1, n9, iv_add]
    rw [er, Option.bind_some, mX4_letNow, if_neg (by decide), m_lowOf m2 hb ha, Option.bind_some, mX4_letNow_28, n9, iv_add, iv_add1]
    exact let_loop x1 x2 x3 x5 m1 m2 m4 i1 i2 i5 ha hb hT false (by omega) 12 5000 0 _ _ _ rfl (by omega) (Or.inl ⟨rfl, rfl, rfl⟩)
theorem P_let (σ τ : bx_St) (v1 v2 v3 : Int32) (h : bx_R σ τ) : ∃ u w, mX3_let v1 v2 v3 σ = some u ∧ mX4_let v1 v2 v3 τ = some w ∧ u = w ∧ bx_R σ τ := by
  have hh := h
  obtain ⟨⟨T, tc, V, F, u, M, ⟨x1, x2, x3, x4, x5, x6⟩, ⟨m1, m2, m3, m4⟩, ⟨i1, i2, i3, i4, i5⟩⟩, -, -⟩ := hh
  rcases there_eq x1 m1 v1 with ⟨b, hb, rfl, hT, ea, fa⟩ | ⟨ea, fa⟩
  · rcases axis_eq v2 with ⟨ax, ha, rfl, ex, em⟩ | ⟨ex, em⟩
    · by_cases w1 : v3 = 1
      · subst w1
        obtain ⟨u, e1, e2⟩ := let_eq x1 x2 x3 x5 m1 m2 m4 i1 i2 i5 ha hb hT true
        refine ⟨u, u, e1, ?_, rfl, h⟩
        rw [mX4_let, fa, if_neg one_ne0, em, Option.bind_some, if_neg one_ne0, if_pos rfl, mX4_let_29, show mX4_letNow (nI b) (nI ax) 1 τ = _ from e2]
        rfl
      by_cases w2 : v3 = -1
      · subst w2
        obtain ⟨u, e1, e2⟩ := let_eq x1 x2 x3 x5 m1 m2 m4 i1 i2 i5 ha hb hT false
        refine ⟨u, u, e1, ?_, rfl, h⟩
        rw [mX4_let, fa, if_neg one_ne0, em, Option.bind_some, if_neg one_ne0, if_neg (by decide), if_pos rfl, mX4_let_29, show mX4_letNow (nI b) (nI ax) (-1) τ = _ from e2]
        rfl
      · refine ⟨-10003, -10003, ?_, ?_, rfl, h⟩
        · rw [mX3_let, ea, if_neg one_ne0, ex, if_neg one_ne0, if_neg w1, if_neg w2]
        · rw [mX4_let, fa, if_neg one_ne0, em, Option.bind_some, if_neg one_ne0, if_neg w1, if_neg w2]
    · refine ⟨-10002, -10002, ?_, ?_, rfl, h⟩
      · rw [mX3_let, ea, if_neg one_ne0, ex, if_pos rfl]
      · rw [mX4_let, fa, if_neg one_ne0, em, Option.bind_some, if_pos rfl]
  · exact ⟨-10002, -10002, by rw [mX3_let, ea, if_pos rfl], by rw [mX4_let, fa, if_pos rfl], rfl, h⟩
