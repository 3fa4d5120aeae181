/-! the deepest heap -/
abbrev nm (s : Nat → Bool) : Nat := bm_N s 12
theorem nm_inj {s t : Nat → Bool} (h : nm s = nm t) : bm s = bm t := by
  show nI (nm s) = nI (nm t)
  rw [h]
theorem nm_lt_n {s t : Nat → Bool} {b : Nat} (h1 : s b = false) (h2 : t b = true) : ∀ d, (∀ j, b < j → j < b + 1 + d → s j = t j) → bm_N s (b + 1 + d) < bm_N t (b + 1 + d) := by
  intro d
  induction d with
  | zero =>
    intro _
    show bm_N s (b + 1) < bm_N t (b + 1)
    rw [bm_N, bm_N, h1, h2]
    have := bm_N_lt s b
    simp
    omega
  | succ d ih =>
    intro h
    rw [show b + 1 + (d + 1) = (b + 1 + d) + 1 by omega, bm_N, bm_N, h (b + 1 + d) (by omega) (by omega)]
    have := ih (fun j h3 h4 => h j h3 (by omega))
    omega
theorem nm_lt {s t : Nat → Bool} {b : Nat} (hb : b < 12) (h1 : s b = false) (h2 : t b = true) (h : ∀ j, b < j → j < 12 → s j = t j) : nm s < nm t := by
  have := nm_lt_n h1 h2 (11 - b) (fun j h3 h4 => h j h3 (by omega))
  rw [show b + 1 + (11 - b) = 12 by omega] at this
  exact this
def Cand (O : Nat → Nat → Bool) (C P t : Nat → Bool) : Prop := ∃ S : Nat → Bool, (∀ j, j < 12 → S j = true → P j = true) ∧ (∀ i, i < 12 → S i = true → ∀ j, j < 12 → S j = true → i ≠ j → O i j = true) ∧ ∀ j, j < 12 → t j = (C j || S j)
def BS (O : Nat → Nat → Bool) (C P B r : Nat → Bool) : Prop := ((∀ j, j < 12 → r j = B j) ∧ ∀ t, Cand O C P t → fb_ct t 12 ≤ fb_ct B 12) ∨ (Cand O C P r ∧ fb_ct B 12 < fb_ct r 12 ∧ ∀ t, Cand O C P t → fb_ct t 12 < fb_ct r 12 ∨ (fb_ct t 12 = fb_ct r 12 ∧ nm r ≤ nm t))
theorem cand_le {O : Nat → Nat → Bool} {C P t : Nat → Bool} (h : Cand O C P t) : fb_ct t 12 ≤ fb_ct (fun j => C j || P j) 12 := by
  obtain ⟨S, h1, -, h3⟩ := h
  refine fb_ct_sub (fun j hj ht => ?_)
  rw [h3 j hj] at ht
  cases hC : C j with
  | true => rfl
  | false => rw [hC, Bool.false_or] at ht; rw [Bool.false_or]; exact h1 j hj ht
def vb (b : Nat) : Int32 := if b = 0 then -1 else nI (b - 1)
theorem vb_pred (b : Nat) : nI b - 1 = vb b := by
  unfold vb
  cases b with
  | zero => decide
  | succ b => rw [nI_pred, if_neg (by omega)]; rfl
theorem x_deep {σ : bx_St} {O : Nat → Nat → Bool} (h : XO σ O) (hs : ∀ a b, a < 12 → b < 12 → O a b = O b a) : ∀ (b n : Nat) (C P B : Nat → Bool), b ≤ 12 → b < n → (∀ j, j < 12 → P j = true → j < b) → (∀ j, j < 12 → C j = true → b ≤ j) → ∃ r, mX3_deepestFrom n (vb b) (bm C) (bm P) (bm B) σ = some (bm r) ∧ BS O C P B r := by
  intro b
  induction b with
  | zero =>
    intro n C P B hb hn hP hC
    obtain ⟨n, rfl⟩ : ∃ m, n = m + 1 := ⟨n - 1, by omega⟩
    rw [mX3_deepestFrom, bm_orm, bc_bm, bc_bm]
    by_cases g : fb_ct B 12 < fb_ct (fun j => C j || P j) 12
    · have l := fb_ct_le (fun j => C j || P j) 12
      rw [if_pos (nI_lt g (by omega)), if_pos (show vb 0 < 0 by decide)]
      have eC : fb_ct (fun j => C j || P j) 12 = fb_ct C 12 := fb_ct_cong (fun j hj => by
        cases hp : P j with
        | false => simp
        | true => exact absurd (hP j hj hp) (by omega))
      refine ⟨C, rfl, Or.inr ⟨⟨fun _ => false, (fun _ _ q => (by cases q)), (fun _ _ q => (by cases q)), fun j _ => (by simp)⟩, by omega, ?_⟩⟩
      rintro t ⟨S, h1, h2, h3⟩
      right
      have e : ∀ j, j < 12 → t j = C j := fun j hj => by
        rw [h3 j hj]
        cases hS : S j with
        | false => simp
        | true => exact absurd (hP j hj (h1 j hj hS)) (by omega)
      refine ⟨fb_ct_cong e, Nat.le_of_eq ?_⟩
      have := bm_cong (f := C) (g := t) (fun j hj => (e j hj).symm)
      exact (nI_eq (Nat.lt_trans (bm_N_lt C 12) (by decide)) (Nat.lt_trans (bm_N_lt t 12) (by decide))).mp this
    · have l := fb_ct_le B 12
      rw [if_neg (nI_nlt (by omega) (by omega))]
      refine ⟨B, rfl, Or.inl ⟨fun _ _ => rfl, fun t ht => ?_⟩⟩
      have := cand_le ht
      omega
  | succ b ih =>
    intro n C P B hb hn hP hC
    obtain ⟨n, rfl⟩ : ∃ m, n = m + 1 := ⟨n - 1, by omega⟩
    have hb12 : b < 12 := by omega
    rw [mX3_deepestFrom, bm_orm, bc_bm, bc_bm]
    by_cases g : fb_ct B 12 < fb_ct (fun j => C j || P j) 12
    · have l := fb_ct_le (fun j => C j || P j) 12
      have v : vb (b + 1) = nI b := by unfold vb; rw [if_neg (by omega)]; rfl
      have k12 : nI b < (12 : Int32) := nI_lt (b := 12) hb12 (by decide)
      rw [if_pos (nI_lt g (by omega)), v, if_neg (nI_pos (by omega)), if_pos k12, vb_pred, bit_bm hb12, bm_andn, hold_bm P hb12]
      obtain ⟨w, ew, hw⟩ := ih n C (fun j => P j && !decide (j = b)) B (by omega) (by omega) (fun j hj q => by
        simp only [Bool.and_eq_true, Bool.not_eq_true', decide_eq_false_iff_not] at q
        have := hP j hj q.1
        omega) (fun j hj q => by have := hC j hj q; omega)
      rw [ew, Option.bind_some]
      cases hPb : P b with
      | false =>
        rw [if_pos (by rfl)]
        refine ⟨w, rfl, ?_⟩
        have eq : ∀ t, Cand O C P t → Cand O C (fun j => P j && !decide (j = b)) t := by
          rintro t ⟨S, h1, h2, h3⟩
          refine ⟨S, fun j hj q => ?_, h2, h3⟩
          have q2 := h1 j hj q
          simp only [Bool.and_eq_true, Bool.not_eq_true', decide_eq_false_iff_not]
          exact ⟨q2, fun e => by rw [e, hPb] at q2; cases q2⟩
        have eq2 : ∀ t, Cand O C (fun j => P j && !decide (j = b)) t → Cand O C P t := by
          rintro t ⟨S, h1, h2, h3⟩
          exact ⟨S, fun j hj q => by have := h1 j hj q; simp only [Bool.and_eq_true] at this; exact this.1, h2, h3⟩
        rcases hw with ⟨a1, a2⟩ | ⟨a1, a2, a3⟩
        · exact Or.inl ⟨a1, fun t ht => a2 t (eq t ht)⟩
        · exact Or.inr ⟨eq2 _ a1, a2, fun t ht => a3 t (eq t ht)⟩
      | true =>
        rw [if_neg (by decide)]
        obtain ⟨r, er, hr⟩ := ih n (fun j => C j || decide (j = b)) (fun j => (P j && !decide (j = b)) && O b j) w (by omega) (by omega) (fun j hj q => by
          simp only [Bool.and_eq_true, Bool.not_eq_true', decide_eq_false_iff_not] at q
          have := hP j hj q.1.1
          omega) (fun j hj q => by
          simp only [Bool.or_eq_true, decide_eq_true_eq] at q
          rcases q with q | q
          · have := hC j hj q; omega
          · omega)
        rw [if_pos (ok_nI hb12 (by decide)), cl_nI (by omega), h b hb12, bm_andm, bm_orm, er]
        refine ⟨r, rfl, ?_⟩
        have split : ∀ t, Cand O C P t → Cand O C (fun j => P j && !decide (j = b)) t ∨ Cand O (fun j => C j || decide (j = b)) (fun j => (P j && !decide (j = b)) && O b j) t := by
          rintro t ⟨S, h1, h2, h3⟩
          cases hSb : S b with
          | false =>
            left
            refine ⟨S, fun j hj q => ?_, h2, h3⟩
            simp only [Bool.and_eq_true, Bool.not_eq_true', decide_eq_false_iff_not]
            exact ⟨h1 j hj q, fun e => by rw [e, hSb] at q; cases q⟩
          | true =>
            right
            refine ⟨fun j => S j && !decide (j = b), fun j hj q => ?_, fun i hi qi j hj qj e => ?_, fun j hj => ?_⟩
            · simp only [Bool.and_eq_true, Bool.not_eq_true', decide_eq_false_iff_not] at q ⊢
              exact ⟨⟨h1 j hj q.1, q.2⟩, h2 b hb12 hSb j hj q.1 (Ne.symm q.2)⟩
            · simp only [Bool.and_eq_true] at qi qj
              exact h2 i hi qi.1 j hj qj.1 e
            · rw [h3 j hj]
              by_cases e : j = b
              · subst e; simp [hSb]
              · simp [e]
        have back1 : ∀ t, Cand O C (fun j => P j && !decide (j = b)) t → Cand O C P t := by
          rintro t ⟨S, h1, h2, h3⟩
          exact ⟨S, fun j hj q => by have := h1 j hj q; simp only [Bool.and_eq_true] at this; exact this.1, h2, h3⟩
        have back2 : ∀ t, Cand O (fun j => C j || decide (j = b)) (fun j => (P j && !decide (j = b)) && O b j) t → Cand O C P t := by
          rintro t ⟨S, h1, h2, h3⟩
          have h1' : ∀ j, j < 12 → S j = true → P j = true ∧ j ≠ b ∧ O b j = true := fun j hj q => by
            have := h1 j hj q
            simp only [Bool.and_eq_true, Bool.not_eq_true', decide_eq_false_iff_not] at this
            exact ⟨this.1.1, this.1.2, this.2⟩
          refine ⟨fun j => S j || decide (j = b), fun j hj q => ?_, fun i hi qi j hj qj e => ?_, fun j hj => ?_⟩
          · simp only [Bool.or_eq_true, decide_eq_true_eq] at q
            rcases q with q | q
            · exact (h1' j hj q).1
            · rw [q]; exact hPb
          · simp only [Bool.or_eq_true, decide_eq_true_eq] at qi qj
            rcases qi with qi | qi <;> rcases qj with qj | qj
            · exact h2 i hi qi j hj qj e
            · rw [qj, hs i b hi hb12]; exact (h1' i hi qi).2.2
            · rw [qi]; exact (h1' j hj qj).2.2
            · exact absurd (qi.trans qj.symm) e
          · rw [h3 j hj]
            show ((C j || decide (j = b)) || S j) = (C j || (S j || decide (j = b)))
            cases C j <;> cases S j <;> simp
        have low : ∀ s t, Cand O C (fun j => P j && !decide (j = b)) s → Cand O (fun j => C j || decide (j = b)) (fun j => (P j && !decide (j = b)) && O b j) t → nm s < nm t := by
          rintro s t ⟨S, h1, h2, h3⟩ ⟨S', h1', h2', h3'⟩
          have hCb : C b = false := by
            cases q : C b with
            | false => rfl
            | true => have := hC b hb12 q; omega
          refine nm_lt hb12 ?_ ?_ (fun j h4 h5 => ?_)
          · rw [h3 b hb12, hCb, Bool.false_or]
            cases q : S b with
            | false => rfl
            | true => have := h1 b hb12 q; simp at this
          · rw [h3' b hb12]; simp
          · have n1 : S j = false := by
              cases q : S j with
              | false => rfl
              | true =>
                have := h1 j h5 q
                simp only [Bool.and_eq_true] at this
                have := hP j h5 this.1
                omega
            have n2 : S' j = false := by
              cases q : S' j with
              | false => rfl
              | true =>
                have := h1' j h5 q
                simp only [Bool.and_eq_true] at this
                have := hP j h5 this.1.1
                omega
            rw [h3 j h5, h3' j h5, n1, n2]
            simp
            omega
        rcases hw with ⟨a1, a2⟩ | ⟨a1, a2, a3⟩
        · have ewB : fb_ct w 12 = fb_ct B 12 := fb_ct_cong a1
          rcases hr with ⟨b1, b2⟩ | ⟨b1, b2, b3⟩
          · refine Or.inl ⟨fun j hj => (b1 j hj).trans (a1 j hj), fun t ht => ?_⟩
            rcases split t ht with q | q
            · exact a2 t q
            · have := b2 t q; omega
          · refine Or.inr ⟨back2 _ b1, by omega, fun t ht => ?_⟩
            rcases split t ht with q | q
            · have := a2 t q; left; omega
            · exact b3 t q
        · rcases hr with ⟨b1, b2⟩ | ⟨b1, b2, b3⟩
          · have erw : fb_ct r 12 = fb_ct w 12 := fb_ct_cong b1
            have enm : nm r = nm w := by
              have := bm_cong b1
              exact (nI_eq (Nat.lt_trans (bm_N_lt r 12) (by decide)) (Nat.lt_trans (bm_N_lt w 12) (by decide))).mp this
            have hcr : Cand O C (fun j => P j && !decide (j = b)) r := by
              obtain ⟨S, h1, h2, h3⟩ := a1
              exact ⟨S, h1, h2, fun j hj => (b1 j hj).trans (h3 j hj)⟩
            refine Or.inr ⟨back1 _ hcr, by omega, fun t ht => ?_⟩
            rw [erw, enm]
            rcases split t ht with q | q
            · exact a3 t q
            · have h5 := b2 t q
              have h6 := low w t a1 q
              omega
          · refine Or.inr ⟨back2 _ b1, by omega, fun t ht => ?_⟩
            rcases split t ht with q | q
            · rcases a3 t q with h5 | ⟨h5, -⟩ <;> left <;> omega
            · exact b3 t q
    · have l := fb_ct_le B 12
      rw [if_neg (nI_nlt (by omega) (by omega))]
      refine ⟨B, rfl, Or.inl ⟨fun _ _ => rfl, fun t ht => ?_⟩⟩
      have := cand_le ht
      omega
/-- a set of boxes of which all two overlap -/
def HP (T : Nat → Bool) (O : Nat → Nat → Bool) (s : Nat → Bool) : Prop := (∀ j, j < 12 → s j = true → T j = true) ∧ ∀ i, i < 12 → s i = true → ∀ j, j < 12 → s j = true → i ≠ j → O i j = true
/-- the best heap -/
def BH (T : Nat → Bool) (O : Nat → Nat → Bool) (r : Nat → Bool) : Prop := HP T O r ∧ ∀ t, HP T O t → fb_ct t 12 < fb_ct r 12 ∨ (fb_ct t 12 = fb_ct r 12 ∧ nm r ≤ nm t)
theorem BH_one {T : Nat → Bool} {O : Nat → Nat → Bool} {r s : Nat → Bool} (h1 : BH T O r) (h2 : BH T O s) : bm r = bm s := by
  have a := h1.2 s h2.1
  have b := h2.2 r h1.1
  apply nm_inj
  omega
theorem x_deepest {σ : bx_St} {T : Nat → Bool} {tc : Bool} {O : Nat → Nat → Bool} (x1 : XB σ T tc) (h : XO σ O) (hs : ∀ a b, a < 12 → b < 12 → O a b = O b a) : ∃ r, mX3_deepest σ = some (bm r) ∧ BH T O r := by
  obtain ⟨r, e, hr⟩ := x_deep h hs 12 16 (fun _ => false) T (fun _ => false) (by omega) (by omega) (fun j hj _ => hj) (fun j _ q => by cases q)
  refine ⟨r, ?_, ?_⟩
  · rw [mX3_deepest, x1.1]
    rw [bm_0] at e
    rw [show (11 : Int32) = vb 12 from rfl, e]
    rfl
  · have c1 : ∀ t, HP T O t → Cand O (fun _ => false) T t := fun t ht => ⟨t, ht.1, ht.2, fun j _ => by simp⟩
    have c2 : ∀ t, Cand O (fun _ => false) T t → HP T O t := by
      rintro t ⟨S, h1, h2, h3⟩
      have e : ∀ j, j < 12 → t j = S j := fun j hj => by rw [h3 j hj]; simp
      exact ⟨fun j hj q => h1 j hj (by rw [← e j hj]; exact q), fun i hi qi j hj qj => h2 i hi (by rw [← e i hi]; exact qi) j hj (by rw [← e j hj]; exact qj)⟩
    rcases hr with ⟨a1, a2⟩ | ⟨a1, a2, a3⟩
    · have z : fb_ct (fun _ => false) 12 = 0 := by decide
      have er : fb_ct r 12 = 0 := (fb_ct_cong a1).trans z
      refine ⟨⟨fun j hj q => (by rw [a1 j hj] at q; cases q), fun i hi q => (by rw [a1 i hi] at q; cases q)⟩, fun t ht => ?_⟩
      have h5 := a2 t (c1 t ht)
      right
      refine ⟨by omega, ?_⟩
      have : bm r = bm (fun _ => false) := bm_cong a1
      have : nm r = nm (fun _ => false) := (nI_eq (Nat.lt_trans (bm_N_lt r 12) (by decide)) (Nat.lt_trans (bm_N_lt _ 12) (by decide))).mp this
      rw [this, show nm (fun _ => false) = 0 by decide]
      exact Nat.zero_le _
    · exact ⟨c2 r a1, fun t ht => a3 t (c1 t ht)⟩
/-! the reference tries all sets -/
theorem nI_tb {n : Nat} (h : n < 4096) : nI n = bm n.testBit := by
  refine b_ext (fun i hi => ?_)
  rw [nI_bt n i hi, bm_bt]
  by_cases h2 : i < 12
  · rw [decide_eq_true h2, Bool.true_and]
  · rw [decide_eq_false h2, Bool.false_and]
    exact Nat.testBit_lt_two_pow (Nat.lt_of_lt_of_le h (Nat.pow_le_pow_right (n := 2) (by omega) (by omega : 12 ≤ i)))
theorem nm_tb {n : Nat} (h : n < 4096) : nm n.testBit = n := by
  have : nI n = nI (nm n.testBit) := nI_tb h
  exact ((nI_eq (by omega) (Nat.lt_trans (bm_N_lt _ 12) (by decide))).mp this).symm
theorem bz_bm (f : Nat → Bool) : bm f = 0 ↔ ∀ j, j < 12 → f j = false := by
  constructor
  · intro h j hj
    rw [← bm_0] at h
    exact bm_inj h j hj
  · intro h
    rw [← bm_0]
    exact bm_cong h
/-- what isHeap has found below a box -/
def hq (T : Nat → Bool) (O : Nat → Nat → Bool) (s : Nat → Bool) (b : Nat) : Prop := (∀ j, j < 12 → s j = true → T j = true) ∧ ∀ i, i < b → s i = true → ∀ j, j < 12 → s j = true → i ≠ j → O i j = true
theorem m_isHeap_loop {τ : bx_St} {T : Nat → Bool} {M : Nat → Nat → Nat → Bool} (m4 : MM τ M) (s : Nat → Bool) : ∀ (k n b : Nat) (v : Int32), b + k = 12 → k < n → ((v = 1 ∧ hq T (ov M) s b) ∨ (v = 0 ∧ ¬ HP T (ov M) s)) → (HP T (ov M) s → mX4_isHeap_19 n (bm s) v (nI b) τ = some 1) ∧ (¬ HP T (ov M) s → mX4_isHeap_19 n (bm s) v (nI b) τ = some 0) := by
  intro k
  induction k with
  | zero =>
    intro n b v hb hn hv
    obtain ⟨n, rfl⟩ : ∃ m, n = m + 1 := ⟨n - 1, by omega⟩
    have : b = 12 := by omega
    subst this
    rw [mX4_isHeap_19, if_pos (by decide)]
    rcases hv with ⟨rfl, h⟩ | ⟨rfl, h⟩
    · exact ⟨fun _ => rfl, fun q => absurd h q⟩
    · exact ⟨fun q => absurd q h, fun _ => rfl⟩
  | succ k ih =>
    intro n b v hb hn hv
    obtain ⟨n, rfl⟩ : ∃ m, n = m + 1 := ⟨n - 1, by omega⟩
    have hb12 : b < 12 := by omega
    rw [mX4_isHeap_19, if_neg (n12 hb12)]
    rcases hv with ⟨rfl, h⟩ | ⟨rfl, h⟩
    · rw [if_neg one_ne0, has_bm s hb12, m_overBits m4 hb12, Option.bind_some]
      have e : (bm s &&& (((1 : Int32) <<< (nI b &&& 31)) ^^^ (-1 : Int32))) &&& (bm (ov M b) ^^^ (-1 : Int32)) = bm (fun j => (s j && !decide (j = b)) && !ov M b j) := by
        show (bm s &&& (mX3_bit (nI b) ^^^ (-1 : Int32))) &&& (bm (ov M b) ^^^ (-1 : Int32)) = _
        rw [bit_bm hb12, bm_andn, bm_andn]
      rw [e]
      cases hs : s b with
      | false =>
        rw [if_pos (by rfl), mX4_isHeap_55, mX4_isHeap_60, nI_1]
        refine ih n (b + 1) 1 (by omega) (by omega) (Or.inl ⟨rfl, h.1, fun i hi q => ?_⟩)
        rcases (by omega : i < b ∨ i = b) with z | z
        · exact h.2 i z q
        · rw [z, hs] at q; cases q
      | true =>
        rw [if_neg (by decide)]
        by_cases g : bm (fun j => (s j && !decide (j = b)) && !ov M b j) = 0
        · rw [if_pos g, mX4_isHeap_55, mX4_isHeap_60, nI_1]
          refine ih n (b + 1) 1 (by omega) (by omega) (Or.inl ⟨rfl, h.1, fun i hi q j hj qj hne => ?_⟩)
          rcases (by omega : i < b ∨ i = b) with z | z
          · exact h.2 i z q j hj qj hne
          · subst z
            have := (bz_bm _).mp g j hj
            rw [qj, decide_eq_false (Ne.symm hne)] at this
            simpa using this
        · rw [if_neg g, mX4_isHeap_60, nI_1]
          refine ih n (b + 1) 0 (by omega) (by omega) (Or.inr ⟨rfl, fun q => g ((bz_bm _).mpr (fun j hj => ?_))⟩)
          by_cases e1 : j = b
          · simp [e1]
          · cases e2 : s j with
            | false => simp
            | true => rw [q.2 b hb12 hs j hj e2 (Ne.symm e1)]; simp
    · rw [if_pos rfl]
      exact ⟨fun q => absurd q h, fun _ => rfl⟩
theorem m_isHeap {τ : bx_St} {T : Nat → Bool} {tc : Bool} {M : Nat → Nat → Nat → Bool} (m1 : MB τ T tc) (m4 : MM τ M) (s : Nat → Bool) : (HP T (ov M) s → mX4_isHeap (bm s) τ = some 1) ∧ (¬ HP T (ov M) s → mX4_isHeap (bm s) τ = some 0) := by
  rw [mX4_isHeap, m1.1, bm_andn]
  by_cases g : bm (fun j => s j && !T j) = 0
  · rw [if_pos g, mX4_isHeap_16]
    refine m_isHeap_loop m4 s 12 5000 0 1 rfl (by omega) (Or.inl ⟨rfl, fun j hj q => ?_, fun i hi => absurd hi (Nat.not_lt_zero i)⟩)
    have := (bz_bm _).mp g j hj
    rw [q] at this
    simpa using this
  · rw [if_neg g, mX4_isHeap_16]
    refine m_isHeap_loop m4 s 12 5000 0 0 rfl (by omega) (Or.inr ⟨rfl, fun q => g ((bz_bm _).mpr (fun j hj => ?_))⟩)
    cases e2 : s j with
    | false => simp
    | true => rw [q.1 j hj e2]; simp
theorem HP_cong {T : Nat → Bool} {O : Nat → Nat → Bool} {s t : Nat → Bool} (e : ∀ j, j < 12 → s j = t j) (h : HP T O s) : HP T O t :=
  ⟨fun j hj q => h.1 j hj ((e j hj).trans q), fun i hi qi j hj qj => h.2 i hi ((e i hi).trans qi) j hj ((e j hj).trans qj)⟩
theorem m_deep_loop {τ : bx_St} {T : Nat → Bool} {tc : Bool} {M : Nat → Nat → Nat → Bool} (m1 : MB τ T tc) (m4 : MM τ M) : ∀ (k n i b : Nat), i + k = 4096 → k < n → b < i → HP T (ov M) b.testBit → (∀ t, t < i → HP T (ov M) t.testBit → fb_ct t.testBit 12 < fb_ct b.testBit 12 ∨ (fb_ct t.testBit 12 = fb_ct b.testBit 12 ∧ b ≤ t)) → ∃ r, r < 4096 ∧ mX4_deepest_4 n (nI b) (nI i) τ = some (nI r) ∧ HP T (ov M) r.testBit ∧ ∀ t, t < 4096 → HP T (ov M) t.testBit → fb_ct t.testBit 12 < fb_ct r.testBit 12 ∨ (fb_ct t.testBit 12 = fb_ct r.testBit 12 ∧ r ≤ t) := by
  intro k
  induction k with
  | zero =>
    intro n i b hi hn hb h1 h2
    obtain ⟨n, rfl⟩ : ∃ m, n = m + 1 := ⟨n - 1, by omega⟩
    have : i = 4096 := by omega
    subst this
    exact ⟨b, hb, by rw [mX4_deepest_4, if_pos (by decide)], h1, h2⟩
  | succ k ih =>
    intro n i b hi hn hb h1 h2
    obtain ⟨n, rfl⟩ : ∃ m, n = m + 1 := ⟨n - 1, by omega⟩
    obtain ⟨y1, y2⟩ := m_isHeap m1 m4 i.testBit
    rw [← nI_tb (by omega)] at y1 y2
    have o1 : mX4_ones (nI i) = some (nI (fb_ct i.testBit 12)) := by rw [nI_tb (by omega)]; exact ones_bm _
    have o2 : mX4_ones (nI b) = some (nI (fb_ct b.testBit 12)) := by rw [nI_tb (by omega)]; exact ones_bm _
    have l1 := fb_ct_le i.testBit 12
    have l2 := fb_ct_le b.testBit 12
    rw [mX4_deepest_4, if_neg (n4096 (by omega)), o1, o2, Option.bind_some, Option.bind_some]
    have stay : (HP T (ov M) i.testBit → fb_ct i.testBit 12 ≤ fb_ct b.testBit 12) → ∃ r, r < 4096 ∧ mX4_deepest_34 (mX4_deepest_4 n) (nI b) (nI i) τ = some (nI r) ∧ HP T (ov M) r.testBit ∧ ∀ t, t < 4096 → HP T (ov M) t.testBit → fb_ct t.testBit 12 < fb_ct r.testBit 12 ∨ (fb_ct t.testBit 12 = fb_ct r.testBit 12 ∧ r ≤ t) := by
      intro q
      rw [mX4_deepest_34, mX4_deepest_35, nI_1]
      refine ih n (i + 1) b (by omega) (by omega) (by omega) h1 (fun t ht hp => ?_)
      rcases (by omega : t < i ∨ t = i) with z | z
      · exact h2 t z hp
      · subst z
        have := q hp
        omega
    by_cases g : fb_ct i.testBit 12 ≤ fb_ct b.testBit 12
    · rw [if_pos (nI_le g (by omega))]
      exact stay (fun _ => g)
    · rw [if_neg (nI_ge (by omega) (by omega))]
      by_cases q : HP T (ov M) i.testBit
      · rw [y1 q, Option.bind_some, if_neg one_ne0, mX4_deepest_35, nI_1]
        refine ih n (i + 1) i (by omega) (by omega) (by omega) q (fun t ht hp => ?_)
        rcases (by omega : t < i ∨ t = i) with z | z
        · rcases h2 t z hp with z2 | ⟨z2, -⟩ <;> left <;> omega
        · subst z; right; exact ⟨rfl, Nat.le_refl _⟩
      · rw [y2 q, Option.bind_some, if_pos rfl]
        exact stay (fun z => absurd z q)
theorem m_deepest {τ : bx_St} {T : Nat → Bool} {tc : Bool} {M : Nat → Nat → Nat → Bool} (m1 : MB τ T tc) (m4 : MM τ M) : ∃ r, mX4_deepest τ = some (bm r) ∧ BH T (ov M) r := by
  have h0 : ∀ j, Nat.testBit 0 j = false := fun j => Nat.zero_testBit j
  obtain ⟨r, hr, e, h1, h2⟩ := m_deep_loop (T := T) m1 m4 4095 5000 1 0 rfl (by omega) (by omega) ⟨fun j _ q => (by rw [h0] at q; cases q), fun i _ q => (by rw [h0] at q; cases q)⟩ (fun t ht _ => by
    have : t = 0 := by omega
    subst this
    right; exact ⟨rfl, Nat.le_refl _⟩)
  refine ⟨r.testBit, by rw [mX4_deepest, ← nI_tb hr]; exact e, h1, fun t ht => ?_⟩
  have ht4 : nm t < 4096 := bm_N_lt t 12
  have et : ∀ j, j < 12 → t j = (nm t).testBit j := fun j hj => by rw [bm_N_tb, decide_eq_true hj, Bool.true_and]
  have := h2 (nm t) ht4 (HP_cong et ht)
  rw [← fb_ct_cong et, nm_tb hr] at *
  exact this
theorem deepest_eq {σ τ : bx_St} {T : Nat → Bool} {tc : Bool} {M : Nat → Nat → Nat → Bool} (x1 : XB σ T tc) (x6 : XO σ (ov M)) (m1 : MB τ T tc) (m4 : MM τ M) (hs : ∀ a b, a < 12 → b < 12 → ov M a b = ov M b a) : ∃ f : Nat → Bool, mX3_deepest σ = some (bm f) ∧ mX4_deepest τ = some (bm f) := by
  obtain ⟨r, e1, h1⟩ := x_deepest x1 x6 hs
  obtain ⟨s, e2, h2⟩ := m_deepest m1 m4
  exact ⟨r, e1, by rw [e2, BH_one h2 h1]⟩
theorem heapNow_eq {σ τ : bx_St} (h : bx_R σ τ) : ∀ j, j < 4 → ∃ u, mX3_heap (nI j) σ = some u ∧ mX4_heapNow (nI j) τ = some u := by
  obtain ⟨⟨T, tc, V, F, u, M, ⟨x1, x2, x3, x4, x5, x6⟩, ⟨m1, m2, m3, m4⟩, ⟨i1, i2, i3, i4, i5⟩⟩, -, -⟩ := h
  have hs := ov_sym i5
  have ho : ∀ a b, a < 12 → b < 12 → ov M a b = true → T b = true := fun a b ha hb q => (ov_in i5 ha hb q).2.1
  intro j hj
  rcases (by omega : j = 0 ∨ j = 1 ∨ j = 2 ∨ j = 3) with rfl | rfl | rfl | rfl
  · obtain ⟨u, e1, e2⟩ := groups_eq x1 x6 m1 m4 hs ho
    exact ⟨u, by rw [mX3_heap, if_pos (by rfl), e1]; rfl, by rw [mX4_heapNow, if_pos (by rfl), e2]; rfl⟩
  · obtain ⟨u, e1, e2⟩ := great_eq x1 x6 m1 m4 hs ho
    exact ⟨u, by rw [mX3_heap, if_neg (by decide), if_pos (by rfl), e1]; rfl, by rw [mX4_heapNow, if_neg (by decide), if_pos (by rfl), e2]; rfl⟩
  · obtain ⟨f, e1, e2⟩ := deepest_eq x1 x6 m1 m4 hs
    exact ⟨bm f, by rw [mX3_heap, if_neg (by decide), if_neg (by decide), if_pos (by rfl), e1]; rfl, by rw [mX4_heapNow, if_neg (by decide), if_neg (by decide), if_pos (by rfl), e2]; rfl⟩
  · obtain ⟨f, e1, e2⟩ := deepest_eq x1 x6 m1 m4 hs
    refine ⟨nI (fb_ct f 12), ?_, ?_⟩
    · rw [mX3_heap, if_neg (by decide), if_neg (by decide), if_neg (by decide), if_pos (by rfl), e1, Option.bind_some, bc_bm]
    · rw [mX4_heapNow, if_neg (by decide), if_neg (by decide), if_neg (by decide), e2, Option.bind_some, ones_bm]
      rfl
theorem P_heap (σ τ : bx_St) (v1 : Int32) (h : bx_R σ τ) : ∃ u w, mX3_heap v1 σ = some u ∧ mX4_heap v1 τ = some w ∧ u = w ∧ bx_R σ τ := by
  rcases cases_n v1 3 (by decide) with h1 | ⟨j, hj, rfl⟩
  · have k := fun j hj => ne_out (j := j) h1 (by decide) hj
    have k0 : ¬ v1 = 0 := k 0 (by omega)
    have k1 : ¬ v1 = 1 := k 1 (by omega)
    have k2 : ¬ v1 = 2 := k 2 (by omega)
    have k3 : ¬ v1 = 3 := k 3 (by omega)
    refine ⟨-10003, -10003, ?_, ?_, rfl, h⟩
    · simp only [mX3_heap, if_neg k0, if_neg k1, if_neg k2, if_neg k3]
    · rw [mX4_heap, within_no (v := v1) (lo := 0) (hi := 3) h1, if_pos rfl]
  · obtain ⟨u, e1, e2⟩ := heapNow_eq h j (by omega)
    refine ⟨u, u, e1, ?_, rfl, h⟩
    rw [mX4_heap, within_yes (nI_pos (by omega)) (g3 hj), if_neg one_ne0, e2]
    rfl
