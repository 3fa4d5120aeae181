/-! ends put in order anew -/
def insF (lt : Nat → Nat → Bool) (c : Nat) : Nat → (Nat → Nat) → (Nat → Nat)
  | 0, f => fun j => if j = 0 then c else f j
  | p + 1, f => if lt c (f p) then insF lt c p (fun j => if j = p + 1 then f p else f j) else (fun j => if j = p + 1 then c else f j)
theorem insF_0 (lt : Nat → Nat → Bool) (c : Nat) (f : Nat → Nat) (j : Nat) : insF lt c 0 f j = if j = 0 then c else f j := rfl
theorem insF_ok (κ : Nat → Int) (c : Nat) (Q : Nat → Prop) (hc : ∀ d, Q d → κ d ≠ κ c) : ∀ (p u : Nat) (f : Nat → Nat), p ≤ u → (∀ i, i ≤ u → i ≠ p → Q (f i)) → (∀ i j, i < j → j ≤ u → i ≠ p → j ≠ p → κ (f i) < κ (f j)) → (∀ i, p < i → i ≤ u → κ c < κ (f i)) → (∀ d, Q d → ∃ i, i ≤ u ∧ i ≠ p ∧ f i = d) → (∀ i, i ≤ u → insF (fun a b => decide (κ a < κ b)) c p f i = c ∨ Q (insF (fun a b => decide (κ a < κ b)) c p f i)) ∧ (∀ i j, i < j → j ≤ u → κ (insF (fun a b => decide (κ a < κ b)) c p f i) < κ (insF (fun a b => decide (κ a < κ b)) c p f j)) ∧ (∀ d, (Q d ∨ d = c) → ∃ i, i ≤ u ∧ insF (fun a b => decide (κ a < κ b)) c p f i = d) := by
  intro p
  induction p with
  | zero =>
    intro u f hp hq hs hl hd
    refine ⟨fun i hi => ?_, fun i j hij hj => ?_, fun d h => ?_⟩
    · by_cases q : i = 0
      · left; rw [insF_0, if_pos q]
      · right; rw [insF_0, if_neg q]; exact hq i hi q
    · rw [insF_0, insF_0, if_neg (by omega : ¬ j = 0)]
      by_cases q : i = 0
      · rw [if_pos q]; exact hl j (by omega) hj
      · rw [if_neg q]; exact hs i j hij hj q (by omega)
    · rcases h with h | h
      · obtain ⟨i, i1, i2, i3⟩ := hd d h
        exact ⟨i, i1, by rw [insF_0, if_neg i2, i3]⟩
      · exact ⟨0, by omega, by rw [insF_0, if_pos rfl, h]⟩
  | succ p ih =>
    intro u f hp hq hs hl hd
    by_cases g : κ c < κ (f p)
    · rw [insF, if_pos (decide_eq_true g)]
      refine ih u _ (by omega) ?_ ?_ ?_ ?_
      · intro i hi hne
        by_cases q : i = p + 1
        · rw [if_pos q]; exact hq p (by omega) (by omega)
        · rw [if_neg q]; exact hq i hi q
      · intro i j hij hj h1 h2
        by_cases q : i = p + 1
        · rw [if_pos q, if_neg (by omega)]; exact hs p j (by omega) hj (by omega) (by omega)
        · rw [if_neg q]
          by_cases q2 : j = p + 1
          · rw [if_pos q2]; exact hs i p (by omega) (by omega) (by omega) (by omega)
          · rw [if_neg q2]; exact hs i j hij hj q q2
      · intro i h1 h2
        by_cases q : i = p + 1
        · rw [if_pos q]; exact g
        · rw [if_neg q]; exact hl i (by omega) h2
      · intro d h
        obtain ⟨i, i1, i2, i3⟩ := hd d h
        by_cases q : i = p
        · exact ⟨p + 1, hp, by omega, by rw [if_pos rfl, ← q, i3]⟩
        · exact ⟨i, i1, q, by rw [if_neg i2, i3]⟩
    · have g' : κ (f p) < κ c := by
        have := hc (f p) (hq p (by omega) (by omega))
        omega
      rw [insF, if_neg (by rw [decide_eq_false g]; decide)]
      refine ⟨fun i hi => ?_, fun i j hij hj => ?_, fun d h => ?_⟩
      · by_cases q : i = p + 1
        · left; rw [if_pos q]
        · right; rw [if_neg q]; exact hq i hi q
      · by_cases q : i = p + 1
        · rw [if_pos q, if_neg (by omega)]; exact hl j (by omega) hj
        · rw [if_neg q]
          by_cases q2 : j = p + 1
          · rw [if_pos q2]
            by_cases q3 : i = p
            · rw [q3]; exact g'
            · have := hs i p (by omega) (by omega) (by omega) (by omega)
              omega
          · rw [if_neg q2]; exact hs i j hij hj q q2
      · rcases h with h | h
        · obtain ⟨i, i1, i2, i3⟩ := hd d h
          exact ⟨i, i1, by rw [if_neg i2, i3]⟩
        · exact ⟨p + 1, hp, by rw [if_pos rfl, h]⟩
def klt (tc : Bool) (V : Nat → Nat → Int) (ax : Nat) : Nat → Nat → Bool := fun a b => decide (ky tc V ax a < ky tc V ax b)
def cnt (T : Nat → Bool) (e : Nat) : Nat := fb_ct (fun d => T (d / 2)) e
theorem cnt_le (T : Nat → Bool) (e : Nat) : cnt T e ≤ e := fb_ct_le _ e
theorem cnt_succ (T : Nat → Bool) (e : Nat) : cnt T (e + 1) = cnt T e + (if T (e / 2) then 1 else 0) := rfl
def rowF (T : Nat → Bool) (lt : Nat → Nat → Bool) (f : Nat → Nat) : Nat → (Nat → Nat)
  | 0 => f
  | e + 1 => if T (e / 2) then insF lt e (cnt T e) (rowF T lt f e) else rowF T lt f e
theorem ky_inj {tc : Bool} {V : Nat → Nat → Int} {ax c d : Nat} (hc : c < 24) (hd : d < 24) (h : ky tc V ax c = ky tc V ax d) : c = d := by
  unfold ky at h
  rcases (by omega : c % 2 = 0 ∨ c % 2 = 1) with h1 | h1 <;> rcases (by omega : d % 2 = 0 ∨ d % 2 = 1) with h2 | h2 <;> cases tc <;> simp [h1, h2] at h <;> omega
theorem rowF_ok (T : Nat → Bool) (tc : Bool) (V : Nat → Nat → Int) (ax : Nat) (f : Nat → Nat) : ∀ e, e ≤ 24 → (∀ i, i < cnt T e → rowF T (klt tc V ax) f e i < e ∧ T (rowF T (klt tc V ax) f e i / 2) = true) ∧ (∀ i j, i < j → j < cnt T e → ky tc V ax (rowF T (klt tc V ax) f e i) < ky tc V ax (rowF T (klt tc V ax) f e j)) ∧ (∀ d, d < e → T (d / 2) = true → ∃ i, i < cnt T e ∧ rowF T (klt tc V ax) f e i = d) := by
  intro e
  induction e with
  | zero => intro _; exact ⟨fun i h => absurd h (Nat.not_lt_zero i), fun i j _ h => absurd h (Nat.not_lt_zero j), fun d h => absurd h (Nat.not_lt_zero d)⟩
  | succ e ih =>
    intro he
    obtain ⟨i1, i2, i3⟩ := ih (by omega)
    cases hT : T (e / 2) with
    | false =>
      rw [rowF, hT, if_neg (by decide), cnt_succ, hT]
      refine ⟨fun i hi => ?_, fun i j h1 h2 => i2 i j h1 h2, fun d hd hTd => ?_⟩
      · have := i1 i hi; exact ⟨by omega, this.2⟩
      · by_cases q : d = e
        · rw [q, hT] at hTd; cases hTd
        · exact i3 d (by omega) hTd
    | true =>
      have hcu : cnt T (e + 1) = cnt T e + 1 := by rw [cnt_succ, hT]; rfl
      rw [rowF, hT, if_pos rfl, hcu]
      obtain ⟨k1, k2, k3⟩ := insF_ok (ky tc V ax) e (fun d => d < e ∧ T (d / 2) = true) (fun d hd q => by
        have := ky_inj (by omega) (by omega) q
        omega) (cnt T e) (cnt T e) (rowF T (klt tc V ax) f e) (by omega) (fun i h1 h2 => i1 i (by omega)) (fun i j h1 h2 h3 h4 => i2 i j h1 (by omega)) (fun i h1 h2 => absurd h1 (by omega)) (fun d hd => by
          obtain ⟨i, h1, h2⟩ := i3 d hd.1 hd.2
          exact ⟨i, by omega, by omega, h2⟩)
      refine ⟨fun i hi => ?_, fun i j h1 h2 => k2 i j h1 (by omega), fun d hd hTd => ?_⟩
      · rcases k1 i (by omega) with q | q
        · show insF (klt tc V ax) e (cnt T e) (rowF T (klt tc V ax) f e) i < e + 1 ∧ _
          unfold klt at *
          rw [q]; exact ⟨by omega, hT⟩
        · exact ⟨Nat.lt_succ_of_lt q.1, q.2⟩
      · obtain ⟨i, h1, h2⟩ := k3 d (by by_cases q : d = e; exact Or.inr q; exact Or.inl ⟨by omega, hTd⟩)
        exact ⟨i, by omega, h2⟩
/-! the class puts an end in -/
def LO (σ : bx_St) (ax : Nat) (f : Nat → Nat) : Prop := ∀ p, p < 24 → σ.1 (8 + 5 * ax + 3) p = nI (f p)
def RO (τ : bx_St) (ax : Nat) (f : Nat → Nat) : Prop := ∀ p, p < 24 → τ.1 3 (24 * ax + p) = nI (f p)
theorem LO.put {σ : bx_St} {ax : Nat} {f : Nat → Nat} (h : LO σ ax f) (p c : Nat) : LO (bx_up σ (8 + 5 * ax + 3) p (nI c)) ax (fun j => if j = p then c else f j) := by
  intro j hj
  rw [up_get, if_pos rfl]
  show (if j = p then nI c else σ.1 (8 + 5 * ax + 3) j) = nI (if j = p then c else f j)
  by_cases q : j = p
  · rw [if_pos q, if_pos q]
  · rw [if_neg q, if_neg q]; exact h j hj
theorem XV.put {σ : bx_St} {V : Nat → Nat → Int} (h : XV σ V) {k i : Nat} {x : Int32} (hk : ∀ a, a < 3 → k ≠ 8 + 5 * a + 1 ∧ k ≠ 8 + 5 * a + 2) : XV (bx_up σ k i x) V := by
  intro a ha b hb
  have := hk a ha
  rw [up_get, if_neg (by omega), up_get, if_neg (by omega)]
  exact h a ha b hb
theorem x_ins_loop {V : Nat → Nat → Int} {tc : Bool} (hr : VR V) {ax c : Nat} (ha : ax < 3) (hc : c < 24) : ∀ (p n : Nat) (f : Nat → Nat) (σ : bx_St), p < 24 → p < n → XV σ V → σ.1 (8 + 5 * ax) 5 = bI tc → LO σ ax f → (∀ i, i < p → f i < 24) → ∃ σ', mX1_insert_5 (8 + 5 * ax) n (nI c) (nI p) σ = some σ' ∧ LO σ' ax (insF (klt tc V ax) c p f) ∧ σ'.1 (8 + 5 * ax) 4 = σ.1 (8 + 5 * ax) 4 + 1 ∧ (∀ k i, k ≠ 8 + 5 * ax + 3 → (k = 8 + 5 * ax → i ≠ 4) → σ'.1 k i = σ.1 k i) := by
  have fin : ∀ (p : Nat) (f : Nat → Nat) (σ : bx_St), p < 24 → LO σ ax f → ∃ σ', mX1_insert_45 (8 + 5 * ax) (nI c) (nI p) σ = some σ' ∧ LO σ' ax (fun j => if j = p then c else f j) ∧ σ'.1 (8 + 5 * ax) 4 = σ.1 (8 + 5 * ax) 4 + 1 ∧ (∀ k i, k ≠ 8 + 5 * ax + 3 → (k = 8 + 5 * ax → i ≠ 4) → σ'.1 k i = σ.1 k i) := by
    intro p f σ hp hl
    refine ⟨_, by rw [mX1_insert_45, if_pos (ok_nI hp (by decide)), cl_nI (by omega), bx_let], ?_, ?_, ?_⟩
    · intro j hj
      rw [up_get, if_neg (by omega)]
      exact hl.put p c j hj
    · rw [up_get, if_pos rfl, if_pos rfl, up_get, if_neg (by omega)]
    · intro k i q1 q2
      rw [up_get]
      by_cases q : k = 8 + 5 * ax
      · rw [if_pos q, if_neg (q2 q), up_get, if_neg (by omega), q]
      · rw [if_neg q, up_get, if_neg q1]
  intro p
  induction p with
  | zero =>
    intro n f σ hp hn hv hk hl hf
    obtain ⟨n, rfl⟩ : ∃ m, n = m + 1 := ⟨n - 1, by omega⟩
    rw [mX1_insert_5, if_pos (by decide)]
    exact fin 0 f σ hp hl
  | succ p ih =>
    intro n f σ hp hn hv hk hl hf
    obtain ⟨n, rfl⟩ : ∃ m, n = m + 1 := ⟨n - 1, by omega⟩
    have ep : nI (p + 1) - 1 = nI p := nI_pred p
    have ep2 : nI (p + 1) + (-1) = nI p := by rw [← ep]; exact (Int32.sub_eq_add_neg _ _).symm
    rw [mX1_insert_5, if_neg (by rw [le0_iff (by omega)]; omega), ep, if_pos (ok_nI (by omega) (by decide))]
    simp only [cl_nI (show p < 2 ^ 31 by omega), cl_nI (show p + 1 < 2 ^ 31 by omega)]
    rw [hl p (by omega), x_isAhead1 hv hk hr hc (hf p (by omega)) ha, Option.bind_some, insF]
    by_cases g : ky tc V ax c < ky tc V ax (f p)
    · rw [decide_eq_true g, if_neg (by decide), if_pos (ok_nI (by omega) (by decide)), if_pos (ok_nI hp (by decide)), bx_let, ep2, if_pos (show klt tc V ax c (f p) = true from decide_eq_true g)]
      obtain ⟨σ', e1, e2, e3, e4⟩ := ih n (fun j => if j = p + 1 then f p else f j) (bx_up σ (8 + 5 * ax + 3) (p + 1) (nI (f p))) (by omega) (by omega) (hv.put (by omega)) (by rw [up_get, if_neg (by omega), hk]) (hl.put (p + 1) (f p)) (fun i hi => by
        show (if i = p + 1 then f p else f i) < 24
        rw [if_neg (by omega)]; exact hf i (by omega))
      refine ⟨σ', e1, e2, ?_, ?_⟩
      · rw [e3, up_get, if_neg (by omega)]
      · intro k i q1 q2
        rw [e4 k i q1 q2, up_get, if_neg q1]
    · rw [decide_eq_false g, if_pos (by rfl), if_neg (show ¬ klt tc V ax c (f p) = true by unfold klt; rw [decide_eq_false g]; decide)]
      exact fin (p + 1) f σ hp hl
theorem MV.put {τ : bx_St} {V : Nat → Nat → Int} (h : MV τ V) {k i : Nat} {x : Int32} (hk : k ≠ 2) : MV (bx_up τ k i x) V := by
  intro a ha b hb j hj
  rw [up_get, if_neg (Ne.symm hk)]
  exact h a ha b hb j hj
theorem RO.put {τ : bx_St} {ax : Nat} {f : Nat → Nat} (h : RO τ ax f) (p c : Nat) : RO (bx_up τ 3 (24 * ax + p) (nI c)) ax (fun j => if j = p then c else f j) := by
  intro j hj
  rw [up_get, if_pos rfl]
  show (if 24 * ax + j = 24 * ax + p then nI c else τ.1 3 (24 * ax + j)) = nI (if j = p then c else f j)
  by_cases q : j = p
  · rw [if_pos (by omega), if_pos q]
  · rw [if_neg (by omega), if_neg q]; exact h j hj
theorem m_ix24 (a b : Nat) : ((24 : Int32) * nI a) + nI b = nI (24 * a + b) := by
  show nI 24 * nI a + nI b = _
  rw [pk_mul, nI_add]
theorem m_ins_loop {V : Nat → Nat → Int} {T : Nat → Bool} {tc : Bool} (hr : VR V) {ax c : Nat} (ha : ax < 3) (hc : c < 24) (K : Int32 → Int32 → bx_St → Option bx_St) : ∀ (p n : Nat) (f : Nat → Nat) (τ : bx_St), p < 24 → p < n → MV τ V → MB τ T tc → RO τ ax f → (∀ i, i < p → f i < 24) → ∃ τ', mX4_layRow_31 K n (nI ax) (nI c) (nI p) τ = K (nI ax) (nI (c + 1)) τ' ∧ RO τ' ax (insF (klt tc V ax) c p f) ∧ τ'.1 0 5 = τ.1 0 5 + 1 ∧ (∀ k i, (k = 3 → i < 24 * ax ∨ 24 * ax + 24 ≤ i) → (k = 0 → i ≠ 5) → τ'.1 k i = τ.1 k i) := by
  have fin : ∀ (p : Nat) (f : Nat → Nat) (τ : bx_St), p < 24 → RO τ ax f → ∃ τ', mX4_layRow_93 K (nI ax) (nI c) (nI p) τ = K (nI ax) (nI (c + 1)) τ' ∧ RO τ' ax (fun j => if j = p then c else f j) ∧ τ'.1 0 5 = τ.1 0 5 + 1 ∧ (∀ k i, (k = 3 → i < 24 * ax ∨ 24 * ax + 24 ≤ i) → (k = 0 → i ≠ 5) → τ'.1 k i = τ.1 k i) := by
    intro p f τ hp hl
    refine ⟨_, by rw [mX4_layRow_93, m_ix24, if_pos (ok_nI (by omega) (by decide)), cl_nI (by omega), bx_let, mX4_layRow_115, nI_1], ?_, ?_, ?_⟩
    · intro j hj
      rw [up_get, if_neg (by omega)]
      exact hl.put p c j hj
    · rw [up_get, if_pos rfl, if_pos rfl, up_get, if_neg (by omega)]
    · intro k i q1 q2
      rw [up_get]
      by_cases q : k = 0
      · rw [if_pos q, if_neg (q2 q), up_get, if_neg (by omega), q]
      · rw [if_neg q, up_get]
        by_cases q3 : k = 3
        · have := q1 q3
          rw [if_pos q3, if_neg (by omega), q3]
        · rw [if_neg q3]
  intro p
  induction p with
  | zero =>
    intro n f τ hp hn hv hk hl hf
    obtain ⟨n, rfl⟩ : ∃ m, n = m + 1 := ⟨n - 1, by omega⟩
    rw [mX4_layRow_31, if_pos (by decide)]
    exact fin 0 f τ hp hl
  | succ p ih =>
    intro n f τ hp hn hv hk hl hf
    obtain ⟨n, rfl⟩ : ∃ m, n = m + 1 := ⟨n - 1, by omega⟩
    have ep : nI (24 * ax + (p + 1)) - 1 = nI (24 * ax + p) := nI_pred (24 * ax + p)
    have ep1 : nI (p + 1) - 1 = nI p := nI_pred p
    have ep2 : nI (p + 1) + (-1) = nI p := by rw [← ep1]; exact (Int32.sub_eq_add_neg _ _).symm
    rw [mX4_layRow_31, if_neg (by rw [le0_iff (by omega)]; omega), m_valueOf hv hc ha, Option.bind_some, m_ix24, ep, if_pos (ok_nI (by omega) (by decide))]
    simp only [cl_nI (show 24 * ax + p < 2 ^ 31 by omega), cl_nI (show 24 * ax + (p + 1) < 2 ^ 31 by omega)]
    rw [hl p (by omega), m_isAhead hv hk hr (hr ax ha c hc) hc (hf p (by omega)) ha, Option.bind_some, insF, ← ky_kz]
    by_cases g : ky tc V ax c < ky tc V ax (f p)
    · rw [decide_eq_true g, if_neg (by decide), if_pos (ok_nI (by omega) (by decide)), if_pos (ok_nI (by omega) (by decide)), bx_let, ep2, if_pos (show klt tc V ax c (f p) = true from decide_eq_true g)]
      obtain ⟨τ', e1, e2, e3, e4⟩ := ih n (fun j => if j = p + 1 then f p else f j) (bx_up τ 3 (24 * ax + (p + 1)) (nI (f p))) (by omega) (by omega) (hv.put (by decide)) ⟨by rw [up_get, if_neg (by decide)]; exact hk.1, by rw [up_get, if_neg (by decide)]; exact hk.2⟩ (hl.put (p + 1) (f p)) (fun i hi => by
        show (if i = p + 1 then f p else f i) < 24
        rw [if_neg (by omega)]; exact hf i (by omega))
      refine ⟨τ', e1, e2, ?_, ?_⟩
      · rw [e3, up_get, if_neg (by omega)]
      · intro k i q1 q2
        rw [e4 k i q1 q2, up_get]
        by_cases q3 : k = 3
        · have := q1 q3
          rw [if_pos q3, if_neg (by omega), q3]
        · rw [if_neg q3]
    · rw [decide_eq_false g, if_pos (by rfl), if_neg (show ¬ klt tc V ax c (f p) = true by unfold klt; rw [decide_eq_false g]; decide)]
      exact fin (p + 1) f τ hp hl
