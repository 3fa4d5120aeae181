def setA {α : Type} (F : Nat → α) (ax : Nat) (x : α) (a : Nat) : α := if a = ax then x else F a
theorem setA_eq {α : Type} (F : Nat → α) (ax : Nat) (x : α) : setA F ax x ax = x := if_pos rfl
theorem setA_ne {α : Type} (F : Nat → α) {ax a : Nat} (x : α) (h : a ≠ ax) : setA F ax x a = F a := if_neg h
theorem oth_ne {M M' : Nat → Nat → Nat → Bool} {ax : Nat} (ha : ax < 3) (h : ∀ x a b, x ≠ ax → M' x a b = M x a b) (a b : Nat) : oth M' ax a b = oth M ax a b := by
  unfold oth
  rcases (by omega : ax = 0 ∨ ax = 1 ∨ ax = 2) with q | q | q <;> subst q <;> simp [h]
theorem ov_oth {M M' : Nat → Nat → Nat → Bool} {ax a b : Nat} (ha : ax < 3) (h : ∀ x a b, x ≠ ax → M' x a b = M x a b) (hf : M' ax a b = !M ax a b) : (ov M a b = ov M' a b) ↔ oth M ax a b = false := by
  unfold oth ov
  rcases (by omega : ax = 0 ∨ ax = 1 ∨ ax = 2) with q | q | q <;> subst q
  · rw [h 1 a b (by omega), h 2 a b (by omega), hf]
    cases M 0 a b <;> cases M 1 a b <;> cases M 2 a b <;> simp
  · rw [h 0 a b (by omega), h 2 a b (by omega), hf]
    cases M 0 a b <;> cases M 1 a b <;> cases M 2 a b <;> simp
  · rw [h 0 a b (by omega), h 1 a b (by omega), hf]
    cases M 0 a b <;> cases M 1 a b <;> cases M 2 a b <;> simp
theorem oth_sym (T : Nat → Bool) (P : Nat → Nat → Nat) (ax a b : Nat) : oth (mp T P) ax a b = oth (mp T P) ax b a := by
  unfold oth mp
  rw [mpa_sym T (P 0), mpa_sym T (P 1), mpa_sym T (P 2)]
def tq (T : Nat → Bool) (P : Nat → Nat → Nat) (f : Nat → Nat) (ax p : Nat) : Nat := if f p % 2 = f (p + 1) % 2 then 0 else if oth (mp T P) ax (f p / 2) (f (p + 1) / 2) then 1 else 0
/-- a row with two ends swapped -/
theorem x_swapNext {σ : bx_St} {ax p : Nat} {f : Nat → Nat} (hp : p + 1 < 24) (hl : LO σ ax f) : ∃ σ', mX1_swapWithNext (8 + 5 * ax) (nI p) σ = some σ' ∧ LO σ' ax (swF f p) ∧ (∀ k i, k ≠ 8 + 5 * ax + 3 → σ'.1 k i = σ.1 k i) := by
  have o1 : bx_ok (nI p) 24 := ok_nI (by omega) (by decide)
  have o2 : bx_ok (nI (p + 1)) 24 := ok_nI hp (by decide)
  have c1 : (nI p).toNatClampNeg = p := cl_nI (by omega)
  have c2 : (nI (p + 1)).toNatClampNeg = p + 1 := cl_nI (by omega)
  refine ⟨bx_up (bx_up σ (8 + 5 * ax + 3) p (nI (f (p + 1)))) (8 + 5 * ax + 3) (p + 1) (nI (f p)), ?_, ?_, ?_⟩
  · simp only [mX1_swapWithNext, nI_1, if_pos o1, if_pos o2, c1, c2, bx_let, hl p (by omega), hl (p + 1) hp]
  · intro j hj
    unfold swF
    rw [up_get, if_pos rfl]
    by_cases q1 : j = p + 1
    · rw [if_pos q1, if_neg (by omega), if_pos q1]
    · rw [if_neg q1, up_get, if_pos rfl]
      by_cases q2 : j = p
      · rw [if_pos q2, if_pos q2]
      · rw [if_neg q2, if_neg q2, if_neg q1]; exact hl j hj
  · intro k i q; rw [up_get, if_neg q, up_get, if_neg q]
theorem XF.set {σ σ' : bx_St} {F : Nat → Nat → Nat} {u ax : Nat} {f : Nat → Nat} (ha : ax < 3) (h : XF σ F u) (hl : LO σ' ax f) (e : ∀ k i, 8 ≤ k → k ≠ 8 + 5 * ax + 3 → k ≠ 8 + 5 * ax + 4 → σ'.1 k i = σ.1 k i) : XF σ' (setA F ax f) u := by
  intro a h3
  refine ⟨?_, fun p hp => ?_⟩
  · rw [e _ _ (by omega) (by omega) (by omega)]; exact (h a h3).1
  · by_cases q : a = ax
    · subst q; rw [setA_eq]; exact hl p hp
    · rw [setA_ne _ _ q, e _ _ (by omega) (by omega) (by omega)]; exact (h a h3).2 p hp
theorem x_step {σ : bx_St} {T : Nat → Bool} {tc : Bool} {F : Nat → Nat → Nat} {u : Nat} {P : Nat → Nat → Nat} {t ax p c d : Nat} (ha : ax < 3) (x1 : XB σ T tc) (x4 : XF σ F u) (x5 : XM σ (mp T P)) (h10 : σ.1 5 10 = nI t) (hr : RWP T (F ax) u (P ax)) (ho : OWN T (P ax)) (hp : p + 1 < u) (hb : F ax p / 2 ≠ F ax (p + 1) / 2) (hcd : (c = F ax p ∧ d = F ax (p + 1)) ∨ (c = F ax (p + 1) ∧ d = F ax p)) : ∃ σ', (∀ (K24 : Int32 → Int32 → Nat → Int32 → Int32 → Int32 → bx_St → Option bx_St) (v4 v5 v6 : Int32), mX3_putRight_63 K24 (nI ax) (nI c) (8 + 5 * ax) v4 v5 v6 (nI d) (nI p) (8 + 5 * ax) σ = mX3_putRight_100 K24 (nI ax) (nI c) (8 + 5 * ax) v4 v5 v6 σ') ∧ XF σ' (setA F ax (swF (F ax) p)) u ∧ XM σ' (mp T (setA P ax (swP (F ax) p (P ax)))) ∧ σ'.1 5 10 = nI (t + tq T P (F ax) ax p) ∧ σ'.1 7 ax = σ.1 7 ax + 1 ∧ (∀ k i, k ≠ 8 + 5 * ax + 3 → k ≠ 8 + 5 * ax + 4 → (k = 5 → i ≠ 10) → (k = 7 → i ≠ ax) → σ'.1 k i = σ.1 k i) := by
  have h24 := hr.1
  obtain ⟨X1, X2, X3⟩ := hr.2.1 p (by omega)
  obtain ⟨Y1, Y2, Y3⟩ := hr.2.1 (p + 1) hp
  have hc : c < 24 := by rcases hcd with q | q <;> omega
  have hd : d < 24 := by rcases hcd with q | q <;> omega
  have hTd : T (d / 2) = true := by rcases hcd with q | q <;> rw [q.2] <;> assumption
  have hcdb : c / 2 ≠ d / 2 := by rcases hcd with q | q <;> omega
  obtain ⟨σ1, e1, e2, e3⟩ := x_swapNext (σ := σ) (ax := ax) (p := p) (f := F ax) (by omega) (fun q hq => (x4 ax ha).2 q hq)
  have e4 : mX0_addSwap (nI ax) σ1 = some (bx_up σ1 7 ax (σ.1 7 ax + 1)) := by
    rw [mX0_addSwap, if_pos (ok_nI ha (by decide)), if_pos (ok_nI ha (by decide)), cl_nI (by omega), bx_let, e3 7 ax (by omega)]
  have fr2 : ∀ k i, k ≠ 8 + 5 * ax + 3 → (k = 7 → i ≠ ax) → (bx_up σ1 7 ax (σ.1 7 ax + 1)).1 k i = σ.1 k i := fun k i q1 q2 => by
    rw [up_get]
    by_cases q : k = 7
    · rw [if_pos q, if_neg (q2 q), e3 _ _ (by omega), q]
    · rw [if_neg q, e3 _ _ q1]
  have l2 : LO (bx_up σ1 7 ax (σ.1 7 ax + 1)) ax (swF (F ax) p) := fun q hq => by rw [up_get, if_neg (by omega)]; exact e2 q hq
  have s7 : (bx_up σ1 7 ax (σ.1 7 ax + 1)).1 7 ax = σ.1 7 ax + 1 := by rw [up_get, if_pos rfl, if_pos rfl]
  have Mne : ∀ x a b, x ≠ ax → mp T (setA P ax (swP (F ax) p (P ax))) x a b = mp T P x a b := fun x a b q => by unfold mp; rw [setA_ne _ _ q]
  have Mat : ∀ a b, mp T (setA P ax (swP (F ax) p (P ax))) ax a b = mpa T (swP (F ax) p (P ax)) a b := fun a b => by unfold mp; rw [setA_eq]
  generalize hσ2 : bx_up σ1 7 ax (σ.1 7 ax + 1) = σ2 at *
  by_cases hk : F ax p % 2 = F ax (p + 1) % 2
  · have hk2 : c % 2 = d % 2 := by rcases hcd with q | q <;> omega
    refine ⟨σ2, ?_, XF.set ha x4 l2 (fun k i q1 q2 q3 => fr2 k i q2 (fun q => by omega)), ?_, ?_, s7, fun k i q1 q2 q3 q4 => fr2 k i q1 q4⟩
    · intro K24 v4 v5 v6
      rw [mX3_putRight_63, e1, Option.bind_some, e4, Option.bind_some, x_isHigh (by omega), x_isHigh (by omega), if_pos (by rw [hk2])]
    · intro a h3 b hb12
      rw [fr2 _ _ (by omega) (fun q => by omega), x5 a h3 b hb12]
      refine bm_cong (fun j hj => ?_)
      by_cases q : a = ax
      · subst q; rw [Mat]; exact (mpa_same hr hp hk hb12 hj).symm
      · exact (Mne a b j q).symm
    · rw [fr2 _ _ (by omega) (fun q => by omega), h10, tq, if_pos hk]; rfl
  · have hk2 : ¬ c % 2 = d % 2 := by rcases hcd with q | q <;> omega
    obtain ⟨t1, t2⟩ := mpa_two hr ho hp hk hb
    have flip : ∀ a b, (a = c / 2 ∧ b = d / 2) ∨ (a = d / 2 ∧ b = c / 2) → mpa T (swP (F ax) p (P ax)) a b = !mpa T (P ax) a b := by
      have f0 : mpa T (swP (F ax) p (P ax)) (F ax p / 2) (F ax (p + 1) / 2) = !mpa T (P ax) (F ax p / 2) (F ax (p + 1) / 2) := by
        rw [t1, t2]
        rcases (by omega : F ax p % 2 = 0 ∨ F ax p % 2 = 1) with q | q
        · rw [q, show F ax (p + 1) % 2 = 1 by omega]; rfl
        · rw [q, show F ax (p + 1) % 2 = 0 by omega]; rfl
      intro a b q
      rcases (by omega : (a = F ax p / 2 ∧ b = F ax (p + 1) / 2) ∨ (b = F ax p / 2 ∧ a = F ax (p + 1) / 2)) with w | w
      · rw [w.1, w.2]; exact f0
      · rw [mpa_sym T _ a b, mpa_sym T _ a b, w.1, w.2]; exact f0
    have keep : ∀ a b, a < 12 → b < 12 → ¬ (a = c / 2 ∧ b = d / 2) → ¬ (a = d / 2 ∧ b = c / 2) → mpa T (swP (F ax) p (P ax)) a b = mpa T (P ax) a b := fun a b h1 h2 n1 n2 => mpa_else hr hp h1 h2 (fun q => by omega) (fun q => by omega)
    have oc : bx_ok (nI (c / 2)) 12 := ok_nI (by omega) (by decide)
    have od : bx_ok (nI (d / 2)) 12 := ok_nI (by omega) (by decide)
    have cc : (nI (c / 2)).toNatClampNeg = c / 2 := cl_nI (by omega)
    have cd : (nI (d / 2)).toNatClampNeg = d / 2 := cl_nI (by omega)
    have y5 : ∀ a, a < 12 → σ2.1 (8 + 5 * ax + 4) a = bm (mpa T (P ax) a) := fun a h => by rw [fr2 _ _ (by omega) (fun q => by omega)]; exact x5 ax ha a h
    have u1 : bm (mpa T (P ax) (c / 2)) ^^^ mX3_bit (nI (d / 2)) = bm (mpa T (swP (F ax) p (P ax)) (c / 2)) := by
      rw [bm_xor (by omega)]
      refine bm_cong (fun j hj => ?_)
      by_cases q : j = d / 2
      · rw [if_pos q, q, flip _ _ (Or.inl ⟨rfl, rfl⟩)]
      · rw [if_neg q, keep _ _ (by omega) hj (fun w => q w.2) (fun w => hcdb w.1)]
    have u2 : bm (mpa T (P ax) (d / 2)) ^^^ mX3_bit (nI (c / 2)) = bm (mpa T (swP (F ax) p (P ax)) (d / 2)) := by
      rw [bm_xor (by omega)]
      refine bm_cong (fun j hj => ?_)
      by_cases q : j = c / 2
      · rw [if_pos q, q, flip _ _ (Or.inr ⟨rfl, rfl⟩)]
      · rw [if_neg q, keep _ _ (by omega) hj (fun w => hcdb w.1.symm) (fun w => q w.2)]
    have tm : mX1_turnMeeting (8 + 5 * ax) (nI (c / 2)) (nI (d / 2)) σ2 = some (bx_up (bx_up σ2 (8 + 5 * ax + 4) (c / 2) (bm (mpa T (swP (F ax) p (P ax)) (c / 2)))) (8 + 5 * ax + 4) (d / 2) (bm (mpa T (swP (F ax) p (P ax)) (d / 2)))) := by
      have g : ∀ x, (bx_up σ2 (8 + 5 * ax + 4) (c / 2) x).1 (8 + 5 * ax + 4) (d / 2) = bm (mpa T (P ax) (d / 2)) := fun x => by rw [up_get, if_pos rfl, if_neg (Ne.symm hcdb)]; exact y5 _ (by omega)
      simp only [mX1_turnMeeting, if_pos oc, if_pos od, cc, cd, bx_let, y5 (c / 2) (by omega), u1, g, u2]
    generalize hσ3 : bx_up (bx_up σ2 (8 + 5 * ax + 4) (c / 2) (bm (mpa T (swP (F ax) p (P ax)) (c / 2)))) (8 + 5 * ax + 4) (d / 2) (bm (mpa T (swP (F ax) p (P ax)) (d / 2))) = σ3 at *
    have fr3 : ∀ k i, k ≠ 8 + 5 * ax + 4 → σ3.1 k i = σ2.1 k i := fun k i q => by rw [← hσ3, up_get, if_neg q, up_get, if_neg q]
    have m3 : XM σ3 (mp T (setA P ax (swP (F ax) p (P ax)))) := by
      intro a h3 b hb12
      by_cases q : a = ax
      · subst q
        rw [← hσ3, up_get, if_pos rfl]
        have e : ∀ b, mp T (setA P a (swP (F a) p (P a))) a b = mpa T (swP (F a) p (P a)) b := fun b => funext (fun j => Mat b j)
        rw [e]
        by_cases w1 : b = d / 2
        · rw [if_pos w1, w1]
        · rw [if_neg w1, up_get, if_pos rfl]
          by_cases w2 : b = c / 2
          · rw [if_pos w2, w2]
          · rw [if_neg w2, y5 b hb12]
            exact bm_cong (fun j hj => (keep b j hb12 hj (fun w => w2 w.1) (fun w => w1 w.1)).symm)
      · rw [fr3 _ _ (by omega), fr2 _ _ (by omega) (fun q => by omega), x5 a h3 b hb12]
        exact bm_cong (fun j hj => (Mne a b j q).symm)
    have b3 : XB σ3 T tc := ⟨by rw [fr3 _ _ (by omega), fr2 _ _ (by omega) (fun q => by omega)]; exact x1.1, by rw [fr3 _ _ (by omega), fr2 _ _ (by omega) (fun q => by omega)]; exact x1.2⟩
    have ot := x_others b3 m3 ha (b := c / 2) (by omega)
    have oeq : oth (mp T (setA P ax (swP (F ax) p (P ax)))) ax (c / 2) (d / 2) = oth (mp T P) ax (F ax p / 2) (F ax (p + 1) / 2) := by
      rw [oth_ne ha Mne]
      rcases hcd with q | q
      · rw [q.1, q.2]
      · rw [q.1, q.2, oth_sym]
    have s10 : σ3.1 5 10 = nI t := by rw [fr3 _ _ (by omega), fr2 _ _ (by omega) (fun q => by omega), h10]
    have tn : mX3_turn (nI ax) (nI (c / 2)) (nI (d / 2)) σ2 = some (if oth (mp T P) ax (F ax p / 2) (F ax (p + 1) / 2) then bx_up σ3 5 10 (nI (t + 1)) else σ3) := by
      rw [mX3_turn, lineOf_eq ax ha, tm, Option.bind_some, ot, Option.bind_some, hold_bm _ (by omega), hTd, Bool.true_and, oeq, mX0_addTurn, s10, nI_1]
      cases oth (mp T P) ax (F ax p / 2) (F ax (p + 1) / 2) with
      | false => rw [if_pos (by rfl)]; rfl
      | true => rw [if_neg (by decide)]; rfl
    have pu : ∀ σ', mX3_turn (nI ax) (nI (c / 2)) (nI (d / 2)) σ2 = some σ' → ∀ (K24 : Int32 → Int32 → Nat → Int32 → Int32 → Int32 → bx_St → Option bx_St) (v4 v5 v6 : Int32), mX3_putRight_63 K24 (nI ax) (nI c) (8 + 5 * ax) v4 v5 v6 (nI d) (nI p) (8 + 5 * ax) σ = mX3_putRight_100 K24 (nI ax) (nI c) (8 + 5 * ax) v4 v5 v6 σ' := by
      intro σ' hs K24 v4 v5 v6
      have nk : ¬ bI (decide (d % 2 = 1)) = bI (decide (c % 2 = 1)) := fun q => by
        have := decide_eq_decide.mp (bI_inj.mp q)
        omega
      rw [mX3_putRight_63, e1, Option.bind_some, e4, Option.bind_some, x_isHigh (by omega), x_isHigh (by omega), if_neg nk, x_boxOf (by omega), x_boxOf (by omega), hs, Option.bind_some]
    have l3 : LO σ3 ax (swF (F ax) p) := fun q hq => by rw [fr3 _ _ (by omega)]; exact l2 q hq
    cases hq : oth (mp T P) ax (F ax p / 2) (F ax (p + 1) / 2) with
    | false =>
      rw [hq, if_neg (by decide)] at tn
      refine ⟨σ3, pu σ3 tn, XF.set ha x4 l3 (fun k i q1 q2 q3 => by rw [fr3 _ _ q3]; exact fr2 k i q2 (fun q => by omega)), m3, ?_, ?_, fun k i q1 q2 q3 q4 => by rw [fr3 _ _ q2]; exact fr2 k i q1 q4⟩
      · rw [s10, tq, if_neg hk, hq]; rfl
      · rw [fr3 _ _ (by omega), s7]
    | true =>
      rw [hq, if_pos rfl] at tn
      have fr4 : ∀ k i, (k = 5 → i ≠ 10) → (bx_up σ3 5 10 (nI (t + 1))).1 k i = σ3.1 k i := fun k i q => by
        rw [up_get]
        by_cases w : k = 5
        · rw [if_pos w, if_neg (q w), w]
        · rw [if_neg w]
      refine ⟨_, pu _ tn, XF.set ha x4 (fun q hq => by rw [fr4 _ _ (fun w => by omega)]; exact l3 q hq) (fun k i q1 q2 q3 => by rw [fr4 _ _ (fun w => by omega), fr3 _ _ q3]; exact fr2 k i q2 (fun q => by omega)), ?_, ?_, ?_, fun k i q1 q2 q3 q4 => by rw [fr4 _ _ q3, fr3 _ _ q2]; exact fr2 k i q1 q4⟩
      · intro a h3 b hb12
        rw [fr4 _ _ (fun w => by omega)]; exact m3 a h3 b hb12
      · rw [up_get, if_pos rfl, if_pos rfl, tq, if_neg hk, hq]; rfl
      · rw [fr4 _ _ (fun w => by omega), fr3 _ _ (by omega), s7]
