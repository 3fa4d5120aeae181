theorem m_step {τ : bx_St} {T : Nat → Bool} {F : Nat → Nat → Nat} {u : Nat} {P : Nat → Nat → Nat} {t ax p : Nat} (ha : ax < 3) (m4 : MM τ (mp T P)) (h24 : τ.1 0 24 = nI t) (hr : RWP T (F ax) u (P ax)) (ho : OWN T (P ax)) (hp : p + 1 < u) (hb : F ax p / 2 ≠ F ax (p + 1) / 2) : ∃ τ', mX4_swapped (nI (F ax (p + 1))) (nI (F ax p)) (nI ax) τ = some τ' ∧ MM τ' (mp T (setA P ax (swP (F ax) p (P ax)))) ∧ τ'.1 0 24 = nI (t + tq T P (F ax) ax p) ∧ τ'.1 7 ax = τ.1 7 ax + 1 ∧ (∀ k i, k ≠ 4 → (k = 0 → i ≠ 24) → (k = 7 → i ≠ ax) → τ'.1 k i = τ.1 k i) := by
  have hu24 := hr.1
  obtain ⟨X1, X2, X3⟩ := hr.2.1 p (by omega)
  obtain ⟨Y1, Y2, Y3⟩ := hr.2.1 (p + 1) hp
  have Mne : ∀ x a b, x ≠ ax → mp T (setA P ax (swP (F ax) p (P ax))) x a b = mp T P x a b := fun x a b q => by unfold mp; rw [setA_ne _ _ q]
  have Mat : ∀ a b, mp T (setA P ax (swP (F ax) p (P ax))) ax a b = mpa T (swP (F ax) p (P ax)) a b := fun a b => by unfold mp; rw [setA_eq]
  have ok3 : bx_ok (nI ax) 3 := ok_nI ha (by decide)
  have fr : ∀ k i, (k = 7 → i ≠ ax) → (bx_up τ 7 ax (τ.1 7 ax + 1)).1 k i = τ.1 k i := fun k i q => by
    rw [up_get]
    by_cases w : k = 7
    · rw [if_pos w, if_neg (q w), w]
    · rw [if_neg w]
  have s7 : (bx_up τ 7 ax (τ.1 7 ax + 1)).1 7 ax = τ.1 7 ax + 1 := by rw [up_get, if_pos rfl, if_pos rfl]
  have m4' : MM (bx_up τ 7 ax (τ.1 7 ax + 1)) (mp T P) := fun a h b h2 => by rw [fr _ _ (fun q => by omega)]; exact m4 a h b h2
  have h24' : (bx_up τ 7 ax (τ.1 7 ax + 1)).1 0 24 = nI t := by rw [fr _ _ (fun q => by omega), h24]
  have pre : ∀ X Y : Option bx_St, (∀ σ3, bx_let (bx_up τ 7 ax (τ.1 7 ax + 1)) σ3 = Y → bx_let (bx_up τ 7 ax (τ.1 7 ax + 1)) σ3 = Y) := fun _ _ _ h => h
  rw [mX4_swapped, if_pos ok3, if_pos ok3, cl_nI (by omega), bx_let, m_rem2 (by omega), m_rem2 (by omega), m_div2 (by omega), m_div2 (by omega)]
  generalize hτ1 : bx_up τ 7 ax (τ.1 7 ax + 1) = τ1 at *
  by_cases hk : F ax p % 2 = F ax (p + 1) % 2
  · rw [if_pos (by rw [hk])]
    refine ⟨τ1, rfl, ?_, ?_, s7, fun k i q1 q2 q3 => fr k i q3⟩
    · intro a h b h2
      rw [m4' a h b h2]
      refine bm_cong (fun j hj => ?_)
      by_cases q : j = ax
      · subst q; rw [Mat]; unfold mp; rw [mpa_same hr hp hk h h2]
      · rw [Mne _ _ _ q]
    · rw [h24', tq, if_pos hk]; rfl
  · obtain ⟨t1, t2⟩ := mpa_two hr ho hp hk hb
    rw [if_neg (by rw [eqn_iff (by omega) (by omega)]; omega), if_neg (by rw [eqn_iff (by omega) (by omega)]; omega), m_areOver m4' (by omega) (by omega), Option.bind_some]
    generalize hA : F ax p / 2 = A at *
    generalize hB : F ax (p + 1) / 2 = B at *
    have hA12 : A < 12 := by omega
    have hB12 : B < 12 := by omega
    have sym2 : ∀ a b, mp T (setA P ax (swP (F ax) p (P ax))) ax a b = mp T (setA P ax (swP (F ax) p (P ax))) ax b a := fun a b => by unfold mp; exact mpa_sym _ _ _ _
    have symx : ∀ x a b, mp T (setA P ax (swP (F ax) p (P ax))) x a b = mp T (setA P ax (swP (F ax) p (P ax))) x b a := fun x a b => by unfold mp; exact mpa_sym _ _ _ _
    have newBA : mp T (setA P ax (swP (F ax) p (P ax))) ax B A = decide (F ax (p + 1) % 2 = 0) := by rw [sym2, Mat]; exact t2
    have oldBA : mp T P ax B A = decide (F ax p % 2 = 0) := by unfold mp; rw [mpa_sym]; exact t1
    have flipBA : mp T (setA P ax (swP (F ax) p (P ax))) ax B A = !mp T P ax B A := by
      rw [newBA, oldBA]
      rcases (by omega : F ax p % 2 = 0 ∨ F ax p % 2 = 1) with q | q
      · rw [q, show F ax (p + 1) % 2 = 1 by omega]; rfl
      · rw [q, show F ax (p + 1) % 2 = 0 by omega]; rfl
    have cell : τ1.1 4 (12 * B + A) = bm (fun x => decide (x < 3) && mp T P x B A) := m4' B hB12 A hA12
    have fin : ∀ s0 : Int32, s0 = bm (fun x => decide (x < 3) && mp T (setA P ax (swP (F ax) p (P ax))) x B A) → ∃ τ', mX4_swapped_92 (nI B) (nI A) (bI (ov (mp T P) B A)) s0 τ1 = some τ' ∧ MM τ' (mp T (setA P ax (swP (F ax) p (P ax)))) ∧ τ'.1 0 24 = nI (t + tq T P (F ax) ax p) ∧ τ'.1 7 ax = τ.1 7 ax + 1 ∧ (∀ k i, k ≠ 4 → (k = 0 → i ≠ 24) → (k = 7 → i ≠ ax) → τ'.1 k i = τ.1 k i) := by
      intro s0 hs
      have o1 : bx_ok (nI (12 * B + A)) 144 := ok_nI (by omega) (by decide)
      have o2 : bx_ok (nI (12 * A + B)) 144 := ok_nI (by omega) (by decide)
      have mm : MM (bx_up (bx_up τ1 4 (12 * B + A) s0) 4 (12 * A + B) s0) (mp T (setA P ax (swP (F ax) p (P ax)))) := by
        intro a h b h2
        rw [up_get, if_pos rfl]
        by_cases w1 : 12 * a + b = 12 * A + B
        · rw [if_pos w1, hs, show a = A by omega, show b = B by omega]
          exact bm_cong (fun j _ => by rw [symx])
        · rw [if_neg w1, up_get, if_pos rfl]
          by_cases w2 : 12 * a + b = 12 * B + A
          · rw [if_pos w2, hs, show a = B by omega, show b = A by omega]
          · rw [if_neg w2, m4' a h b h2]
            refine bm_cong (fun j hj => ?_)
            by_cases q : j = ax
            · subst q
              rw [Mat]
              unfold mp
              rw [mpa_else hr hp h h2 (fun q => w1 (by omega)) (fun q => w2 (by omega))]
            · rw [Mne _ _ _ q]
      have ar := m_areOver mm hB12 hA12
      have z24 : (bx_up (bx_up τ1 4 (12 * B + A) s0) 4 (12 * A + B) s0).1 0 24 = nI t := by rw [up_get, if_neg (by decide), up_get, if_neg (by decide), h24']
      rw [mX4_swapped_92, m_ix12, m_ix12, if_pos o1, cl_nI (by omega), bx_let, if_pos o2, cl_nI (by omega), bx_let, ar, Option.bind_some, z24]
      have osym : oth (mp T P) ax A B = oth (mp T P) ax B A := oth_sym T P ax A B
      have iff0 := ov_oth ha Mne flipBA
      generalize hτ3 : bx_up (bx_up τ1 4 (12 * B + A) s0) 4 (12 * A + B) s0 = τ3 at *
      have fr3 : ∀ k i, k ≠ 4 → τ3.1 k i = τ1.1 k i := fun k i q => by rw [← hτ3, up_get, if_neg q, up_get, if_neg q]
      have out : ∀ e : Nat, e = tq T P (F ax) ax p → MM (bx_up τ3 0 24 (nI (t + e))) (mp T (setA P ax (swP (F ax) p (P ax)))) ∧ (bx_up τ3 0 24 (nI (t + e))).1 0 24 = nI (t + tq T P (F ax) ax p) ∧ (bx_up τ3 0 24 (nI (t + e))).1 7 ax = τ.1 7 ax + 1 ∧ (∀ k i, k ≠ 4 → (k = 0 → i ≠ 24) → (k = 7 → i ≠ ax) → (bx_up τ3 0 24 (nI (t + e))).1 k i = τ.1 k i) := by
        intro e he
        refine ⟨fun a h b h2 => by rw [up_get, if_neg (by decide)]; exact mm a h b h2, by rw [up_get, if_pos rfl, if_pos rfl, he], by rw [up_get, if_neg (by decide), fr3 _ _ (by decide), s7], fun k i q1 q2 q3 => ?_⟩
        rw [up_get]
        by_cases w : k = 0
        · rw [if_pos w, if_neg (q2 w), fr3 _ _ (by omega), fr _ _ (fun q => by omega), w]
        · rw [if_neg w, fr3 _ _ q1, fr _ _ q3]
      cases hq : oth (mp T P) ax B A with
      | false =>
        rw [if_pos (by rw [iff0.mpr hq])]
        have z0 : nI t + (0 : Int32) = nI (t + 0) := nI_add t 0
        rw [z0]
        refine ⟨_, rfl, out 0 ?_⟩
        rw [tq, if_neg hk, hA, hB, osym, hq]; rfl
      | true =>
        rw [if_neg (fun w => by
          have := iff0.mp (bI_inj.mp w)
          rw [hq] at this
          cases this)]
        rw [nI_1]
        refine ⟨_, rfl, out 1 ?_⟩
        rw [tq, if_neg hk, hA, hB, osym, hq]; rfl
    have bitb : (1 : Int32) <<< (nI ax &&& 31) = bm (fun i => decide (i = ax)) := bit_bm (by omega)
    have ok1 : bx_ok (nI (12 * B + A)) 144 := ok_nI (by omega) (by decide)
    rw [m_ix12, if_pos ok1, if_pos ok1, cl_nI (by omega), cell, bitb, bm_orm, bm_andn]
    rcases (by omega : F ax (p + 1) % 2 = 0 ∨ F ax (p + 1) % 2 = 1) with q | q
    · rw [if_pos (by rw [q]; rfl)]
      refine fin _ (bm_cong (fun j hj => ?_))
      by_cases w : j = ax
      · rw [w, newBA, decide_eq_true q, decide_eq_true rfl, decide_eq_true ha]
        simp
      · rw [Mne _ _ _ w, decide_eq_false w, Bool.or_false]
    · rw [if_neg (by rw [q]; decide)]
      refine fin _ (bm_cong (fun j hj => ?_))
      by_cases w : j = ax
      · rw [w, newBA, decide_eq_false (by omega : ¬ F ax (p + 1) % 2 = 0), decide_eq_true rfl]
        simp
      · rw [Mne _ _ _ w, decide_eq_false w, Bool.not_false, Bool.and_true]
