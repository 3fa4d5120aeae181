section
variable {p : Program} {l : Launch} {e : Env} {s : State} {m : MethodId} {args : Array Value} {below : List Frame} {meth : Method} {c : Code} {A : Nat → Prop} {D : va_G} {cI cZ : ClassId} {q : Nat → Nat} {ws : va_W}
def mX2_firstWrong_6 : Nat → Int32 → bx_St → Option (Int32 × bx_St)
  | 0, _, _ => none
  | n + 1, v1, σ => (if (σ.1 2 1) ≤ v1 then (some ((σ.1 2 1), σ)) else (if bx_ok v1 60 then (Option.bind (mX2_takes (σ.1 3 v1.toNatClampNeg) σ) fun u3 => (if u3.1 = 0 then (some (v1, u3.2)) else (mX2_firstWrong_6 n (v1 + 1) u3.2))) else none))
set_option maxRecDepth 8000 in
set_option maxHeartbeats 4000000 in
theorem mX2_firstWrong_6_ok (C : bx_Cx p s m args meth c 2 A D cI cZ RX2 cX2_firstWrong (some .int)) : ∀ (n : Nat) (v1 : Int32) (σ : bx_St) (u : (Int32 × bx_St)), mX2_firstWrong_6 n v1 σ = some u → bx_Go p l e (bx_rm 5) s m args below meth c 2 A D (MQ below (bx_Q (some (.int u.1)) (bx_xw q cI u.2) D A) args s 0 0 A) (bx_xw q cI σ) 6 [(0, .ref (q 2)), (1, .int v1)] [] := by
  intro n
  induction n with
  | zero =>
    intro v1 σ u hm
    cases hm
  | succ n ih =>
    intro v1 σ u hm
    rw [mX2_firstWrong_6] at hm
    refine go_iload_n C dX2_firstWrong_6 rfl 1 rfl (n := 7) rfl ?_
    refine go_aload_n C dX2_firstWrong_7 rfl 0 rfl (n := 8) rfl ?_
    refine go_get C dX2_firstWrong_8 (xf2_1 q cI σ) rfl inX2 (by decide) fl_X2_18 (n := 11) rfl ?_
    refine go_icmp_ge C 35 dX2_firstWrong_11 (by decide) (n := 14) rfl (fun c1 => ?_) (fun c1 => ?_)
    · have hm := bx_p c1 hm
      refine go_aload_n C dX2_firstWrong_35 rfl 0 rfl (n := 36) rfl ?_
      refine go_get C dX2_firstWrong_36 (xf2_1 q cI σ) rfl inX2 (by decide) fl_X2_18 (n := 39) rfl ?_
      cases hm
      exact go_iret C dX2_firstWrong_39
    · have hm := bx_n c1 hm
      refine go_aload_n C dX2_firstWrong_14 rfl 0 rfl (n := 15) rfl ?_
      refine go_aload_n C dX2_firstWrong_15 rfl 0 rfl (n := 16) rfl ?_
      refine go_get C dX2_firstWrong_16 (xf2_0 q cI σ) rfl inX2 (by decide) fl_X2_11 (n := 19) rfl ?_
      refine go_iload_n C dX2_firstWrong_19 rfl 1 rfl (n := 20) rfl ?_
      obtain ⟨b2, hm⟩ := bx_g hm
      refine go_iald C dX2_firstWrong_20 (xa_3 q cI σ) b2 (n := 21) rfl ?_
      obtain ⟨u3, e4, hm⟩ := bx_b hm
      refine go_callVi C dX2_firstWrong_21 mw_X2_takes ml_X2_25 (rest := []) (ktX2_takes e4) (xo2 q cI σ) rfl (by decide) rfl rfl (Nat.le_of_ble_eq_true rfl) (n := 24) rfl ?_
      refine go_if_ne C 29 dX2_firstWrong_24 (by decide) (n := 27) rfl (fun c5 => ?_) (fun c5 => ?_)
      · have hm := bx_n c5 hm
        refine go_iinc C (j := 1) dX2_firstWrong_29 rfl (v := (v1 + 1)) rfl (by decide) (lv' := [(1, .int (v1 + 1)), (0, .ref (q 2))]) rfl (n := 32) rfl ?_
        refine go_goto C 6 dX2_firstWrong_32 (by decide) ?_
        refine go_lv (lv' := [(0, .ref (q 2)), (1, .int (v1 + 1))]) [1, 0] rfl ?_
        exact ih _ _ _ hm
      · have hm := bx_p c5 hm
        refine go_iload_n C dX2_firstWrong_27 rfl 1 rfl (n := 28) rfl ?_
        cases hm
        exact go_iret C dX2_firstWrong_28
def mX2_firstWrong (σ : bx_St) : Option (Int32 × bx_St) := (mX2_firstWrong_6 bx_F (0 : Int32) (mX2_beginReading σ))
set_option maxRecDepth 8000 in
set_option maxHeartbeats 4000000 in
theorem ktX2_firstWrong {l : Launch} {D : va_G} {cI cZ : ClassId} {q : Nat → Nat} {σ : bx_St} {u : (Int32 × bx_St)} (hm : mX2_firstWrong σ = some u) : bx_Mt l D cI cZ yX2_firstWrong cX2_firstWrong 2 (some .int) 5 [.ref (q 2)] (bx_xw q cI σ) (some (.int u.1)) (bx_xw q cI u.2) := by
  refine bx_mk (by decide) (Nat.le_of_ble_eq_true rfl) (lv := [(0, .ref (q 2))]) rfl (fun p e s m args below meth c A C => ?_)
  replace C : bx_Cx p s m args meth c 2 A D cI cZ RX2 cX2_firstWrong (some .int) := C
  unfold mX2_firstWrong at hm
  refine go_aload_n C dX2_firstWrong_0 rfl 0 rfl (n := 1) rfl ?_
  refine go_callVv C dX2_firstWrong_1 mw_X2_beginReading ml_X2_22 (rest := []) (ktX2_beginReading rfl) (xo2 q cI σ) rfl (by decide) rfl rfl (Nat.le_of_ble_eq_true rfl) (n := 4) rfl ?_
  refine go_iconst C dX2_firstWrong_4 (v := (0 : Int32)) (by decide) (n := 5) rfl ?_
  refine go_istore_n C dX2_firstWrong_5 rfl (by decide) (lv' := [(1, .int (0 : Int32)), (0, .ref (q 2))]) rfl (n := 6) rfl ?_
  refine go_lv (lv' := [(0, .ref (q 2)), (1, .int (0 : Int32))]) [1, 0] rfl ?_
  exact mX2_firstWrong_6_ok C _ _ _ _ hm
def mX2_highOf (v1 : Int32) (v2 : Int32) (σ : bx_St) : Option Int32 := (if bx_ok (((v1 * (6 : Int32)) + ((2 : Int32) * v2)) + (1 : Int32)) 24 then (some (σ.1 4 (((v1 * (6 : Int32)) + ((2 : Int32) * v2)) + (1 : Int32)).toNatClampNeg)) else none)
set_option maxRecDepth 8000 in
set_option maxHeartbeats 4000000 in
theorem ktX2_highOf {l : Launch} {D : va_G} {cI cZ : ClassId} {q : Nat → Nat} {v1 : Int32} {v2 : Int32} {σ : bx_St} {u : Int32} (hm : mX2_highOf v1 v2 σ = some u) : bx_Mt l D cI cZ yX2_highOf cX2_highOf 3 (some .int) 1 [.ref (q 2), .int v1, .int v2] (bx_xw q cI σ) (some (.int u)) (bx_xw q cI σ) := by
  refine bx_mk (by decide) (Nat.le_of_ble_eq_true rfl) (lv := [(0, .ref (q 2)), (1, .int v1), (2, .int v2)]) rfl (fun p e s m args below meth c A C => ?_)
  replace C : bx_Cx p s m args meth c 3 A D cI cZ RX2 cX2_highOf (some .int) := C
  unfold mX2_highOf at hm
  refine go_aload_n C dX2_highOf_0 rfl 0 rfl (n := 1) rfl ?_
  refine go_get C dX2_highOf_1 (xf2_2 q cI σ) rfl inX2 (by decide) fl_X2_15 (n := 4) rfl ?_
  refine go_iload_n C dX2_highOf_4 rfl 1 rfl (n := 5) rfl ?_
  refine go_bipush C dX2_highOf_5 (v := (6 : Int32)) (by decide) (n := 7) rfl ?_
  refine go_imul C dX2_highOf_7 (n := 8) rfl ?_
  refine go_iconst C dX2_highOf_8 (v := (2 : Int32)) (by decide) (n := 9) rfl ?_
  refine go_iload_n C dX2_highOf_9 rfl 2 rfl (n := 10) rfl ?_
  refine go_imul C dX2_highOf_10 (n := 11) rfl ?_
  refine go_iadd C dX2_highOf_11 (n := 12) rfl ?_
  refine go_iconst C dX2_highOf_12 (v := (1 : Int32)) (by decide) (n := 13) rfl ?_
  refine go_iadd C dX2_highOf_13 (n := 14) rfl ?_
  obtain ⟨b1, hm⟩ := bx_g hm
  refine go_iald C dX2_highOf_14 (xa_4 q cI σ) b1 (n := 15) rfl ?_
  cases hm
  exact go_iret C dX2_highOf_15
def mX2_isBatch_38 : Nat → Int32 → bx_St → Option (Int32 × bx_St)
  | 0, _, _ => none
  | n + 1, v1, σ => (if (σ.1 2 3) ≤ (v1 + (1 : Int32)) then (some ((1 : Int32), σ)) else (if bx_ok v1 24 then (if bx_ok (v1 + (1 : Int32)) 24 then (if (σ.1 4 v1.toNatClampNeg) < (σ.1 4 (v1 + (1 : Int32)).toNatClampNeg) then (mX2_isBatch_38 n (v1 + 2) σ) else (some ((0 : Int32), σ))) else none) else none))
set_option maxRecDepth 8000 in
set_option maxHeartbeats 4000000 in
theorem mX2_isBatch_38_ok (C : bx_Cx p s m args meth c 2 A D cI cZ RX2 cX2_isBatch (some .boolean)) : ∀ (n : Nat) (v1 : Int32) (σ : bx_St) (u : (Int32 × bx_St)), mX2_isBatch_38 n v1 σ = some u → bx_Go p l e (bx_rm 6) s m args below meth c 2 A D (MQ below (bx_Q (some (.int u.1)) (bx_xw q cI u.2) D A) args s 0 0 A) (bx_xw q cI σ) 38 [(0, .ref (q 2)), (1, .int v1)] [] := by
  intro n
  induction n with
  | zero =>
    intro v1 σ u hm
    cases hm
  | succ n ih =>
    intro v1 σ u hm
    rw [mX2_isBatch_38] at hm
    refine go_iload_n C dX2_isBatch_38 rfl 1 rfl (n := 39) rfl ?_
    refine go_iconst C dX2_isBatch_39 (v := (1 : Int32)) (by decide) (n := 40) rfl ?_
    refine go_iadd C dX2_isBatch_40 (n := 41) rfl ?_
    refine go_aload_n C dX2_isBatch_41 rfl 0 rfl (n := 42) rfl ?_
    refine go_get C dX2_isBatch_42 (xf2_3 q cI σ) rfl inX2 (by decide) fl_X2_39 (n := 45) rfl ?_
    refine go_icmp_ge C 73 dX2_isBatch_45 (by decide) (n := 48) rfl (fun c1 => ?_) (fun c1 => ?_)
    · have hm := bx_p c1 hm
      refine go_iconst C dX2_isBatch_73 (v := (1 : Int32)) (by decide) (n := 74) rfl ?_
      cases hm
      exact go_zret C dX2_isBatch_74 (Or.inr rfl)
    · have hm := bx_n c1 hm
      refine go_aload_n C dX2_isBatch_48 rfl 0 rfl (n := 49) rfl ?_
      refine go_get C dX2_isBatch_49 (xf2_2 q cI σ) rfl inX2 (by decide) fl_X2_15 (n := 52) rfl ?_
      refine go_iload_n C dX2_isBatch_52 rfl 1 rfl (n := 53) rfl ?_
      obtain ⟨b2, hm⟩ := bx_g hm
      refine go_iald C dX2_isBatch_53 (xa_4 q cI σ) b2 (n := 54) rfl ?_
      refine go_aload_n C dX2_isBatch_54 rfl 0 rfl (n := 55) rfl ?_
      refine go_get C dX2_isBatch_55 (xf2_2 q cI σ) rfl inX2 (by decide) fl_X2_15 (n := 58) rfl ?_
      refine go_iload_n C dX2_isBatch_58 rfl 1 rfl (n := 59) rfl ?_
      refine go_iconst C dX2_isBatch_59 (v := (1 : Int32)) (by decide) (n := 60) rfl ?_
      refine go_iadd C dX2_isBatch_60 (n := 61) rfl ?_
      obtain ⟨b3, hm⟩ := bx_g hm
      refine go_iald C dX2_isBatch_61 (xa_4 q cI σ) b3 (n := 62) rfl ?_
      refine go_icmp_lt C 67 dX2_isBatch_62 (by decide) (n := 65) rfl (fun c4 => ?_) (fun c4 => ?_)
      · have hm := bx_p c4 hm
        refine go_iinc C (j := 1) dX2_isBatch_67 rfl (v := (v1 + 2)) rfl (by decide) (lv' := [(1, .int (v1 + 2)), (0, .ref (q 2))]) rfl (n := 70) rfl ?_
        refine go_goto C 38 dX2_isBatch_70 (by decide) ?_
        refine go_lv (lv' := [(0, .ref (q 2)), (1, .int (v1 + 2))]) [1, 0] rfl ?_
        exact ih _ _ _ hm
      · have hm := bx_n c4 hm
        refine go_iconst C dX2_isBatch_65 (v := (0 : Int32)) (by decide) (n := 66) rfl ?_
        cases hm
        exact go_zret C dX2_isBatch_66 (Or.inl rfl)
def mX2_isBatch (σ : bx_St) : Option (Int32 × bx_St) := (Option.bind (mX2_firstWrong σ) fun u1 => (if u1.1 < (u1.2.1 2 1) then (some ((0 : Int32), u1.2)) else (if (u1.2.1 2 4) = 0 then (some ((0 : Int32), u1.2)) else (Option.bind (mX2_endNumber u1.2) fun u5 => (if (bx_rem (u5.1 2 3) (6 : Int32)) = 0 then (mX2_isBatch_38 bx_F (0 : Int32) u5) else (some ((0 : Int32), u5)))))))
set_option maxRecDepth 8000 in
set_option maxHeartbeats 4000000 in
theorem ktX2_isBatch {l : Launch} {D : va_G} {cI cZ : ClassId} {q : Nat → Nat} {σ : bx_St} {u : (Int32 × bx_St)} (hm : mX2_isBatch σ = some u) : bx_Mt l D cI cZ yX2_isBatch cX2_isBatch 2 (some .boolean) 6 [.ref (q 2)] (bx_xw q cI σ) (some (.int u.1)) (bx_xw q cI u.2) := by
  refine bx_mk (by decide) (Nat.le_of_ble_eq_true rfl) (lv := [(0, .ref (q 2))]) rfl (fun p e s m args below meth c A C => ?_)
  replace C : bx_Cx p s m args meth c 2 A D cI cZ RX2 cX2_isBatch (some .boolean) := C
  unfold mX2_isBatch at hm
  refine go_aload_n C dX2_isBatch_0 rfl 0 rfl (n := 1) rfl ?_
  obtain ⟨u1, e2, hm⟩ := bx_b hm
  refine go_callVi C dX2_isBatch_1 mw_X2_firstWrong ml_X2_29 (rest := []) (ktX2_firstWrong e2) (xo2 q cI σ) rfl (by decide) rfl rfl (Nat.le_of_ble_eq_true rfl) (n := 4) rfl ?_
  refine go_aload_n C dX2_isBatch_4 rfl 0 rfl (n := 5) rfl ?_
  refine go_get C dX2_isBatch_5 (xf2_1 q cI u1.2) rfl inX2 (by decide) fl_X2_18 (n := 8) rfl ?_
  refine go_icmp_lt C 18 dX2_isBatch_8 (by decide) (n := 11) rfl (fun c3 => ?_) (fun c3 => ?_)
  · have hm := bx_p c3 hm
    refine go_iconst C dX2_isBatch_18 (v := (0 : Int32)) (by decide) (n := 19) rfl ?_
    cases hm
    exact go_zret C dX2_isBatch_19 (Or.inl rfl)
  · have hm := bx_n c3 hm
    refine go_aload_n C dX2_isBatch_11 rfl 0 rfl (n := 12) rfl ?_
    refine go_get C dX2_isBatch_12 (xf2_4 q cI u1.2) rfl inX2 (by decide) fl_X2_33 (n := 15) rfl ?_
    refine go_if_ne C 20 dX2_isBatch_15 (by decide) (n := 18) rfl (fun c4 => ?_) (fun c4 => ?_)
    · have hm := bx_n c4 hm
      refine go_aload_n C dX2_isBatch_20 rfl 0 rfl (n := 21) rfl ?_
      obtain ⟨u5, e6, hm⟩ := bx_b hm
      refine go_callVv C dX2_isBatch_21 mw_X2_endNumber ml_X2_36 (rest := []) (ktX2_endNumber e6) (xo2 q cI u1.2) rfl (by decide) rfl rfl (Nat.le_of_ble_eq_true rfl) (n := 24) rfl ?_
      refine go_aload_n C dX2_isBatch_24 rfl 0 rfl (n := 25) rfl ?_
      refine go_get C dX2_isBatch_25 (xf2_3 q cI u5) rfl inX2 (by decide) fl_X2_39 (n := 28) rfl ?_
      refine go_bipush C dX2_isBatch_28 (v := (6 : Int32)) (by decide) (n := 30) rfl ?_
      refine go_irem C dX2_isBatch_30 (by decide) (n := 31) rfl ?_
      refine go_if_eq C 36 dX2_isBatch_31 (by decide) (n := 34) rfl (fun c7 => ?_) (fun c7 => ?_)
      · have hm := bx_p c7 hm
        refine go_iconst C dX2_isBatch_36 (v := (0 : Int32)) (by decide) (n := 37) rfl ?_
        refine go_istore_n C dX2_isBatch_37 rfl (by decide) (lv' := [(1, .int (0 : Int32)), (0, .ref (q 2))]) rfl (n := 38) rfl ?_
        refine go_lv (lv' := [(0, .ref (q 2)), (1, .int (0 : Int32))]) [1, 0] rfl ?_
        exact mX2_isBatch_38_ok C _ _ _ _ hm
      · have hm := bx_n c7 hm
        refine go_iconst C dX2_isBatch_34 (v := (0 : Int32)) (by decide) (n := 35) rfl ?_
        cases hm
        exact go_zret C dX2_isBatch_35 (Or.inl rfl)
    · have hm := bx_p c4 hm
      refine go_iconst C dX2_isBatch_18 (v := (0 : Int32)) (by decide) (n := 19) rfl ?_
      cases hm
      exact go_zret C dX2_isBatch_19 (Or.inl rfl)
def mX2_lowOf (v1 : Int32) (v2 : Int32) (σ : bx_St) : Option Int32 := (if bx_ok ((v1 * (6 : Int32)) + ((2 : Int32) * v2)) 24 then (some (σ.1 4 ((v1 * (6 : Int32)) + ((2 : Int32) * v2)).toNatClampNeg)) else none)
set_option maxRecDepth 8000 in
set_option maxHeartbeats 4000000 in
theorem ktX2_lowOf {l : Launch} {D : va_G} {cI cZ : ClassId} {q : Nat → Nat} {v1 : Int32} {v2 : Int32} {σ : bx_St} {u : Int32} (hm : mX2_lowOf v1 v2 σ = some u) : bx_Mt l D cI cZ yX2_lowOf cX2_lowOf 3 (some .int) 1 [.ref (q 2), .int v1, .int v2] (bx_xw q cI σ) (some (.int u)) (bx_xw q cI σ) := by
  refine bx_mk (by decide) (Nat.le_of_ble_eq_true rfl) (lv := [(0, .ref (q 2)), (1, .int v1), (2, .int v2)]) rfl (fun p e s m args below meth c A C => ?_)
  replace C : bx_Cx p s m args meth c 3 A D cI cZ RX2 cX2_lowOf (some .int) := C
  unfold mX2_lowOf at hm
  refine go_aload_n C dX2_lowOf_0 rfl 0 rfl (n := 1) rfl ?_
  refine go_get C dX2_lowOf_1 (xf2_2 q cI σ) rfl inX2 (by decide) fl_X2_15 (n := 4) rfl ?_
  refine go_iload_n C dX2_lowOf_4 rfl 1 rfl (n := 5) rfl ?_
  refine go_bipush C dX2_lowOf_5 (v := (6 : Int32)) (by decide) (n := 7) rfl ?_
  refine go_imul C dX2_lowOf_7 (n := 8) rfl ?_
  refine go_iconst C dX2_lowOf_8 (v := (2 : Int32)) (by decide) (n := 9) rfl ?_
  refine go_iload_n C dX2_lowOf_9 rfl 2 rfl (n := 10) rfl ?_
  refine go_imul C dX2_lowOf_10 (n := 11) rfl ?_
  refine go_iadd C dX2_lowOf_11 (n := 12) rfl ?_
  obtain ⟨b1, hm⟩ := bx_g hm
  refine go_iald C dX2_lowOf_12 (xa_4 q cI σ) b1 (n := 13) rfl ?_
  cases hm
  exact go_iret C dX2_lowOf_13
def mX3_blank (σ : bx_St) : Option (Int32 × bx_St) := (some ((σ.1 2 1), (mX2_clear σ)))
set_option maxRecDepth 8000 in
set_option maxHeartbeats 4000000 in
theorem ktX3_blank {l : Launch} {D : va_G} {cI cZ : ClassId} {q : Nat → Nat} {σ : bx_St} {u : (Int32 × bx_St)} (hm : mX3_blank σ = some u) : bx_Mt l D cI cZ yX3_blank cX3_blank 2 (some .int) 2 [.ref (q 0)] (bx_xw q cI σ) (some (.int u.1)) (bx_xw q cI u.2) := by
  refine bx_mk (by decide) (Nat.le_of_ble_eq_true rfl) (lv := [(0, .ref (q 0))]) rfl (fun p e s m args below meth c A C => ?_)
  replace C : bx_Cx p s m args meth c 2 A D cI cZ RX3 cX3_blank (some .int) := C
  unfold mX3_blank at hm
  refine go_aload_n C dX3_blank_0 rfl 0 rfl (n := 1) rfl ?_
  refine go_get C dX3_blank_1 (xf3_0 q cI σ) rfl inX3 (by decide) fl_X3_10 (n := 4) rfl ?_
  refine go_get C dX3_blank_4 (xf2_1 q cI σ) rfl inX2 (by decide) fl_X3_52 (n := 7) rfl ?_
  refine go_istore_n C dX3_blank_7 rfl (by decide) (lv' := [(1, .int (σ.1 2 1)), (0, .ref (q 0))]) rfl (n := 8) rfl ?_
  refine go_aload_n C dX3_blank_8 rfl 1 rfl (n := 9) rfl ?_
  refine go_get C dX3_blank_9 (xf3_0 q cI σ) rfl inX3 (by decide) fl_X3_10 (n := 12) rfl ?_
  refine go_callVv C dX3_blank_12 mw_X2_clear ml_X3_55 (rest := []) (ktX2_clear rfl) (xo2 q cI σ) rfl (by decide) rfl rfl (Nat.le_of_ble_eq_true rfl) (n := 15) rfl ?_
  refine go_iload_n C dX3_blank_15 rfl 0 rfl (n := 16) rfl ?_
  cases hm
  exact go_iret C dX3_blank_16
def mX3_groupOf_47 (K7 : Int32 → Int32 → bx_St → Option Int32) (K19 : Int32 → Int32 → Int32 → Int32 → bx_St → Option Int32) (v2 : Int32) (v3 : Int32) (v4 : Int32) (v5 : Int32) (σ : bx_St) : Option Int32 := (K19 v2 v3 v4 (v5 + 1) σ)
set_option maxRecDepth 8000 in
set_option maxHeartbeats 4000000 in
theorem mX3_groupOf_47_ok (C : bx_Cx p s m args meth c 6 A D cI cZ RX3 cX3_groupOf (some .int)) (K7 : Int32 → Int32 → bx_St → Option Int32) (HK7 : ∀ (v2 : Int32) (v3 : Int32) (σ : bx_St) (u : Int32), K7 v2 v3 σ = some u → bx_Go p l e (bx_rm 3) s m args below meth c 6 A D (MQ below (bx_Q (some (.int u)) (bx_xw q cI σ) D A) args s 0 0 A) (bx_xw q cI σ) 7 [(0, .ref (q 0)), (2, .int v2), (3, .int v3)] []) (K19 : Int32 → Int32 → Int32 → Int32 → bx_St → Option Int32) (HK19 : ∀ (v2 : Int32) (v3 : Int32) (v4 : Int32) (v5 : Int32) (σ : bx_St) (u : Int32), K19 v2 v3 v4 v5 σ = some u → bx_Go p l e (bx_rm 3) s m args below meth c 6 A D (MQ below (bx_Q (some (.int u)) (bx_xw q cI σ) D A) args s 0 0 A) (bx_xw q cI σ) 19 [(0, .ref (q 0)), (2, .int v2), (3, .int v3), (4, .int v4), (5, .int v5)] []) : ∀ (v2 : Int32) (v3 : Int32) (v4 : Int32) (v5 : Int32) (σ : bx_St) (u : Int32), mX3_groupOf_47 K7 K19 v2 v3 v4 v5 σ = some u → bx_Go p l e (bx_rm 3) s m args below meth c 6 A D (MQ below (bx_Q (some (.int u)) (bx_xw q cI σ) D A) args s 0 0 A) (bx_xw q cI σ) 47 [(0, .ref (q 0)), (2, .int v2), (3, .int v3), (4, .int v4), (5, .int v5)] [] := by
  intro v2 v3 v4 v5 σ u hm
  unfold mX3_groupOf_47 at hm
  refine go_iinc C (j := 4) dX3_groupOf_47 rfl (v := (v5 + 1)) rfl (by decide) (lv' := [(5, .int (v5 + 1)), (0, .ref (q 0)), (2, .int v2), (3, .int v3), (4, .int v4)]) rfl (n := 50) rfl ?_
  refine go_goto C 19 dX3_groupOf_50 (by decide) ?_
  refine go_lv (lv' := [(0, .ref (q 0)), (2, .int v2), (3, .int v3), (4, .int v4), (5, .int (v5 + 1))]) [1, 2, 3, 4, 0] rfl ?_
  exact HK19 _ _ _ _ _ _ hm
def mX3_groupOf_19 (K7 : Int32 → Int32 → bx_St → Option Int32) : Nat → Int32 → Int32 → Int32 → Int32 → bx_St → Option Int32
  | 0, _, _, _, _, _ => none
  | n + 1, v2, v3, v4, v5, σ => (if (12 : Int32) ≤ v5 then (if v4 = v2 then (some v2) else (K7 v4 (v3 + 1) σ)) else (if (mX3_holds v2 v5) = 0 then (mX3_groupOf_47 K7 (mX3_groupOf_19 K7 n) v2 v3 v4 v5 σ) else (if bx_ok v5 12 then (mX3_groupOf_47 K7 (mX3_groupOf_19 K7 n) v2 v3 (v4 ||| (σ.1 1 v5.toNatClampNeg)) v5 σ) else none)))
set_option maxRecDepth 8000 in
set_option maxHeartbeats 4000000 in
theorem mX3_groupOf_19_ok (C : bx_Cx p s m args meth c 6 A D cI cZ RX3 cX3_groupOf (some .int)) (K7 : Int32 → Int32 → bx_St → Option Int32) (HK7 : ∀ (v2 : Int32) (v3 : Int32) (σ : bx_St) (u : Int32), K7 v2 v3 σ = some u → bx_Go p l e (bx_rm 3) s m args below meth c 6 A D (MQ below (bx_Q (some (.int u)) (bx_xw q cI σ) D A) args s 0 0 A) (bx_xw q cI σ) 7 [(0, .ref (q 0)), (2, .int v2), (3, .int v3)] []) : ∀ (n : Nat) (v2 : Int32) (v3 : Int32) (v4 : Int32) (v5 : Int32) (σ : bx_St) (u : Int32), mX3_groupOf_19 K7 n v2 v3 v4 v5 σ = some u → bx_Go p l e (bx_rm 3) s m args below meth c 6 A D (MQ below (bx_Q (some (.int u)) (bx_xw q cI σ) D A) args s 0 0 A) (bx_xw q cI σ) 19 [(0, .ref (q 0)), (2, .int v2), (3, .int v3), (4, .int v4), (5, .int v5)] [] := by
  intro n
  induction n with
  | zero =>
    intro v2 v3 v4 v5 σ u hm
    cases hm
  | succ n ih =>
    intro v2 v3 v4 v5 σ u hm
    rw [mX3_groupOf_19] at hm
    refine go_iload C dX3_groupOf_19 4 rfl (n := 21) rfl ?_
    refine go_bipush C dX3_groupOf_21 (v := (12 : Int32)) (by decide) (n := 23) rfl ?_
    refine go_icmp_ge C 53 dX3_groupOf_23 (by decide) (n := 26) rfl (fun c1 => ?_) (fun c1 => ?_)
    · have hm := bx_p c1 hm
      refine go_iload C dX3_groupOf_53 3 rfl (n := 55) rfl ?_
      refine go_iload_n C dX3_groupOf_55 rfl 1 rfl (n := 56) rfl ?_
      refine go_icmp_ne C 62 dX3_groupOf_56 (by decide) (n := 59) rfl (fun c2 => ?_) (fun c2 => ?_)
      · have hm := bx_n c2 hm
        refine go_iload C dX3_groupOf_62 3 rfl (n := 64) rfl ?_
        refine go_istore_n C dX3_groupOf_64 rfl (by decide) (lv' := [(2, .int v4), (0, .ref (q 0)), (3, .int v3), (4, .int v4), (5, .int v5)]) rfl (n := 65) rfl ?_
        refine go_iinc C (j := 2) dX3_groupOf_65 rfl (v := (v3 + 1)) rfl (by decide) (lv' := [(3, .int (v3 + 1)), (2, .int v4), (0, .ref (q 0)), (4, .int v4), (5, .int v5)]) rfl (n := 68) rfl ?_
        refine go_goto C 7 dX3_groupOf_68 (by decide) ?_
        refine go_lv (lv' := [(0, .ref (q 0)), (2, .int v4), (3, .int (v3 + 1))]) [2, 1, 0] rfl ?_
        exact HK7 _ _ _ _ hm
      · have hm := bx_p c2 hm
        refine go_goto C 71 dX3_groupOf_59 (by decide) ?_
        refine go_iload_n C dX3_groupOf_71 rfl 1 rfl (n := 72) rfl ?_
        cases hm
        exact go_iret C dX3_groupOf_72
    · have hm := bx_n c1 hm
      refine go_iload_n C dX3_groupOf_26 rfl 1 rfl (n := 27) rfl ?_
      refine go_iload C dX3_groupOf_27 4 rfl (n := 29) rfl ?_
      refine go_callSi C dX3_groupOf_29 mw_X3_holds ml_X3_142 (rest := []) (ktX3_holds rfl) (by decide) rfl rfl (Nat.le_of_ble_eq_true rfl) (n := 32) rfl ?_
      refine go_if_eq C 47 dX3_groupOf_32 (by decide) (n := 35) rfl (fun c3 => ?_) (fun c3 => ?_)
      · have hm := bx_p c3 hm
        refine go_lv (lv' := [(0, .ref (q 0)), (2, .int v2), (3, .int v3), (4, .int v4), (5, .int v5)]) [0, 1, 2, 3, 4] rfl ?_
        exact mX3_groupOf_47_ok C _ HK7 _ ih _ _ _ _ _ _ hm
      · have hm := bx_n c3 hm
        refine go_iload C dX3_groupOf_35 3 rfl (n := 37) rfl ?_
        refine go_aload_n C dX3_groupOf_37 rfl 0 rfl (n := 38) rfl ?_
        refine go_get C dX3_groupOf_38 (xf3_5 q cI σ) rfl inX3 (by decide) fl_X3_36 (n := 41) rfl ?_
        refine go_iload C dX3_groupOf_41 4 rfl (n := 43) rfl ?_
        obtain ⟨b4, hm⟩ := bx_g hm
        refine go_iald C dX3_groupOf_43 (xa_1 q cI σ) b4 (n := 44) rfl ?_
        refine go_ior C dX3_groupOf_44 (n := 45) rfl ?_
        refine go_istore C dX3_groupOf_45 (by decide) (lv' := [(4, .int (v4 ||| (σ.1 1 v5.toNatClampNeg))), (0, .ref (q 0)), (2, .int v2), (3, .int v3), (5, .int v5)]) rfl (n := 47) rfl ?_
        refine go_lv (lv' := [(0, .ref (q 0)), (2, .int v2), (3, .int v3), (4, .int (v4 ||| (σ.1 1 v5.toNatClampNeg))), (5, .int v5)]) [1, 2, 3, 0, 4] rfl ?_
        exact mX3_groupOf_47_ok C _ HK7 _ ih _ _ _ _ _ _ hm
def mX3_groupOf_7 : Nat → Int32 → Int32 → bx_St → Option Int32
  | 0, _, _, _ => none
  | n + 1, v2, v3, σ => (if (12 : Int32) ≤ v3 then (some v2) else (mX3_groupOf_19 (mX3_groupOf_7 n) bx_F v2 v3 v2 (0 : Int32) σ))
set_option maxRecDepth 8000 in
set_option maxHeartbeats 4000000 in
theorem mX3_groupOf_7_ok (C : bx_Cx p s m args meth c 6 A D cI cZ RX3 cX3_groupOf (some .int)) : ∀ (n : Nat) (v2 : Int32) (v3 : Int32) (σ : bx_St) (u : Int32), mX3_groupOf_7 n v2 v3 σ = some u → bx_Go p l e (bx_rm 3) s m args below meth c 6 A D (MQ below (bx_Q (some (.int u)) (bx_xw q cI σ) D A) args s 0 0 A) (bx_xw q cI σ) 7 [(0, .ref (q 0)), (2, .int v2), (3, .int v3)] [] := by
  intro n
  induction n with
  | zero =>
    intro v2 v3 σ u hm
    cases hm
  | succ n ih =>
    intro v2 v3 σ u hm
    rw [mX3_groupOf_7] at hm
    refine go_iload_n C dX3_groupOf_7 rfl 2 rfl (n := 8) rfl ?_
    refine go_bipush C dX3_groupOf_8 (v := (12 : Int32)) (by decide) (n := 10) rfl ?_
    refine go_icmp_ge C 71 dX3_groupOf_10 (by decide) (n := 13) rfl (fun c1 => ?_) (fun c1 => ?_)
    · have hm := bx_p c1 hm
      refine go_iload_n C dX3_groupOf_71 rfl 1 rfl (n := 72) rfl ?_
      cases hm
      exact go_iret C dX3_groupOf_72
    · have hm := bx_n c1 hm
      refine go_iload_n C dX3_groupOf_13 rfl 1 rfl (n := 14) rfl ?_
      refine go_istore C dX3_groupOf_14 (by decide) (lv' := [(4, .int v2), (0, .ref (q 0)), (2, .int v2), (3, .int v3)]) rfl (n := 16) rfl ?_
      refine go_iconst C dX3_groupOf_16 (v := (0 : Int32)) (by decide) (n := 17) rfl ?_
      refine go_istore C dX3_groupOf_17 (by decide) (lv' := [(5, .int (0 : Int32)), (4, .int v2), (0, .ref (q 0)), (2, .int v2), (3, .int v3)]) rfl (n := 19) rfl ?_
      refine go_lv (lv' := [(0, .ref (q 0)), (2, .int v2), (3, .int v3), (4, .int v2), (5, .int (0 : Int32))]) [2, 3, 4, 1, 0] rfl ?_
      exact mX3_groupOf_19_ok C _ ih _ _ _ _ _ _ _ hm
def mX3_groupOf (v1 : Int32) (σ : bx_St) : Option Int32 := (mX3_groupOf_7 bx_F (mX3_bit v1) (0 : Int32) σ)
set_option maxRecDepth 8000 in
set_option maxHeartbeats 4000000 in
theorem ktX3_groupOf {l : Launch} {D : va_G} {cI cZ : ClassId} {q : Nat → Nat} {v1 : Int32} {σ : bx_St} {u : Int32} (hm : mX3_groupOf v1 σ = some u) : bx_Mt l D cI cZ yX3_groupOf cX3_groupOf 6 (some .int) 3 [.ref (q 0), .int v1] (bx_xw q cI σ) (some (.int u)) (bx_xw q cI σ) := by
  refine bx_mk (by decide) (Nat.le_of_ble_eq_true rfl) (lv := [(0, .ref (q 0)), (1, .int v1)]) rfl (fun p e s m args below meth c A C => ?_)
  replace C : bx_Cx p s m args meth c 6 A D cI cZ RX3 cX3_groupOf (some .int) := C
  unfold mX3_groupOf at hm
  refine go_iload_n C dX3_groupOf_0 rfl 1 rfl (n := 1) rfl ?_
  refine go_callSi C dX3_groupOf_1 mw_X3_bit ml_X3_193 (rest := []) (ktX3_bit rfl) (by decide) rfl rfl (Nat.le_of_ble_eq_true rfl) (n := 4) rfl ?_
  refine go_istore_n C dX3_groupOf_4 rfl (by decide) (lv' := [(2, .int (mX3_bit v1)), (0, .ref (q 0)), (1, .int v1)]) rfl (n := 5) rfl ?_
  refine go_iconst C dX3_groupOf_5 (v := (0 : Int32)) (by decide) (n := 6) rfl ?_
  refine go_istore_n C dX3_groupOf_6 rfl (by decide) (lv' := [(3, .int (0 : Int32)), (2, .int (mX3_bit v1)), (0, .ref (q 0)), (1, .int v1)]) rfl (n := 7) rfl ?_
  refine go_lv (lv' := [(0, .ref (q 0)), (2, .int (mX3_bit v1)), (3, .int (0 : Int32))]) [2, 1, 0] rfl ?_
  exact mX3_groupOf_7_ok C _ _ _ _ _ hm
def mX3_isThere (v1 : Int32) (σ : bx_St) : Int32 := (if v1 < 0 then (0 : Int32) else (if (12 : Int32) ≤ v1 then (0 : Int32) else (if (mX3_holds (σ.1 0 6) v1) = 0 then (0 : Int32) else (1 : Int32))))
set_option maxRecDepth 8000 in
set_option maxHeartbeats 4000000 in
theorem ktX3_isThere {l : Launch} {D : va_G} {cI cZ : ClassId} {q : Nat → Nat} {v1 : Int32} {σ : bx_St} {u : Int32} (hm : mX3_isThere v1 σ = u) : bx_Mt l D cI cZ yX3_isThere cX3_isThere 2 (some .boolean) 3 [.ref (q 0), .int v1] (bx_xw q cI σ) (some (.int u)) (bx_xw q cI σ) := by
  refine bx_mk (by decide) (Nat.le_of_ble_eq_true rfl) (lv := [(0, .ref (q 0)), (1, .int v1)]) rfl (fun p e s m args below meth c A C => ?_)
  replace C : bx_Cx p s m args meth c 2 A D cI cZ RX3 cX3_isThere (some .boolean) := C
  unfold mX3_isThere at hm
  refine go_iload_n C dX3_isThere_0 rfl 1 rfl (n := 1) rfl ?_
  refine go_if_lt C 25 dX3_isThere_1 (by decide) (n := 4) rfl (fun c1 => ?_) (fun c1 => ?_)
  · have hm := bx_p c1 hm
    refine go_iconst C dX3_isThere_25 (v := (0 : Int32)) (by decide) (n := 26) rfl ?_
    subst hm
    exact go_zret C dX3_isThere_26 (Or.inl rfl)
  · have hm := bx_n c1 hm
    refine go_iload_n C dX3_isThere_4 rfl 1 rfl (n := 5) rfl ?_
    refine go_bipush C dX3_isThere_5 (v := (12 : Int32)) (by decide) (n := 7) rfl ?_
    refine go_icmp_ge C 25 dX3_isThere_7 (by decide) (n := 10) rfl (fun c2 => ?_) (fun c2 => ?_)
    · have hm := bx_p c2 hm
      refine go_iconst C dX3_isThere_25 (v := (0 : Int32)) (by decide) (n := 26) rfl ?_
      subst hm
      exact go_zret C dX3_isThere_26 (Or.inl rfl)
    · have hm := bx_n c2 hm
      refine go_aload_n C dX3_isThere_10 rfl 0 rfl (n := 11) rfl ?_
      refine go_get C dX3_isThere_11 (xf3_6 q cI σ) rfl inX3 (by decide) fl_X3_40 (n := 14) rfl ?_
      refine go_iload_n C dX3_isThere_14 rfl 1 rfl (n := 15) rfl ?_
      refine go_callSi C dX3_isThere_15 mw_X3_holds ml_X3_142 (rest := []) (ktX3_holds rfl) (by decide) rfl rfl (Nat.le_of_ble_eq_true rfl) (n := 18) rfl ?_
      refine go_if_eq C 25 dX3_isThere_18 (by decide) (n := 21) rfl (fun c3 => ?_) (fun c3 => ?_)
      · have hm := bx_p c3 hm
        refine go_iconst C dX3_isThere_25 (v := (0 : Int32)) (by decide) (n := 26) rfl ?_
        subst hm
        exact go_zret C dX3_isThere_26 (Or.inl rfl)
      · have hm := bx_n c3 hm
        refine go_iconst C dX3_isThere_21 (v := (1 : Int32)) (by decide) (n := 22) rfl ?_
        refine go_goto C 26 dX3_isThere_22 (by decide) ?_
        subst hm
        exact go_zret C dX3_isThere_26 (Or.inr rfl)
def mX3_leastOf_2 : Nat → Int32 → Int32 → Option Int32
  | 0, _, _ => none
  | n + 1, v0, v1 => (if (12 : Int32) ≤ v1 then (some v1) else (if (mX3_holds v0 v1) = 0 then (mX3_leastOf_2 n v0 (v1 + 1)) else (some v1)))
set_option maxRecDepth 8000 in
set_option maxHeartbeats 4000000 in
theorem mX3_leastOf_2_ok (C : bx_Cx p s m args meth c 2 A D cI cZ RX3 cX3_leastOf (some .int)) : ∀ (n : Nat) (v0 : Int32) (v1 : Int32) (u : Int32), mX3_leastOf_2 n v0 v1 = some u → bx_Go p l e (bx_rm 3) s m args below meth c 2 A D (MQ below (bx_Q (some (.int u)) ws D A) args s 0 0 A) ws 2 [(0, .int v0), (1, .int v1)] [] := by
  intro n
  induction n with
  | zero =>
    intro v0 v1 u hm
    cases hm
  | succ n ih =>
    intro v0 v1 u hm
    rw [mX3_leastOf_2] at hm
    refine go_iload_n C dX3_leastOf_2 rfl 1 rfl (n := 3) rfl ?_
    refine go_bipush C dX3_leastOf_3 (v := (12 : Int32)) (by decide) (n := 5) rfl ?_
    refine go_icmp_ge C 22 dX3_leastOf_5 (by decide) (n := 8) rfl (fun c1 => ?_) (fun c1 => ?_)
    · have hm := bx_p c1 hm
      refine go_iload_n C dX3_leastOf_22 rfl 1 rfl (n := 23) rfl ?_
      cases hm
      exact go_iret C dX3_leastOf_23
    · have hm := bx_n c1 hm
      refine go_iload_n C dX3_leastOf_8 rfl 0 rfl (n := 9) rfl ?_
      refine go_iload_n C dX3_leastOf_9 rfl 1 rfl (n := 10) rfl ?_
      refine go_callSi C dX3_leastOf_10 mw_X3_holds ml_X3_142 (rest := []) (ktX3_holds rfl) (by decide) rfl rfl (Nat.le_of_ble_eq_true rfl) (n := 13) rfl ?_
      refine go_if_ne C 22 dX3_leastOf_13 (by decide) (n := 16) rfl (fun c2 => ?_) (fun c2 => ?_)
      · have hm := bx_n c2 hm
        refine go_iload_n C dX3_leastOf_22 rfl 1 rfl (n := 23) rfl ?_
        cases hm
        exact go_iret C dX3_leastOf_23
      · have hm := bx_p c2 hm
        refine go_iinc C (j := 1) dX3_leastOf_16 rfl (v := (v1 + 1)) rfl (by decide) (lv' := [(1, .int (v1 + 1)), (0, .int v0)]) rfl (n := 19) rfl ?_
        refine go_goto C 2 dX3_leastOf_19 (by decide) ?_
        refine go_lv (lv' := [(0, .int v0), (1, .int (v1 + 1))]) [1, 0] rfl ?_
        exact ih _ _ _ hm
def mX3_leastOf (v0 : Int32) : Option Int32 := (mX3_leastOf_2 bx_F v0 (0 : Int32))
set_option maxRecDepth 8000 in
set_option maxHeartbeats 4000000 in
theorem ktX3_leastOf {l : Launch} {D : va_G} {cI cZ : ClassId} {ws : va_W} {v0 : Int32} {u : Int32} (hm : mX3_leastOf v0 = some u) : bx_Mt l D cI cZ yX3_leastOf cX3_leastOf 2 (some .int) 3 [.int v0] ws (some (.int u)) ws := by
  refine bx_mk (by decide) (Nat.le_of_ble_eq_true rfl) (lv := [(0, .int v0)]) rfl (fun p e s m args below meth c A C => ?_)
  replace C : bx_Cx p s m args meth c 2 A D cI cZ RX3 cX3_leastOf (some .int) := C
  unfold mX3_leastOf at hm
  refine go_iconst C dX3_leastOf_0 (v := (0 : Int32)) (by decide) (n := 1) rfl ?_
  refine go_istore_n C dX3_leastOf_1 rfl (by decide) (lv' := [(1, .int (0 : Int32)), (0, .int v0)]) rfl (n := 2) rfl ?_
  refine go_lv (lv' := [(0, .int v0), (1, .int (0 : Int32))]) [1, 0] rfl ?_
  exact mX3_leastOf_2_ok C _ _ _ _ hm
def mX3_box (v1 : Int32) (v2 : Int32) (σ : bx_St) : Option Int32 := (if (mX3_isThere v1 σ) = 0 then (some (-10002 : Int32)) else (if v2 = (0 : Int32) then (if bx_ok v1 12 then (some (σ.1 (8 + 1) v1.toNatClampNeg)) else none) else (if v2 = (1 : Int32) then (if bx_ok v1 12 then (some (σ.1 (8 + 2) v1.toNatClampNeg)) else none) else (if v2 = (2 : Int32) then (if bx_ok v1 12 then (some (σ.1 (13 + 1) v1.toNatClampNeg)) else none) else (if v2 = (3 : Int32) then (if bx_ok v1 12 then (some (σ.1 (13 + 2) v1.toNatClampNeg)) else none) else (if v2 = (4 : Int32) then (if bx_ok v1 12 then (some (σ.1 (18 + 1) v1.toNatClampNeg)) else none) else (if v2 = (5 : Int32) then (if bx_ok v1 12 then (some (σ.1 (18 + 2) v1.toNatClampNeg)) else none) else (if v2 = (6 : Int32) then (if bx_ok v1 12 then (some (mJ6_bitCount_0f7a4 (σ.1 1 v1.toNatClampNeg))) else none) else (if v2 = (7 : Int32) then (if bx_ok v1 12 then (some (σ.1 1 v1.toNatClampNeg)) else none) else (if v2 = (8 : Int32) then (Option.bind (mX3_groupOf v1 σ) fun u19 => (Option.bind (mX3_leastOf u19) fun u21 => (some u21))) else (some (-10003 : Int32))))))))))))
set_option maxRecDepth 8000 in
set_option maxHeartbeats 4000000 in
theorem ktX3_box {l : Launch} {D : va_G} {cI cZ : ClassId} {q : Nat → Nat} {v1 : Int32} {v2 : Int32} {σ : bx_St} {u : Int32} (hm : mX3_box v1 v2 σ = some u) : bx_Mt l D cI cZ yX3_box cX3_box 3 (some .int) 4 [.ref (q 0), .int v1, .int v2] (bx_xw q cI σ) (some (.int u)) (bx_xw q cI σ) := by
  refine bx_mk (by decide) (Nat.le_of_ble_eq_true rfl) (lv := [(0, .ref (q 0)), (1, .int v1), (2, .int v2)]) rfl (fun p e s m args below meth c A C => ?_)
  replace C : bx_Cx p s m args meth c 3 A D cI cZ RX3 cX3_box (some .int) := C
  unfold mX3_box at hm
  refine go_aload_n C dX3_box_0 rfl 0 rfl (n := 1) rfl ?_
  refine go_iload_n C dX3_box_1 rfl 1 rfl (n := 2) rfl ?_
  refine go_callVi C dX3_box_2 mw_X3_isThere ml_X3_78 (rest := []) (ktX3_isThere rfl) (xo3 q cI σ) rfl (by decide) rfl rfl (Nat.le_of_ble_eq_true rfl) (n := 5) rfl ?_
  refine go_if_ne C 12 dX3_box_5 (by decide) (n := 8) rfl (fun c1 => ?_) (fun c1 => ?_)
  · have hm := bx_n c1 hm
    refine go_iload_n C dX3_box_12 rfl 2 rfl (n := 13) rfl ?_
    by_cases c2 : v2 = (0 : Int32)
    · have hm := bx_p c2 hm
      refine go_tableIn C 64 dX3_box_13 (off := 51) (by rw [c2]; decide) (by rw [c2]; decide) (by rw [c2]; decide) (by decide) ?_
      refine go_aload_n C dX3_box_64 rfl 0 rfl (n := 65) rfl ?_
      refine go_get C dX3_box_65 (xf3_1 q cI σ) rfl inX3 (by decide) fl_X3_19 (n := 68) rfl ?_
      refine go_get C dX3_box_68 (xf1_0 q cI σ (Or.inl rfl)) rfl inX1 (by decide) fl_X3_92 (n := 71) rfl ?_
      refine go_iload_n C dX3_box_71 rfl 1 rfl (n := 72) rfl ?_
      obtain ⟨b3, hm⟩ := bx_g hm
      refine go_iald C dX3_box_72 (xal_1 q cI σ (Or.inl rfl)) b3 (n := 73) rfl ?_
      cases hm
      exact go_iret C dX3_box_73
    have hm := bx_n c2 hm
    by_cases c4 : v2 = (1 : Int32)
    · have hm := bx_p c4 hm
      refine go_tableIn C 74 dX3_box_13 (off := 61) (by rw [c4]; decide) (by rw [c4]; decide) (by rw [c4]; decide) (by decide) ?_
      refine go_aload_n C dX3_box_74 rfl 0 rfl (n := 75) rfl ?_
      refine go_get C dX3_box_75 (xf3_1 q cI σ) rfl inX3 (by decide) fl_X3_19 (n := 78) rfl ?_
      refine go_get C dX3_box_78 (xf1_1 q cI σ (Or.inl rfl)) rfl inX1 (by decide) fl_X3_95 (n := 81) rfl ?_
      refine go_iload_n C dX3_box_81 rfl 1 rfl (n := 82) rfl ?_
      obtain ⟨b5, hm⟩ := bx_g hm
      refine go_iald C dX3_box_82 (xal_2 q cI σ (Or.inl rfl)) b5 (n := 83) rfl ?_
      cases hm
      exact go_iret C dX3_box_83
    have hm := bx_n c4 hm
    by_cases c6 : v2 = (2 : Int32)
    · have hm := bx_p c6 hm
      refine go_tableIn C 84 dX3_box_13 (off := 71) (by rw [c6]; decide) (by rw [c6]; decide) (by rw [c6]; decide) (by decide) ?_
      refine go_aload_n C dX3_box_84 rfl 0 rfl (n := 85) rfl ?_
      refine go_get C dX3_box_85 (xf3_2 q cI σ) rfl inX3 (by decide) fl_X3_23 (n := 88) rfl ?_
      refine go_get C dX3_box_88 (xf1_0 q cI σ (Or.inr (Or.inl rfl))) rfl inX1 (by decide) fl_X3_92 (n := 91) rfl ?_
      refine go_iload_n C dX3_box_91 rfl 1 rfl (n := 92) rfl ?_
      obtain ⟨b7, hm⟩ := bx_g hm
      refine go_iald C dX3_box_92 (xal_1 q cI σ (Or.inr (Or.inl rfl))) b7 (n := 93) rfl ?_
      cases hm
      exact go_iret C dX3_box_93
    have hm := bx_n c6 hm
    by_cases c8 : v2 = (3 : Int32)
    · have hm := bx_p c8 hm
      refine go_tableIn C 94 dX3_box_13 (off := 81) (by rw [c8]; decide) (by rw [c8]; decide) (by rw [c8]; decide) (by decide) ?_
      refine go_aload_n C dX3_box_94 rfl 0 rfl (n := 95) rfl ?_
      refine go_get C dX3_box_95 (xf3_2 q cI σ) rfl inX3 (by decide) fl_X3_23 (n := 98) rfl ?_
      refine go_get C dX3_box_98 (xf1_1 q cI σ (Or.inr (Or.inl rfl))) rfl inX1 (by decide) fl_X3_95 (n := 101) rfl ?_
      refine go_iload_n C dX3_box_101 rfl 1 rfl (n := 102) rfl ?_
      obtain ⟨b9, hm⟩ := bx_g hm
      refine go_iald C dX3_box_102 (xal_2 q cI σ (Or.inr (Or.inl rfl))) b9 (n := 103) rfl ?_
      cases hm
      exact go_iret C dX3_box_103
    have hm := bx_n c8 hm
    by_cases c10 : v2 = (4 : Int32)
    · have hm := bx_p c10 hm
      refine go_tableIn C 104 dX3_box_13 (off := 91) (by rw [c10]; decide) (by rw [c10]; decide) (by rw [c10]; decide) (by decide) ?_
      refine go_aload_n C dX3_box_104 rfl 0 rfl (n := 105) rfl ?_
      refine go_get C dX3_box_105 (xf3_3 q cI σ) rfl inX3 (by decide) fl_X3_26 (n := 108) rfl ?_
      refine go_get C dX3_box_108 (xf1_0 q cI σ (Or.inr (Or.inr rfl))) rfl inX1 (by decide) fl_X3_92 (n := 111) rfl ?_
      refine go_iload_n C dX3_box_111 rfl 1 rfl (n := 112) rfl ?_
      obtain ⟨b11, hm⟩ := bx_g hm
      refine go_iald C dX3_box_112 (xal_1 q cI σ (Or.inr (Or.inr rfl))) b11 (n := 113) rfl ?_
      cases hm
      exact go_iret C dX3_box_113
    have hm := bx_n c10 hm
    by_cases c12 : v2 = (5 : Int32)
    · have hm := bx_p c12 hm
      refine go_tableIn C 114 dX3_box_13 (off := 101) (by rw [c12]; decide) (by rw [c12]; decide) (by rw [c12]; decide) (by decide) ?_
      refine go_aload_n C dX3_box_114 rfl 0 rfl (n := 115) rfl ?_
      refine go_get C dX3_box_115 (xf3_3 q cI σ) rfl inX3 (by decide) fl_X3_26 (n := 118) rfl ?_
      refine go_get C dX3_box_118 (xf1_1 q cI σ (Or.inr (Or.inr rfl))) rfl inX1 (by decide) fl_X3_95 (n := 121) rfl ?_
      refine go_iload_n C dX3_box_121 rfl 1 rfl (n := 122) rfl ?_
      obtain ⟨b13, hm⟩ := bx_g hm
      refine go_iald C dX3_box_122 (xal_2 q cI σ (Or.inr (Or.inr rfl))) b13 (n := 123) rfl ?_
      cases hm
      exact go_iret C dX3_box_123
    have hm := bx_n c12 hm
    by_cases c14 : v2 = (6 : Int32)
    · have hm := bx_p c14 hm
      refine go_tableIn C 124 dX3_box_13 (off := 111) (by rw [c14]; decide) (by rw [c14]; decide) (by rw [c14]; decide) (by decide) ?_
      refine go_aload_n C dX3_box_124 rfl 0 rfl (n := 125) rfl ?_
      refine go_get C dX3_box_125 (xf3_5 q cI σ) rfl inX3 (by decide) fl_X3_36 (n := 128) rfl ?_
      refine go_iload_n C dX3_box_128 rfl 1 rfl (n := 129) rfl ?_
      obtain ⟨b15, hm⟩ := bx_g hm
      refine go_iald C dX3_box_129 (xa_1 q cI σ) b15 (n := 130) rfl ?_
      refine go_callSi C dX3_box_130 mw_J6_bitCount_0f7a4 ml_X3_69 (rest := []) (ktJ6_bitCount_0f7a4 rfl) (by decide) rfl rfl (Nat.le_of_ble_eq_true rfl) (n := 133) rfl ?_
      cases hm
      exact go_iret C dX3_box_133
    have hm := bx_n c14 hm
    by_cases c16 : v2 = (7 : Int32)
    · have hm := bx_p c16 hm
      refine go_tableIn C 134 dX3_box_13 (off := 121) (by rw [c16]; decide) (by rw [c16]; decide) (by rw [c16]; decide) (by decide) ?_
      refine go_aload_n C dX3_box_134 rfl 0 rfl (n := 135) rfl ?_
      refine go_get C dX3_box_135 (xf3_5 q cI σ) rfl inX3 (by decide) fl_X3_36 (n := 138) rfl ?_
      refine go_iload_n C dX3_box_138 rfl 1 rfl (n := 139) rfl ?_
      obtain ⟨b17, hm⟩ := bx_g hm
      refine go_iald C dX3_box_139 (xa_1 q cI σ) b17 (n := 140) rfl ?_
      cases hm
      exact go_iret C dX3_box_140
    have hm := bx_n c16 hm
    by_cases c18 : v2 = (8 : Int32)
    · have hm := bx_p c18 hm
      refine go_tableIn C 141 dX3_box_13 (off := 128) (by rw [c18]; decide) (by rw [c18]; decide) (by rw [c18]; decide) (by decide) ?_
      refine go_aload_n C dX3_box_141 rfl 0 rfl (n := 142) rfl ?_
      refine go_iload_n C dX3_box_142 rfl 1 rfl (n := 143) rfl ?_
      obtain ⟨u19, e20, hm⟩ := bx_b hm
      refine go_callVi C dX3_box_143 mw_X3_groupOf ml_X3_114 (rest := []) (ktX3_groupOf e20) (xo3 q cI σ) rfl (by decide) rfl rfl (Nat.le_of_ble_eq_true rfl) (n := 146) rfl ?_
      obtain ⟨u21, e22, hm⟩ := bx_b hm
      refine go_callSi C dX3_box_146 mw_X3_leastOf ml_X3_117 (rest := []) (ktX3_leastOf e22) (by decide) rfl rfl (Nat.le_of_ble_eq_true rfl) (n := 149) rfl ?_
      cases hm
      exact go_iret C dX3_box_149
    have hm := bx_n c18 hm
    have nc2 := bx_ne (n := 0) (0 : Int32) (by decide) c2
    have nc4 := bx_ne (n := 1) (1 : Int32) (by decide) c4
    have nc6 := bx_ne (n := 2) (2 : Int32) (by decide) c6
    have nc8 := bx_ne (n := 3) (3 : Int32) (by decide) c8
    have nc10 := bx_ne (n := 4) (4 : Int32) (by decide) c10
    have nc12 := bx_ne (n := 5) (5 : Int32) (by decide) c12
    have nc14 := bx_ne (n := 6) (6 : Int32) (by decide) c14
    have nc16 := bx_ne (n := 7) (7 : Int32) (by decide) c16
    have nc18 := bx_ne (n := 8) (8 : Int32) (by decide) c18
    refine go_tableOut C 150 dX3_box_13 (by omega) (by decide) ?_
    refine go_sipush C dX3_box_150 (v := (-10003 : Int32)) (by decide) (n := 153) rfl ?_
    cases hm
    exact go_iret C dX3_box_153
  · have hm := bx_p c1 hm
    refine go_sipush C dX3_box_8 (v := (-10002 : Int32)) (by decide) (n := 11) rfl ?_
    cases hm
    exact go_iret C dX3_box_11
def mX3_lineOf (v1 : Int32) : Nat := (if v1 = 0 then 8 else (if v1 = (1 : Int32) then 13 else 18))
set_option maxRecDepth 8000 in
set_option maxHeartbeats 4000000 in
theorem ktX3_lineOf {l : Launch} {D : va_G} {cI cZ : ClassId} {q : Nat → Nat} {v1 : Int32} {σ : bx_St} {u : Nat} (hm : mX3_lineOf v1 = u) : bx_Mt l D cI cZ yX3_lineOf cX3_lineOf 2 (some (.object "BoxFlickers$Line")) 1 [.ref (q 0), .int v1] (bx_xw q cI σ) (some (.ref (q u))) (bx_xw q cI σ) := by
  refine bx_mk (by decide) (Nat.le_of_ble_eq_true rfl) (lv := [(0, .ref (q 0)), (1, .int v1)]) rfl (fun p e s m args below meth c A C => ?_)
  replace C : bx_Cx p s m args meth c 2 A D cI cZ RX3 cX3_lineOf (some (.object "BoxFlickers$Line")) := C
  unfold mX3_lineOf at hm
  refine go_iload_n C dX3_lineOf_0 rfl 1 rfl (n := 1) rfl ?_
  refine go_if_ne C 11 dX3_lineOf_1 (by decide) (n := 4) rfl (fun c1 => ?_) (fun c1 => ?_)
  · have hm := bx_n c1 hm
    refine go_iload_n C dX3_lineOf_11 rfl 1 rfl (n := 12) rfl ?_
    refine go_iconst C dX3_lineOf_12 (v := (1 : Int32)) (by decide) (n := 13) rfl ?_
    refine go_icmp_ne C 23 dX3_lineOf_13 (by decide) (n := 16) rfl (fun c2 => ?_) (fun c2 => ?_)
    · have hm := bx_n c2 hm
      refine go_aload_n C dX3_lineOf_23 rfl 0 rfl (n := 24) rfl ?_
      refine go_get C dX3_lineOf_24 (xf3_3 q cI σ) rfl inX3 (by decide) fl_X3_26 (n := 27) rfl ?_
      subst hm
      exact go_aret C dX3_lineOf_27
    · have hm := bx_p c2 hm
      refine go_aload_n C dX3_lineOf_16 rfl 0 rfl (n := 17) rfl ?_
      refine go_get C dX3_lineOf_17 (xf3_2 q cI σ) rfl inX3 (by decide) fl_X3_23 (n := 20) rfl ?_
      refine go_goto C 27 dX3_lineOf_20 (by decide) ?_
      subst hm
      exact go_aret C dX3_lineOf_27
  · have hm := bx_p c1 hm
    refine go_aload_n C dX3_lineOf_4 rfl 0 rfl (n := 5) rfl ?_
    refine go_get C dX3_lineOf_5 (xf3_1 q cI σ) rfl inX3 (by decide) fl_X3_19 (n := 8) rfl ?_
    refine go_goto C 27 dX3_lineOf_8 (by decide) ?_
    subst hm
    exact go_aret C dX3_lineOf_27
theorem mX3_lineOf_isL (v1 : Int32) : bx_isL (mX3_lineOf v1) := by
  unfold mX3_lineOf bx_isL
  repeat' split
  all_goals simp
def mX3_meetsOnAll (v1 : Int32) (σ : bx_St) : Option Int32 := (if bx_ok v1 12 then (if bx_ok v1 12 then (if bx_ok v1 12 then (some (((σ.1 (8 + 4) v1.toNatClampNeg) &&& (σ.1 (13 + 4) v1.toNatClampNeg)) &&& (σ.1 (18 + 4) v1.toNatClampNeg))) else none) else none) else none)
set_option maxRecDepth 8000 in
set_option maxHeartbeats 4000000 in
theorem ktX3_meetsOnAll {l : Launch} {D : va_G} {cI cZ : ClassId} {q : Nat → Nat} {v1 : Int32} {σ : bx_St} {u : Int32} (hm : mX3_meetsOnAll v1 σ = some u) : bx_Mt l D cI cZ yX3_meetsOnAll cX3_meetsOnAll 2 (some .int) 1 [.ref (q 0), .int v1] (bx_xw q cI σ) (some (.int u)) (bx_xw q cI σ) := by
  refine bx_mk (by decide) (Nat.le_of_ble_eq_true rfl) (lv := [(0, .ref (q 0)), (1, .int v1)]) rfl (fun p e s m args below meth c A C => ?_)
  replace C : bx_Cx p s m args meth c 2 A D cI cZ RX3 cX3_meetsOnAll (some .int) := C
  unfold mX3_meetsOnAll at hm
  refine go_aload_n C dX3_meetsOnAll_0 rfl 0 rfl (n := 1) rfl ?_
  refine go_get C dX3_meetsOnAll_1 (xf3_1 q cI σ) rfl inX3 (by decide) fl_X3_19 (n := 4) rfl ?_
  refine go_get C dX3_meetsOnAll_4 (xf1_3 q cI σ (Or.inl rfl)) rfl inX1 (by decide) fl_X3_139 (n := 7) rfl ?_
  refine go_iload_n C dX3_meetsOnAll_7 rfl 1 rfl (n := 8) rfl ?_
  obtain ⟨b1, hm⟩ := bx_g hm
  refine go_iald C dX3_meetsOnAll_8 (xal_4 q cI σ (Or.inl rfl)) b1 (n := 9) rfl ?_
  refine go_aload_n C dX3_meetsOnAll_9 rfl 0 rfl (n := 10) rfl ?_
  refine go_get C dX3_meetsOnAll_10 (xf3_2 q cI σ) rfl inX3 (by decide) fl_X3_23 (n := 13) rfl ?_
  refine go_get C dX3_meetsOnAll_13 (xf1_3 q cI σ (Or.inr (Or.inl rfl))) rfl inX1 (by decide) fl_X3_139 (n := 16) rfl ?_
  refine go_iload_n C dX3_meetsOnAll_16 rfl 1 rfl (n := 17) rfl ?_
  obtain ⟨b2, hm⟩ := bx_g hm
  refine go_iald C dX3_meetsOnAll_17 (xal_4 q cI σ (Or.inr (Or.inl rfl))) b2 (n := 18) rfl ?_
  refine go_iand C dX3_meetsOnAll_18 (n := 19) rfl ?_
  refine go_aload_n C dX3_meetsOnAll_19 rfl 0 rfl (n := 20) rfl ?_
  refine go_get C dX3_meetsOnAll_20 (xf3_3 q cI σ) rfl inX3 (by decide) fl_X3_26 (n := 23) rfl ?_
  refine go_get C dX3_meetsOnAll_23 (xf1_3 q cI σ (Or.inr (Or.inr rfl))) rfl inX1 (by decide) fl_X3_139 (n := 26) rfl ?_
  refine go_iload_n C dX3_meetsOnAll_26 rfl 1 rfl (n := 27) rfl ?_
  obtain ⟨b3, hm⟩ := bx_g hm
  refine go_iald C dX3_meetsOnAll_27 (xal_4 q cI σ (Or.inr (Or.inr rfl))) b3 (n := 28) rfl ?_
  refine go_iand C dX3_meetsOnAll_28 (n := 29) rfl ?_
  cases hm
  exact go_iret C dX3_meetsOnAll_29
def mX3_pairCode (v0 : Int32) (v1 : Int32) : Int32 := (((12 : Int32) * v0) + v1)
set_option maxRecDepth 8000 in
set_option maxHeartbeats 4000000 in
theorem ktX3_pairCode {l : Launch} {D : va_G} {cI cZ : ClassId} {ws : va_W} {v0 : Int32} {v1 : Int32} {u : Int32} (hm : mX3_pairCode v0 v1 = u) : bx_Mt l D cI cZ yX3_pairCode cX3_pairCode 2 (some .int) 1 [.int v0, .int v1] ws (some (.int u)) ws := by
  refine bx_mk (by decide) (Nat.le_of_ble_eq_true rfl) (lv := [(0, .int v0), (1, .int v1)]) rfl (fun p e s m args below meth c A C => ?_)
  replace C : bx_Cx p s m args meth c 2 A D cI cZ RX3 cX3_pairCode (some .int) := C
  unfold mX3_pairCode at hm
  refine go_bipush C dX3_pairCode_0 (v := (12 : Int32)) (by decide) (n := 2) rfl ?_
  refine go_iload_n C dX3_pairCode_2 rfl 0 rfl (n := 3) rfl ?_
  refine go_imul C dX3_pairCode_3 (n := 4) rfl ?_
  refine go_iload_n C dX3_pairCode_4 rfl 1 rfl (n := 5) rfl ?_
  refine go_iadd C dX3_pairCode_5 (n := 6) rfl ?_
  subst hm
  exact go_iret C dX3_pairCode_6
def mX3_tellEvents_56 (K2 : Int32 → bx_St → Option bx_St) (K18 : Int32 → Int32 → Int32 → bx_St → Option bx_St) (v1 : Int32) (v2 : Int32) (v3 : Int32) (σ : bx_St) : Option bx_St := (K18 v1 v2 (v3 + 1) σ)
set_option maxRecDepth 8000 in
set_option maxHeartbeats 4000000 in
theorem mX3_tellEvents_56_ok (C : bx_Cx p s m args meth c 4 A D cI cZ RX3 cX3_tellEvents none) (K2 : Int32 → bx_St → Option bx_St) (HK2 : ∀ (v1 : Int32) (σ : bx_St) (u : bx_St), K2 v1 σ = some u → bx_Go p l e (bx_rm 3) s m args below meth c 4 A D (MQ below (bx_Q none (bx_xw q cI u) D A) args s 0 0 A) (bx_xw q cI σ) 2 [(0, .ref (q 0)), (1, .int v1)] []) (K18 : Int32 → Int32 → Int32 → bx_St → Option bx_St) (HK18 : ∀ (v1 : Int32) (v2 : Int32) (v3 : Int32) (σ : bx_St) (u : bx_St), K18 v1 v2 v3 σ = some u → bx_Go p l e (bx_rm 3) s m args below meth c 4 A D (MQ below (bx_Q none (bx_xw q cI u) D A) args s 0 0 A) (bx_xw q cI σ) 18 [(0, .ref (q 0)), (1, .int v1), (2, .int v2), (3, .int v3)] []) : ∀ (v1 : Int32) (v2 : Int32) (v3 : Int32) (σ : bx_St) (u : bx_St), mX3_tellEvents_56 K2 K18 v1 v2 v3 σ = some u → bx_Go p l e (bx_rm 3) s m args below meth c 4 A D (MQ below (bx_Q none (bx_xw q cI u) D A) args s 0 0 A) (bx_xw q cI σ) 56 [(0, .ref (q 0)), (1, .int v1), (2, .int v2), (3, .int v3)] [] := by
  intro v1 v2 v3 σ u hm
  unfold mX3_tellEvents_56 at hm
  refine go_iinc C (j := 3) dX3_tellEvents_56 rfl (v := (v3 + 1)) rfl (by decide) (lv' := [(3, .int (v3 + 1)), (0, .ref (q 0)), (1, .int v1), (2, .int v2)]) rfl (n := 59) rfl ?_
  refine go_goto C 18 dX3_tellEvents_59 (by decide) ?_
  refine go_lv (lv' := [(0, .ref (q 0)), (1, .int v1), (2, .int v2), (3, .int (v3 + 1))]) [1, 2, 3, 0] rfl ?_
  exact HK18 _ _ _ _ _ hm
def mX3_tellEvents_18 (K2 : Int32 → bx_St → Option bx_St) : Nat → Int32 → Int32 → Int32 → bx_St → Option bx_St
  | 0, _, _, _, _ => none
  | n + 1, v1, v2, v3, σ => (if (12 : Int32) ≤ v3 then (if bx_ok v1 12 then (K2 (v1 + 1) (bx_up σ 1 v1.toNatClampNeg v2)) else none) else (if bx_ok v1 12 then (if (mX3_holds (v2 ^^^ (σ.1 1 v1.toNatClampNeg)) v3) = 0 then (mX3_tellEvents_56 K2 (mX3_tellEvents_18 K2 n) v1 v2 v3 σ) else (Option.bind (mX0_addEvent (mX3_pairCode v1 v3) (mX3_holds v2 v3) σ) fun u5 => (mX3_tellEvents_56 K2 (mX3_tellEvents_18 K2 n) v1 v2 v3 u5))) else none))
set_option maxRecDepth 8000 in
set_option maxHeartbeats 4000000 in
theorem mX3_tellEvents_18_ok (C : bx_Cx p s m args meth c 4 A D cI cZ RX3 cX3_tellEvents none) (K2 : Int32 → bx_St → Option bx_St) (HK2 : ∀ (v1 : Int32) (σ : bx_St) (u : bx_St), K2 v1 σ = some u → bx_Go p l e (bx_rm 3) s m args below meth c 4 A D (MQ below (bx_Q none (bx_xw q cI u) D A) args s 0 0 A) (bx_xw q cI σ) 2 [(0, .ref (q 0)), (1, .int v1)] []) : ∀ (n : Nat) (v1 : Int32) (v2 : Int32) (v3 : Int32) (σ : bx_St) (u : bx_St), mX3_tellEvents_18 K2 n v1 v2 v3 σ = some u → bx_Go p l e (bx_rm 3) s m args below meth c 4 A D (MQ below (bx_Q none (bx_xw q cI u) D A) args s 0 0 A) (bx_xw q cI σ) 18 [(0, .ref (q 0)), (1, .int v1), (2, .int v2), (3, .int v3)] [] := by
  intro n
  induction n with
  | zero =>
    intro v1 v2 v3 σ u hm
    cases hm
  | succ n ih =>
    intro v1 v2 v3 σ u hm
    rw [mX3_tellEvents_18] at hm
    refine go_iload_n C dX3_tellEvents_18 rfl 3 rfl (n := 19) rfl ?_
    refine go_bipush C dX3_tellEvents_19 (v := (12 : Int32)) (by decide) (n := 21) rfl ?_
    refine go_icmp_ge C 62 dX3_tellEvents_21 (by decide) (n := 24) rfl (fun c1 => ?_) (fun c1 => ?_)
    · have hm := bx_p c1 hm
      refine go_aload_n C dX3_tellEvents_62 rfl 0 rfl (n := 63) rfl ?_
      refine go_get C dX3_tellEvents_63 (xf3_5 q cI σ) rfl inX3 (by decide) fl_X3_36 (n := 66) rfl ?_
      refine go_iload_n C dX3_tellEvents_66 rfl 1 rfl (n := 67) rfl ?_
      refine go_iload_n C dX3_tellEvents_67 rfl 2 rfl (n := 68) rfl ?_
      obtain ⟨b2, hm⟩ := bx_g hm
      refine go_iast C dX3_tellEvents_68 (xu_1 q cI σ v1 v2) b2 (n := 69) rfl ?_
      refine go_iinc C (j := 1) dX3_tellEvents_69 rfl (v := (v1 + 1)) rfl (by decide) (lv' := [(1, .int (v1 + 1)), (0, .ref (q 0)), (2, .int v2), (3, .int v3)]) rfl (n := 72) rfl ?_
      refine go_goto C 2 dX3_tellEvents_72 (by decide) ?_
      refine go_lv (lv' := [(0, .ref (q 0)), (1, .int (v1 + 1))]) [1, 0] rfl ?_
      exact HK2 _ _ _ hm
    · have hm := bx_n c1 hm
      refine go_iload_n C dX3_tellEvents_24 rfl 2 rfl (n := 25) rfl ?_
      refine go_aload_n C dX3_tellEvents_25 rfl 0 rfl (n := 26) rfl ?_
      refine go_get C dX3_tellEvents_26 (xf3_5 q cI σ) rfl inX3 (by decide) fl_X3_36 (n := 29) rfl ?_
      refine go_iload_n C dX3_tellEvents_29 rfl 1 rfl (n := 30) rfl ?_
      obtain ⟨b3, hm⟩ := bx_g hm
      refine go_iald C dX3_tellEvents_30 (xa_1 q cI σ) b3 (n := 31) rfl ?_
      refine go_ixor C dX3_tellEvents_31 (n := 32) rfl ?_
      refine go_iload_n C dX3_tellEvents_32 rfl 3 rfl (n := 33) rfl ?_
      refine go_callSi C dX3_tellEvents_33 mw_X3_holds ml_X3_142 (rest := []) (ktX3_holds rfl) (by decide) rfl rfl (Nat.le_of_ble_eq_true rfl) (n := 36) rfl ?_
      refine go_if_eq C 56 dX3_tellEvents_36 (by decide) (n := 39) rfl (fun c4 => ?_) (fun c4 => ?_)
      · have hm := bx_p c4 hm
        refine go_lv (lv' := [(0, .ref (q 0)), (1, .int v1), (2, .int v2), (3, .int v3)]) [0, 1, 2, 3] rfl ?_
        exact mX3_tellEvents_56_ok C _ HK2 _ ih _ _ _ _ _ hm
      · have hm := bx_n c4 hm
        refine go_aload_n C dX3_tellEvents_39 rfl 0 rfl (n := 40) rfl ?_
        refine go_get C dX3_tellEvents_40 (xf3_4 q cI σ) rfl inX3 (by decide) fl_X3_32 (n := 43) rfl ?_
        refine go_iload_n C dX3_tellEvents_43 rfl 1 rfl (n := 44) rfl ?_
        refine go_iload_n C dX3_tellEvents_44 rfl 3 rfl (n := 45) rfl ?_
        refine go_callSi C dX3_tellEvents_45 mw_X3_pairCode ml_X3_145 (rest := [.ref (q 5)]) (ktX3_pairCode rfl) (by decide) rfl rfl (Nat.le_of_ble_eq_true rfl) (n := 48) rfl ?_
        refine go_iload_n C dX3_tellEvents_48 rfl 2 rfl (n := 49) rfl ?_
        refine go_iload_n C dX3_tellEvents_49 rfl 3 rfl (n := 50) rfl ?_
        refine go_callSi C dX3_tellEvents_50 mw_X3_holds ml_X3_142 (rest := [.int (mX3_pairCode v1 v3), .ref (q 5)]) (ktX3_holds rfl) (by decide) rfl rfl (Nat.le_of_ble_eq_true rfl) (n := 53) rfl ?_
        obtain ⟨u5, e6, hm⟩ := bx_b hm
        refine go_callVv C dX3_tellEvents_53 mw_X0_addEvent ml_X3_305 (rest := []) (ktX0_addEvent e6) (xo0 q cI σ) rfl (by decide) rfl rfl (Nat.le_of_ble_eq_true rfl) (n := 56) rfl ?_
        refine go_lv (lv' := [(0, .ref (q 0)), (1, .int v1), (2, .int v2), (3, .int v3)]) [0, 1, 2, 3] rfl ?_
        exact mX3_tellEvents_56_ok C _ HK2 _ ih _ _ _ _ _ hm
def mX3_tellEvents_2 : Nat → Int32 → bx_St → Option bx_St
  | 0, _, _ => none
  | n + 1, v1, σ => (if (12 : Int32) ≤ v1 then (Option.bind (mX0_close σ) fun u2 => (some u2)) else (Option.bind (mX3_meetsOnAll v1 σ) fun u4 => (mX3_tellEvents_18 (mX3_tellEvents_2 n) bx_F v1 u4 (v1 + (1 : Int32)) σ)))
set_option maxRecDepth 8000 in
set_option maxHeartbeats 4000000 in
theorem mX3_tellEvents_2_ok (C : bx_Cx p s m args meth c 4 A D cI cZ RX3 cX3_tellEvents none) : ∀ (n : Nat) (v1 : Int32) (σ : bx_St) (u : bx_St), mX3_tellEvents_2 n v1 σ = some u → bx_Go p l e (bx_rm 3) s m args below meth c 4 A D (MQ below (bx_Q none (bx_xw q cI u) D A) args s 0 0 A) (bx_xw q cI σ) 2 [(0, .ref (q 0)), (1, .int v1)] [] := by
  intro n
  induction n with
  | zero =>
    intro v1 σ u hm
    cases hm
  | succ n ih =>
    intro v1 σ u hm
    rw [mX3_tellEvents_2] at hm
    refine go_iload_n C dX3_tellEvents_2 rfl 1 rfl (n := 3) rfl ?_
    refine go_bipush C dX3_tellEvents_3 (v := (12 : Int32)) (by decide) (n := 5) rfl ?_
    refine go_icmp_ge C 75 dX3_tellEvents_5 (by decide) (n := 8) rfl (fun c1 => ?_) (fun c1 => ?_)
    · have hm := bx_p c1 hm
      refine go_aload_n C dX3_tellEvents_75 rfl 0 rfl (n := 76) rfl ?_
      refine go_get C dX3_tellEvents_76 (xf3_4 q cI σ) rfl inX3 (by decide) fl_X3_32 (n := 79) rfl ?_
      obtain ⟨u2, e3, hm⟩ := bx_b hm
      refine go_callVv C dX3_tellEvents_79 mw_X0_close ml_X3_308 (rest := []) (ktX0_close e3) (xo0 q cI σ) rfl (by decide) rfl rfl (Nat.le_of_ble_eq_true rfl) (n := 82) rfl ?_
      cases hm
      exact go_vret C dX3_tellEvents_82
    · have hm := bx_n c1 hm
      refine go_aload_n C dX3_tellEvents_8 rfl 0 rfl (n := 9) rfl ?_
      refine go_iload_n C dX3_tellEvents_9 rfl 1 rfl (n := 10) rfl ?_
      obtain ⟨u4, e5, hm⟩ := bx_b hm
      refine go_callVi C dX3_tellEvents_10 mw_X3_meetsOnAll ml_X3_302 (rest := []) (ktX3_meetsOnAll e5) (xo3 q cI σ) rfl (by decide) rfl rfl (Nat.le_of_ble_eq_true rfl) (n := 13) rfl ?_
      refine go_istore_n C dX3_tellEvents_13 rfl (by decide) (lv' := [(2, .int u4), (0, .ref (q 0)), (1, .int v1)]) rfl (n := 14) rfl ?_
      refine go_iload_n C dX3_tellEvents_14 rfl 2 rfl (n := 15) rfl ?_
      refine go_iconst C dX3_tellEvents_15 (v := (1 : Int32)) (by decide) (n := 16) rfl ?_
      refine go_iadd C dX3_tellEvents_16 (n := 17) rfl ?_
      refine go_istore_n C dX3_tellEvents_17 rfl (by decide) (lv' := [(3, .int (v1 + (1 : Int32))), (2, .int u4), (0, .ref (q 0)), (1, .int v1)]) rfl (n := 18) rfl ?_
      refine go_lv (lv' := [(0, .ref (q 0)), (1, .int v1), (2, .int u4), (3, .int (v1 + (1 : Int32)))]) [2, 3, 1, 0] rfl ?_
      exact mX3_tellEvents_18_ok C _ ih _ _ _ _ _ _ hm
def mX3_tellEvents (σ : bx_St) : Option bx_St := (mX3_tellEvents_2 bx_F (0 : Int32) σ)
set_option maxRecDepth 8000 in
set_option maxHeartbeats 4000000 in
theorem ktX3_tellEvents {l : Launch} {D : va_G} {cI cZ : ClassId} {q : Nat → Nat} {σ : bx_St} {u : bx_St} (hm : mX3_tellEvents σ = some u) : bx_Mt l D cI cZ yX3_tellEvents cX3_tellEvents 4 none 3 [.ref (q 0)] (bx_xw q cI σ) none (bx_xw q cI u) := by
  refine bx_mk (by decide) (Nat.le_of_ble_eq_true rfl) (lv := [(0, .ref (q 0))]) rfl (fun p e s m args below meth c A C => ?_)
  replace C : bx_Cx p s m args meth c 4 A D cI cZ RX3 cX3_tellEvents none := C
  unfold mX3_tellEvents at hm
  refine go_iconst C dX3_tellEvents_0 (v := (0 : Int32)) (by decide) (n := 1) rfl ?_
  refine go_istore_n C dX3_tellEvents_1 rfl (by decide) (lv' := [(1, .int (0 : Int32)), (0, .ref (q 0))]) rfl (n := 2) rfl ?_
  refine go_lv (lv' := [(0, .ref (q 0)), (1, .int (0 : Int32))]) [1, 0] rfl ?_
  exact mX3_tellEvents_2_ok C _ _ _ _ hm
def mX3_rearrange_2 : Nat → Int32 → bx_St → Option bx_St
  | 0, _, _ => none
  | n + 1, v1, σ => (if (3 : Int32) ≤ v1 then (Option.bind (mX3_tellEvents σ) fun u2 => (some u2)) else (Option.bind (mX1_arrange (mX3_lineOf v1) (σ.1 0 6) (σ.1 0 7) σ) fun u4 => (mX3_rearrange_2 n (v1 + 1) u4)))
set_option maxRecDepth 8000 in
set_option maxHeartbeats 4000000 in
theorem mX3_rearrange_2_ok (C : bx_Cx p s m args meth c 2 A D cI cZ RX3 cX3_rearrange none) : ∀ (n : Nat) (v1 : Int32) (σ : bx_St) (u : bx_St), mX3_rearrange_2 n v1 σ = some u → bx_Go p l e (bx_rm 6) s m args below meth c 2 A D (MQ below (bx_Q none (bx_xw q cI u) D A) args s 0 0 A) (bx_xw q cI σ) 2 [(0, .ref (q 0)), (1, .int v1)] [] := by
  intro n
  induction n with
  | zero =>
    intro v1 σ u hm
    cases hm
  | succ n ih =>
    intro v1 σ u hm
    rw [mX3_rearrange_2] at hm
    refine go_iload_n C dX3_rearrange_2 rfl 1 rfl (n := 3) rfl ?_
    refine go_iconst C dX3_rearrange_3 (v := (3 : Int32)) (by decide) (n := 4) rfl ?_
    refine go_icmp_ge C 29 dX3_rearrange_4 (by decide) (n := 7) rfl (fun c1 => ?_) (fun c1 => ?_)
    · have hm := bx_p c1 hm
      refine go_aload_n C dX3_rearrange_29 rfl 0 rfl (n := 30) rfl ?_
      obtain ⟨u2, e3, hm⟩ := bx_b hm
      refine go_callVv C dX3_rearrange_30 mw_X3_tellEvents ml_X3_102 (rest := []) (ktX3_tellEvents e3) (xo3 q cI σ) rfl (by decide) rfl rfl (Nat.le_of_ble_eq_true rfl) (n := 33) rfl ?_
      cases hm
      exact go_vret C dX3_rearrange_33
    · have hm := bx_n c1 hm
      refine go_aload_n C dX3_rearrange_7 rfl 0 rfl (n := 8) rfl ?_
      refine go_iload_n C dX3_rearrange_8 rfl 1 rfl (n := 9) rfl ?_
      refine go_callVa C dX3_rearrange_9 mw_X3_lineOf ml_X3_120 (rest := []) (ktX3_lineOf rfl) (xo3 q cI σ) rfl (by decide) rfl rfl (Nat.le_of_ble_eq_true rfl) (n := 12) rfl ?_
      refine go_aload_n C dX3_rearrange_12 rfl 0 rfl (n := 13) rfl ?_
      refine go_get C dX3_rearrange_13 (xf3_6 q cI σ) rfl inX3 (by decide) fl_X3_40 (n := 16) rfl ?_
      refine go_aload_n C dX3_rearrange_16 rfl 0 rfl (n := 17) rfl ?_
      refine go_get C dX3_rearrange_17 (xf3_7 q cI σ) rfl inX3 (by decide) fl_X3_44 (n := 20) rfl ?_
      obtain ⟨u4, e5, hm⟩ := bx_b hm
      refine go_callVv C dX3_rearrange_20 mw_X1_arrange ml_X3_266 (rest := []) (ktX1_arrange (mX3_lineOf_isL _) e5) (xo1 q cI σ (mX3_lineOf_isL _)) rfl (by decide) rfl rfl (Nat.le_of_ble_eq_true rfl) (n := 23) rfl ?_
      refine go_iinc C (j := 1) dX3_rearrange_23 rfl (v := (v1 + 1)) rfl (by decide) (lv' := [(1, .int (v1 + 1)), (0, .ref (q 0))]) rfl (n := 26) rfl ?_
      refine go_goto C 2 dX3_rearrange_26 (by decide) ?_
      refine go_lv (lv' := [(0, .ref (q 0)), (1, .int (v1 + 1))]) [1, 0] rfl ?_
      exact ih _ _ _ hm
def mX3_rearrange (σ : bx_St) : Option bx_St := (mX3_rearrange_2 bx_F (0 : Int32) σ)
set_option maxRecDepth 8000 in
set_option maxHeartbeats 4000000 in
theorem ktX3_rearrange {l : Launch} {D : va_G} {cI cZ : ClassId} {q : Nat → Nat} {σ : bx_St} {u : bx_St} (hm : mX3_rearrange σ = some u) : bx_Mt l D cI cZ yX3_rearrange cX3_rearrange 2 none 6 [.ref (q 0)] (bx_xw q cI σ) none (bx_xw q cI u) := by
  refine bx_mk (by decide) (Nat.le_of_ble_eq_true rfl) (lv := [(0, .ref (q 0))]) rfl (fun p e s m args below meth c A C => ?_)
  replace C : bx_Cx p s m args meth c 2 A D cI cZ RX3 cX3_rearrange none := C
  unfold mX3_rearrange at hm
  refine go_iconst C dX3_rearrange_0 (v := (0 : Int32)) (by decide) (n := 1) rfl ?_
  refine go_istore_n C dX3_rearrange_1 rfl (by decide) (lv' := [(1, .int (0 : Int32)), (0, .ref (q 0))]) rfl (n := 2) rfl ?_
  refine go_lv (lv' := [(0, .ref (q 0)), (1, .int (0 : Int32))]) [1, 0] rfl ?_
  exact mX3_rearrange_2_ok C _ _ _ _ hm
def mX3_settle_15 : Nat → Int32 → Int32 → Int32 → bx_St → Option bx_St
  | 0, _, _, _, _ => none
  | n + 1, v1, v2, v3, σ => (if (3 : Int32) ≤ v3 then (some σ) else (Option.bind (mX2_lowOf v2 v3 σ) fun u2 => (if bx_ok v1 12 then (bx_let (bx_up σ ((mX3_lineOf v3) + 1) v1.toNatClampNeg u2) fun σ5 => (Option.bind (mX2_highOf v2 v3 σ5) fun u7 => (if bx_ok v1 12 then (bx_let (bx_up σ5 ((mX3_lineOf v3) + 2) v1.toNatClampNeg u7) fun σ10 => (mX3_settle_15 n v1 v2 (v3 + 1) σ10)) else none))) else none)))
set_option maxRecDepth 8000 in
set_option maxHeartbeats 4000000 in
theorem mX3_settle_15_ok (C : bx_Cx p s m args meth c 4 A D cI cZ RX3 cX3_settle none) : ∀ (n : Nat) (v1 : Int32) (v2 : Int32) (v3 : Int32) (σ : bx_St) (u : bx_St), mX3_settle_15 n v1 v2 v3 σ = some u → bx_Go p l e (bx_rm 2) s m args below meth c 4 A D (MQ below (bx_Q none (bx_xw q cI u) D A) args s 0 0 A) (bx_xw q cI σ) 15 [(0, .ref (q 0)), (1, .int v1), (2, .int v2), (3, .int v3)] [] := by
  intro n
  induction n with
  | zero =>
    intro v1 v2 v3 σ u hm
    cases hm
  | succ n ih =>
    intro v1 v2 v3 σ u hm
    rw [mX3_settle_15] at hm
    refine go_iload_n C dX3_settle_15 rfl 3 rfl (n := 16) rfl ?_
    refine go_iconst C dX3_settle_16 (v := (3 : Int32)) (by decide) (n := 17) rfl ?_
    refine go_icmp_ge C 64 dX3_settle_17 (by decide) (n := 20) rfl (fun c1 => ?_) (fun c1 => ?_)
    · have hm := bx_p c1 hm
      cases hm
      exact go_vret C dX3_settle_64
    · have hm := bx_n c1 hm
      refine go_aload_n C dX3_settle_20 rfl 0 rfl (n := 21) rfl ?_
      refine go_iload_n C dX3_settle_21 rfl 3 rfl (n := 22) rfl ?_
      refine go_callVa C dX3_settle_22 mw_X3_lineOf ml_X3_120 (rest := []) (ktX3_lineOf rfl) (xo3 q cI σ) rfl (by decide) rfl rfl (Nat.le_of_ble_eq_true rfl) (n := 25) rfl ?_
      refine go_get C dX3_settle_25 (xf1_0 q cI σ (mX3_lineOf_isL _)) rfl inX1 (by decide) fl_X3_92 (n := 28) rfl ?_
      refine go_iload_n C dX3_settle_28 rfl 1 rfl (n := 29) rfl ?_
      refine go_aload_n C dX3_settle_29 rfl 0 rfl (n := 30) rfl ?_
      refine go_get C dX3_settle_30 (xf3_0 q cI σ) rfl inX3 (by decide) fl_X3_10 (n := 33) rfl ?_
      refine go_iload_n C dX3_settle_33 rfl 2 rfl (n := 34) rfl ?_
      refine go_iload_n C dX3_settle_34 rfl 3 rfl (n := 35) rfl ?_
      obtain ⟨u2, e3, hm⟩ := bx_b hm
      refine go_callVi C dX3_settle_35 mw_X2_lowOf ml_X3_260 (rest := [.int v1, .ref (q ((mX3_lineOf v3) + 1))]) (ktX2_lowOf e3) (xo2 q cI σ) rfl (by decide) rfl rfl (Nat.le_of_ble_eq_true rfl) (n := 38) rfl ?_
      obtain ⟨b4, hm⟩ := bx_g hm
      obtain ⟨σ5, z6, hm⟩ := bx_lt hm
      refine go_iast C dX3_settle_38 (ws' := (bx_xw q cI σ5)) (by rw [z6]; exact (xul_1 q cI σ (mX3_lineOf_isL _) v1 u2)) b4 (n := 39) rfl ?_
      refine go_aload_n C dX3_settle_39 rfl 0 rfl (n := 40) rfl ?_
      refine go_iload_n C dX3_settle_40 rfl 3 rfl (n := 41) rfl ?_
      refine go_callVa C dX3_settle_41 mw_X3_lineOf ml_X3_120 (rest := []) (ktX3_lineOf rfl) (xo3 q cI σ5) rfl (by decide) rfl rfl (Nat.le_of_ble_eq_true rfl) (n := 44) rfl ?_
      refine go_get C dX3_settle_44 (xf1_1 q cI σ5 (mX3_lineOf_isL _)) rfl inX1 (by decide) fl_X3_95 (n := 47) rfl ?_
      refine go_iload_n C dX3_settle_47 rfl 1 rfl (n := 48) rfl ?_
      refine go_aload_n C dX3_settle_48 rfl 0 rfl (n := 49) rfl ?_
      refine go_get C dX3_settle_49 (xf3_0 q cI σ5) rfl inX3 (by decide) fl_X3_10 (n := 52) rfl ?_
      refine go_iload_n C dX3_settle_52 rfl 2 rfl (n := 53) rfl ?_
      refine go_iload_n C dX3_settle_53 rfl 3 rfl (n := 54) rfl ?_
      obtain ⟨u7, e8, hm⟩ := bx_b hm
      refine go_callVi C dX3_settle_54 mw_X2_highOf ml_X3_263 (rest := [.int v1, .ref (q ((mX3_lineOf v3) + 2))]) (ktX2_highOf e8) (xo2 q cI σ5) rfl (by decide) rfl rfl (Nat.le_of_ble_eq_true rfl) (n := 57) rfl ?_
      obtain ⟨b9, hm⟩ := bx_g hm
      obtain ⟨σ10, z11, hm⟩ := bx_lt hm
      refine go_iast C dX3_settle_57 (ws' := (bx_xw q cI σ10)) (by rw [z11]; exact (xul_2 q cI σ5 (mX3_lineOf_isL _) v1 u7)) b9 (n := 58) rfl ?_
      refine go_iinc C (j := 3) dX3_settle_58 rfl (v := (v3 + 1)) rfl (by decide) (lv' := [(3, .int (v3 + 1)), (0, .ref (q 0)), (1, .int v1), (2, .int v2)]) rfl (n := 61) rfl ?_
      refine go_goto C 15 dX3_settle_61 (by decide) ?_
      refine go_lv (lv' := [(0, .ref (q 0)), (1, .int v1), (2, .int v2), (3, .int (v3 + 1))]) [1, 2, 3, 0] rfl ?_
      exact ih _ _ _ _ _ hm
def mX3_settle (v1 : Int32) (v2 : Int32) (σ : bx_St) : Option bx_St := (mX3_settle_15 bx_F v1 v2 (0 : Int32) (bx_up σ 0 6 ((σ.1 0 6) ||| (mX3_bit v1))))
set_option maxRecDepth 8000 in
set_option maxHeartbeats 4000000 in
theorem ktX3_settle {l : Launch} {D : va_G} {cI cZ : ClassId} {q : Nat → Nat} {v1 : Int32} {v2 : Int32} {σ : bx_St} {u : bx_St} (hm : mX3_settle v1 v2 σ = some u) : bx_Mt l D cI cZ yX3_settle cX3_settle 4 none 2 [.ref (q 0), .int v1, .int v2] (bx_xw q cI σ) none (bx_xw q cI u) := by
  refine bx_mk (by decide) (Nat.le_of_ble_eq_true rfl) (lv := [(0, .ref (q 0)), (1, .int v1), (2, .int v2)]) rfl (fun p e s m args below meth c A C => ?_)
  replace C : bx_Cx p s m args meth c 4 A D cI cZ RX3 cX3_settle none := C
  unfold mX3_settle at hm
  refine go_aload_n C dX3_settle_0 rfl 0 rfl (n := 1) rfl ?_
  refine go_dup C dX3_settle_1 rfl (n := 2) rfl ?_
  refine go_get C dX3_settle_2 (xf3_6 q cI σ) rfl inX3 (by decide) fl_X3_40 (n := 5) rfl ?_
  refine go_iload_n C dX3_settle_5 rfl 1 rfl (n := 6) rfl ?_
  refine go_callSi C dX3_settle_6 mw_X3_bit ml_X3_193 (rest := [.int (σ.1 0 6), .ref (q 0)]) (ktX3_bit rfl) (by decide) rfl rfl (Nat.le_of_ble_eq_true rfl) (n := 9) rfl ?_
  refine go_ior C dX3_settle_9 (n := 10) rfl ?_
  refine go_put C dX3_settle_10 (xp3_6 q cI σ ((σ.1 0 6) ||| (mX3_bit v1))) rfl inX3 tyX3_ok nmX3 (by decide) fl_X3_40 rfl (ty := .int) (by decide +kernel) (by rfl) (by rfl) (n := 13) rfl ?_
  refine go_iconst C dX3_settle_13 (v := (0 : Int32)) (by decide) (n := 14) rfl ?_
  refine go_istore_n C dX3_settle_14 rfl (by decide) (lv' := [(3, .int (0 : Int32)), (0, .ref (q 0)), (1, .int v1), (2, .int v2)]) rfl (n := 15) rfl ?_
  refine go_lv (lv' := [(0, .ref (q 0)), (1, .int v1), (2, .int v2), (3, .int (0 : Int32))]) [1, 2, 3, 0] rfl ?_
  exact mX3_settle_15_ok C _ _ _ _ _ _ hm
end
