section
variable {p : Program} {l : Launch} {e : Env} {s : State} {m : MethodId} {args : Array Value} {below : List Frame} {meth : Method} {c : Code} {A : Nat → Prop} {D : va_G} {cI cZ : ClassId} {q : Nat → Nat} {ws : va_W}
def mX3_withBox_42 : Nat → Int32 → Int64 → Int32 → bx_St → Option Int64
  | 0, _, _, _, _ => none
  | n + 1, v3, w4, v6, σ => (if (3 : Int32) ≤ v6 then (some w4) else (Option.bind (mX3_let v3 v6 (-1 : Int32) σ) fun u2 => (Option.bind (mX3_let v3 v6 (1 : Int32) σ) fun u4 => (mX3_withBox_42 n v3 (mX3_with (mX3_with w4 u2.toInt64) u4.toInt64) (v6 + 1) σ))))
set_option maxRecDepth 8000 in
set_option maxHeartbeats 4000000 in
theorem mX3_withBox_42_ok (C : bx_Cx p s m args meth c 7 A D cI cZ RX3 cX3_withBox (some .long)) : ∀ (n : Nat) (v3 : Int32) (w4 : Int64) (v6 : Int32) (σ : bx_St) (u : Int64), mX3_withBox_42 n v3 w4 v6 σ = some u → bx_Go p l e (bx_rm 5) s m args below meth c 7 A D (MQ below (bx_Q (some (.long u)) (bx_xw q cI σ) D A) args s 0 0 A) (bx_xw q cI σ) 42 [(0, .ref (q 0)), (3, .int v3), (4, .long w4), (6, .int v6)] [] := by
  intro n
  induction n with
  | zero =>
    intro v3 w4 v6 σ u hm
    cases hm
  | succ n ih =>
    intro v3 w4 v6 σ u hm
    rw [mX3_withBox_42] at hm
    refine go_iload C dX3_withBox_42 3 rfl (n := 44) rfl ?_
    refine go_iconst C dX3_withBox_44 (v := (3 : Int32)) (by decide) (n := 45) rfl ?_
    refine go_icmp_ge C 86 dX3_withBox_45 (by decide) (n := 48) rfl (fun c1 => ?_) (fun c1 => ?_)
    · have hm := bx_p c1 hm
      refine go_lload C dX3_withBox_86 2 rfl (n := 88) rfl ?_
      cases hm
      exact go_lret C dX3_withBox_88
    · have hm := bx_n c1 hm
      refine go_lload C dX3_withBox_48 2 rfl (n := 50) rfl ?_
      refine go_aload_n C dX3_withBox_50 rfl 0 rfl (n := 51) rfl ?_
      refine go_iload_n C dX3_withBox_51 rfl 1 rfl (n := 52) rfl ?_
      refine go_iload C dX3_withBox_52 3 rfl (n := 54) rfl ?_
      refine go_iconst C dX3_withBox_54 (v := (-1 : Int32)) (by decide) (n := 55) rfl ?_
      obtain ⟨u2, e3, hm⟩ := bx_b hm
      refine go_callVi C dX3_withBox_55 mw_X3_let ml_X3_248 (rest := [.long w4]) (ktX3_let e3) (xo3 q cI σ) rfl (by decide) rfl rfl (Nat.le_of_ble_eq_true rfl) (n := 58) rfl ?_
      refine go_i2l C dX3_withBox_58 (n := 59) rfl ?_
      refine go_callSl C dX3_withBox_59 mw_X3_with ml_X3_233 (rest := []) (ktX3_with rfl) (by decide) rfl rfl (Nat.le_of_ble_eq_true rfl) (n := 62) rfl ?_
      refine go_lstore C dX3_withBox_62 (by decide) (lv' := [(4, .long (mX3_with w4 u2.toInt64)), (0, .ref (q 0)), (3, .int v3), (6, .int v6)]) rfl (n := 64) rfl ?_
      refine go_lload C dX3_withBox_64 0 rfl (n := 66) rfl ?_
      refine go_aload_n C dX3_withBox_66 rfl 1 rfl (n := 67) rfl ?_
      refine go_iload_n C dX3_withBox_67 rfl 2 rfl (n := 68) rfl ?_
      refine go_iload C dX3_withBox_68 3 rfl (n := 70) rfl ?_
      refine go_iconst C dX3_withBox_70 (v := (1 : Int32)) (by decide) (n := 71) rfl ?_
      obtain ⟨u4, e5, hm⟩ := bx_b hm
      refine go_callVi C dX3_withBox_71 mw_X3_let ml_X3_248 (rest := [.long (mX3_with w4 u2.toInt64)]) (ktX3_let e5) (xo3 q cI σ) rfl (by decide) rfl rfl (Nat.le_of_ble_eq_true rfl) (n := 74) rfl ?_
      refine go_i2l C dX3_withBox_74 (n := 75) rfl ?_
      refine go_callSl C dX3_withBox_75 mw_X3_with ml_X3_233 (rest := []) (ktX3_with rfl) (by decide) rfl rfl (Nat.le_of_ble_eq_true rfl) (n := 78) rfl ?_
      refine go_lstore C dX3_withBox_78 (by decide) (lv' := [(4, .long (mX3_with (mX3_with w4 u2.toInt64) u4.toInt64)), (0, .ref (q 0)), (3, .int v3), (6, .int v6)]) rfl (n := 80) rfl ?_
      refine go_iinc C (j := 3) dX3_withBox_80 rfl (v := (v6 + 1)) rfl (by decide) (lv' := [(6, .int (v6 + 1)), (4, .long (mX3_with (mX3_with w4 u2.toInt64) u4.toInt64)), (0, .ref (q 0)), (3, .int v3)]) rfl (n := 83) rfl ?_
      refine go_goto C 42 dX3_withBox_83 (by decide) ?_
      refine go_lv (lv' := [(0, .ref (q 0)), (3, .int v3), (4, .long (mX3_with (mX3_with w4 u2.toInt64) u4.toInt64)), (6, .int (v6 + 1))]) [2, 3, 1, 0] rfl ?_
      exact ih _ _ _ _ _ hm
def mX3_withBox_11 : Nat → Int32 → Int64 → Int32 → bx_St → Option Int64
  | 0, _, _, _, _ => none
  | n + 1, v3, w4, v6, σ => (if (8 : Int32) < v6 then (mX3_withBox_42 bx_F v3 w4 (0 : Int32) σ) else (Option.bind (mX3_box v3 v6 σ) fun u2 => (mX3_withBox_11 n v3 (mX3_with w4 u2.toInt64) (v6 + 1) σ)))
set_option maxRecDepth 8000 in
set_option maxHeartbeats 4000000 in
theorem mX3_withBox_11_ok (C : bx_Cx p s m args meth c 7 A D cI cZ RX3 cX3_withBox (some .long)) : ∀ (n : Nat) (v3 : Int32) (w4 : Int64) (v6 : Int32) (σ : bx_St) (u : Int64), mX3_withBox_11 n v3 w4 v6 σ = some u → bx_Go p l e (bx_rm 5) s m args below meth c 7 A D (MQ below (bx_Q (some (.long u)) (bx_xw q cI σ) D A) args s 0 0 A) (bx_xw q cI σ) 11 [(0, .ref (q 0)), (3, .int v3), (4, .long w4), (6, .int v6)] [] := by
  intro n
  induction n with
  | zero =>
    intro v3 w4 v6 σ u hm
    cases hm
  | succ n ih =>
    intro v3 w4 v6 σ u hm
    rw [mX3_withBox_11] at hm
    refine go_iload C dX3_withBox_11 3 rfl (n := 13) rfl ?_
    refine go_bipush C dX3_withBox_13 (v := (8 : Int32)) (by decide) (n := 15) rfl ?_
    refine go_icmp_gt C 39 dX3_withBox_15 (by decide) (n := 18) rfl (fun c1 => ?_) (fun c1 => ?_)
    · have hm := bx_p c1 hm
      refine go_iconst C dX3_withBox_39 (v := (0 : Int32)) (by decide) (n := 40) rfl ?_
      refine go_istore C dX3_withBox_40 (by decide) (lv' := [(6, .int (0 : Int32)), (0, .ref (q 0)), (3, .int v3), (4, .long w4)]) rfl (n := 42) rfl ?_
      refine go_lv (lv' := [(0, .ref (q 0)), (3, .int v3), (4, .long w4), (6, .int (0 : Int32))]) [1, 2, 3, 0] rfl ?_
      exact mX3_withBox_42_ok C _ _ _ _ _ _ hm
    · have hm := bx_n c1 hm
      refine go_lload C dX3_withBox_18 2 rfl (n := 20) rfl ?_
      refine go_aload_n C dX3_withBox_20 rfl 0 rfl (n := 21) rfl ?_
      refine go_iload_n C dX3_withBox_21 rfl 1 rfl (n := 22) rfl ?_
      refine go_iload C dX3_withBox_22 3 rfl (n := 24) rfl ?_
      obtain ⟨u2, e3, hm⟩ := bx_b hm
      refine go_callVi C dX3_withBox_24 mw_X3_box ml_X3_245 (rest := [.long w4]) (ktX3_box e3) (xo3 q cI σ) rfl (by decide) rfl rfl (Nat.le_of_ble_eq_true rfl) (n := 27) rfl ?_
      refine go_i2l C dX3_withBox_27 (n := 28) rfl ?_
      refine go_callSl C dX3_withBox_28 mw_X3_with ml_X3_233 (rest := []) (ktX3_with rfl) (by decide) rfl rfl (Nat.le_of_ble_eq_true rfl) (n := 31) rfl ?_
      refine go_lstore C dX3_withBox_31 (by decide) (lv' := [(4, .long (mX3_with w4 u2.toInt64)), (0, .ref (q 0)), (3, .int v3), (6, .int v6)]) rfl (n := 33) rfl ?_
      refine go_iinc C (j := 3) dX3_withBox_33 rfl (v := (v6 + 1)) rfl (by decide) (lv' := [(6, .int (v6 + 1)), (4, .long (mX3_with w4 u2.toInt64)), (0, .ref (q 0)), (3, .int v3)]) rfl (n := 36) rfl ?_
      refine go_goto C 11 dX3_withBox_36 (by decide) ?_
      refine go_lv (lv' := [(0, .ref (q 0)), (3, .int v3), (4, .long (mX3_with w4 u2.toInt64)), (6, .int (v6 + 1))]) [2, 3, 1, 0] rfl ?_
      exact ih _ _ _ _ _ hm
def mX3_withBox (w1 : Int64) (v3 : Int32) (σ : bx_St) : Option Int64 := (mX3_withBox_11 bx_F v3 (mX3_with w1 v3.toInt64) (0 : Int32) σ)
set_option maxRecDepth 8000 in
set_option maxHeartbeats 4000000 in
theorem ktX3_withBox {l : Launch} {D : va_G} {cI cZ : ClassId} {q : Nat → Nat} {w1 : Int64} {v3 : Int32} {σ : bx_St} {u : Int64} (hm : mX3_withBox w1 v3 σ = some u) : bx_Mt l D cI cZ yX3_withBox cX3_withBox 7 (some .long) 5 [.ref (q 0), .long w1, .int v3] (bx_xw q cI σ) (some (.long u)) (bx_xw q cI σ) := by
  refine bx_mk (by decide) (Nat.le_of_ble_eq_true rfl) (lv := [(0, .ref (q 0)), (1, .long w1), (3, .int v3)]) rfl (fun p e s m args below meth c A C => ?_)
  replace C : bx_Cx p s m args meth c 7 A D cI cZ RX3 cX3_withBox (some .long) := C
  unfold mX3_withBox at hm
  refine go_lload_n C dX3_withBox_0 rfl 1 rfl (n := 1) rfl ?_
  refine go_iload_n C dX3_withBox_1 rfl 2 rfl (n := 2) rfl ?_
  refine go_i2l C dX3_withBox_2 (n := 3) rfl ?_
  refine go_callSl C dX3_withBox_3 mw_X3_with ml_X3_233 (rest := []) (ktX3_with rfl) (by decide) rfl rfl (Nat.le_of_ble_eq_true rfl) (n := 6) rfl ?_
  refine go_lstore C dX3_withBox_6 (by decide) (lv' := [(4, .long (mX3_with w1 v3.toInt64)), (0, .ref (q 0)), (1, .long w1), (3, .int v3)]) rfl (n := 8) rfl ?_
  refine go_iconst C dX3_withBox_8 (v := (0 : Int32)) (by decide) (n := 9) rfl ?_
  refine go_istore C dX3_withBox_9 (by decide) (lv' := [(6, .int (0 : Int32)), (4, .long (mX3_with w1 v3.toInt64)), (0, .ref (q 0)), (1, .long w1), (3, .int v3)]) rfl (n := 11) rfl ?_
  refine go_lv (lv' := [(0, .ref (q 0)), (3, .int v3), (4, .long (mX3_with w1 v3.toInt64)), (6, .int (0 : Int32))]) [2, 4, 1, 0] rfl ?_
  exact mX3_withBox_11_ok C _ _ _ _ _ _ hm
def mX3_end (v1 : Int32) (v2 : Int32) (v3 : Int32) (σ : bx_St) : Option Int32 := (if (mX3_isAxis v1) = 0 then (some (-10002 : Int32)) else (if v2 < 0 then (some (-10002 : Int32)) else (if v2 < (σ.1 (mX3_lineOf v1) 4) then (if bx_ok v2 24 then (if v3 = (0 : Int32) then (some (mX1_boxOf (σ.1 ((mX3_lineOf v1) + 3) v2.toNatClampNeg))) else (if v3 = (1 : Int32) then (if (mX1_isHigh (σ.1 ((mX3_lineOf v1) + 3) v2.toNatClampNeg)) = 0 then (some (0 : Int32)) else (some (1 : Int32))) else (if v3 = (2 : Int32) then (Option.bind (mX1_valueOf (mX3_lineOf v1) (σ.1 ((mX3_lineOf v1) + 3) v2.toNatClampNeg) σ) fun u9 => (some u9)) else (some (-10003 : Int32))))) else none) else (some (-10002 : Int32)))))
set_option maxRecDepth 8000 in
set_option maxHeartbeats 4000000 in
theorem ktX3_end {l : Launch} {D : va_G} {cI cZ : ClassId} {q : Nat → Nat} {v1 : Int32} {v2 : Int32} {v3 : Int32} {σ : bx_St} {u : Int32} (hm : mX3_end v1 v2 v3 σ = some u) : bx_Mt l D cI cZ yX3_end cX3_end 5 (some .int) 3 [.ref (q 0), .int v1, .int v2, .int v3] (bx_xw q cI σ) (some (.int u)) (bx_xw q cI σ) := by
  refine bx_mk (by decide) (Nat.le_of_ble_eq_true rfl) (lv := [(0, .ref (q 0)), (1, .int v1), (2, .int v2), (3, .int v3)]) rfl (fun p e s m args below meth c A C => ?_)
  replace C : bx_Cx p s m args meth c 5 A D cI cZ RX3 cX3_end (some .int) := C
  unfold mX3_end at hm
  refine go_iload_n C dX3_end_0 rfl 1 rfl (n := 1) rfl ?_
  refine go_callSi C dX3_end_1 mw_X3_isAxis ml_X3_108 (rest := []) (ktX3_isAxis rfl) (by decide) rfl rfl (Nat.le_of_ble_eq_true rfl) (n := 4) rfl ?_
  refine go_if_eq C 23 dX3_end_4 (by decide) (n := 7) rfl (fun c1 => ?_) (fun c1 => ?_)
  · have hm := bx_p c1 hm
    refine go_sipush C dX3_end_23 (v := (-10002 : Int32)) (by decide) (n := 26) rfl ?_
    cases hm
    exact go_iret C dX3_end_26
  · have hm := bx_n c1 hm
    refine go_iload_n C dX3_end_7 rfl 2 rfl (n := 8) rfl ?_
    refine go_if_lt C 23 dX3_end_8 (by decide) (n := 11) rfl (fun c2 => ?_) (fun c2 => ?_)
    · have hm := bx_p c2 hm
      refine go_sipush C dX3_end_23 (v := (-10002 : Int32)) (by decide) (n := 26) rfl ?_
      cases hm
      exact go_iret C dX3_end_26
    · have hm := bx_n c2 hm
      refine go_iload_n C dX3_end_11 rfl 2 rfl (n := 12) rfl ?_
      refine go_aload_n C dX3_end_12 rfl 0 rfl (n := 13) rfl ?_
      refine go_iload_n C dX3_end_13 rfl 1 rfl (n := 14) rfl ?_
      refine go_callVa C dX3_end_14 mw_X3_lineOf ml_X3_120 (rest := [.int v2]) (ktX3_lineOf rfl) (xo3 q cI σ) rfl (by decide) rfl rfl (Nat.le_of_ble_eq_true rfl) (n := 17) rfl ?_
      refine go_get C dX3_end_17 (xf1_4 q cI σ (mX3_lineOf_isL _)) rfl inX1 (by decide) fl_X3_124 (n := 20) rfl ?_
      refine go_icmp_lt C 27 dX3_end_20 (by decide) (n := 23) rfl (fun c3 => ?_) (fun c3 => ?_)
      · have hm := bx_p c3 hm
        refine go_aload_n C dX3_end_27 rfl 0 rfl (n := 28) rfl ?_
        refine go_iload_n C dX3_end_28 rfl 1 rfl (n := 29) rfl ?_
        refine go_callVa C dX3_end_29 mw_X3_lineOf ml_X3_120 (rest := []) (ktX3_lineOf rfl) (xo3 q cI σ) rfl (by decide) rfl rfl (Nat.le_of_ble_eq_true rfl) (n := 32) rfl ?_
        refine go_get C dX3_end_32 (xf1_2 q cI σ (mX3_lineOf_isL _)) rfl inX1 (by decide) fl_X3_127 (n := 35) rfl ?_
        refine go_iload_n C dX3_end_35 rfl 2 rfl (n := 36) rfl ?_
        obtain ⟨b4, hm⟩ := bx_g hm
        refine go_iald C dX3_end_36 (xal_3 q cI σ (mX3_lineOf_isL _)) b4 (n := 37) rfl ?_
        refine go_istore C dX3_end_37 (by decide) (lv' := [(4, .int (σ.1 ((mX3_lineOf v1) + 3) v2.toNatClampNeg)), (0, .ref (q 0)), (1, .int v1), (2, .int v2), (3, .int v3)]) rfl (n := 39) rfl ?_
        refine go_iload_n C dX3_end_39 rfl 4 rfl (n := 40) rfl ?_
        by_cases c5 : v3 = (0 : Int32)
        · have hm := bx_p c5 hm
          refine go_tableIn C 68 dX3_end_40 (off := 28) (by rw [c5]; decide) (by rw [c5]; decide) (by rw [c5]; decide) (by decide) ?_
          refine go_iload C dX3_end_68 0 rfl (n := 70) rfl ?_
          refine go_callSi C dX3_end_70 mw_X1_boxOf ml_X3_130 (rest := []) (ktX1_boxOf rfl) (by decide) rfl rfl (Nat.le_of_ble_eq_true rfl) (n := 73) rfl ?_
          cases hm
          exact go_iret C dX3_end_73
        have hm := bx_n c5 hm
        by_cases c6 : v3 = (1 : Int32)
        · have hm := bx_p c6 hm
          refine go_tableIn C 74 dX3_end_40 (off := 34) (by rw [c6]; decide) (by rw [c6]; decide) (by rw [c6]; decide) (by decide) ?_
          refine go_iload C dX3_end_74 0 rfl (n := 76) rfl ?_
          refine go_callSi C dX3_end_76 mw_X1_isHigh ml_X3_133 (rest := []) (ktX1_isHigh rfl) (by decide) rfl rfl (Nat.le_of_ble_eq_true rfl) (n := 79) rfl ?_
          refine go_if_eq C 86 dX3_end_79 (by decide) (n := 82) rfl (fun c7 => ?_) (fun c7 => ?_)
          · have hm := bx_p c7 hm
            refine go_iconst C dX3_end_86 (v := (0 : Int32)) (by decide) (n := 87) rfl ?_
            cases hm
            exact go_iret C dX3_end_87
          · have hm := bx_n c7 hm
            refine go_iconst C dX3_end_82 (v := (1 : Int32)) (by decide) (n := 83) rfl ?_
            refine go_goto C 87 dX3_end_83 (by decide) ?_
            cases hm
            exact go_iret C dX3_end_87
        have hm := bx_n c6 hm
        by_cases c8 : v3 = (2 : Int32)
        · have hm := bx_p c8 hm
          refine go_tableIn C 88 dX3_end_40 (off := 48) (by rw [c8]; decide) (by rw [c8]; decide) (by rw [c8]; decide) (by decide) ?_
          refine go_aload_n C dX3_end_88 rfl 1 rfl (n := 89) rfl ?_
          refine go_iload_n C dX3_end_89 rfl 2 rfl (n := 90) rfl ?_
          refine go_callVa C dX3_end_90 mw_X3_lineOf ml_X3_120 (rest := []) (ktX3_lineOf rfl) (xo3 q cI σ) rfl (by decide) rfl rfl (Nat.le_of_ble_eq_true rfl) (n := 93) rfl ?_
          refine go_iload C dX3_end_93 0 rfl (n := 95) rfl ?_
          obtain ⟨u9, e10, hm⟩ := bx_b hm
          refine go_callVi C dX3_end_95 mw_X1_valueOf ml_X3_136 (rest := []) (ktX1_valueOf (mX3_lineOf_isL _) e10) (xo1 q cI σ (mX3_lineOf_isL _)) rfl (by decide) rfl rfl (Nat.le_of_ble_eq_true rfl) (n := 98) rfl ?_
          cases hm
          exact go_iret C dX3_end_98
        have hm := bx_n c8 hm
        have nc5 := bx_ne (n := 0) (0 : Int32) (by decide) c5
        have nc6 := bx_ne (n := 1) (1 : Int32) (by decide) c6
        have nc8 := bx_ne (n := 2) (2 : Int32) (by decide) c8
        refine go_tableOut C 99 dX3_end_40 (by omega) (by decide) ?_
        refine go_sipush C dX3_end_99 (v := (-10003 : Int32)) (by decide) (n := 102) rfl ?_
        cases hm
        exact go_iret C dX3_end_102
      · have hm := bx_n c3 hm
        refine go_sipush C dX3_end_23 (v := (-10002 : Int32)) (by decide) (n := 26) rfl ?_
        cases hm
        exact go_iret C dX3_end_26
def mX3_withEnds_26 (K16 : Int32 → Int64 → Int32 → Int32 → bx_St → Option Int64) : Nat → Int32 → Int64 → Int32 → Int32 → Int32 → bx_St → Option Int64
  | 0, _, _, _, _, _, _ => none
  | n + 1, v3, w4, v6, v7, v8, σ => (if (2 : Int32) < v8 then (K16 v3 w4 v6 (v7 + 1) σ) else (Option.bind (mX3_end v3 v7 v8 σ) fun u2 => (mX3_withEnds_26 K16 n v3 (mX3_with w4 u2.toInt64) v6 v7 (v8 + 1) σ)))
set_option maxRecDepth 8000 in
set_option maxHeartbeats 4000000 in
theorem mX3_withEnds_26_ok (C : bx_Cx p s m args meth c 9 A D cI cZ RX3 cX3_withEnds (some .long)) (K16 : Int32 → Int64 → Int32 → Int32 → bx_St → Option Int64) (HK16 : ∀ (v3 : Int32) (w4 : Int64) (v6 : Int32) (v7 : Int32) (σ : bx_St) (u : Int64), K16 v3 w4 v6 v7 σ = some u → bx_Go p l e (bx_rm 4) s m args below meth c 9 A D (MQ below (bx_Q (some (.long u)) (bx_xw q cI σ) D A) args s 0 0 A) (bx_xw q cI σ) 16 [(0, .ref (q 0)), (3, .int v3), (4, .long w4), (6, .int v6), (7, .int v7)] []) : ∀ (n : Nat) (v3 : Int32) (w4 : Int64) (v6 : Int32) (v7 : Int32) (v8 : Int32) (σ : bx_St) (u : Int64), mX3_withEnds_26 K16 n v3 w4 v6 v7 v8 σ = some u → bx_Go p l e (bx_rm 4) s m args below meth c 9 A D (MQ below (bx_Q (some (.long u)) (bx_xw q cI σ) D A) args s 0 0 A) (bx_xw q cI σ) 26 [(0, .ref (q 0)), (3, .int v3), (4, .long w4), (6, .int v6), (7, .int v7), (8, .int v8)] [] := by
  intro n
  induction n with
  | zero =>
    intro v3 w4 v6 v7 v8 σ u hm
    cases hm
  | succ n ih =>
    intro v3 w4 v6 v7 v8 σ u hm
    rw [mX3_withEnds_26] at hm
    refine go_iload C dX3_withEnds_26 5 rfl (n := 28) rfl ?_
    refine go_iconst C dX3_withEnds_28 (v := (2 : Int32)) (by decide) (n := 29) rfl ?_
    refine go_icmp_gt C 55 dX3_withEnds_29 (by decide) (n := 32) rfl (fun c1 => ?_) (fun c1 => ?_)
    · have hm := bx_p c1 hm
      refine go_iinc C (j := 4) dX3_withEnds_55 rfl (v := (v7 + 1)) rfl (by decide) (lv' := [(7, .int (v7 + 1)), (0, .ref (q 0)), (3, .int v3), (4, .long w4), (6, .int v6), (8, .int v8)]) rfl (n := 58) rfl ?_
      refine go_goto C 16 dX3_withEnds_58 (by decide) ?_
      refine go_lv (lv' := [(0, .ref (q 0)), (3, .int v3), (4, .long w4), (6, .int v6), (7, .int (v7 + 1))]) [1, 2, 3, 4, 0] rfl ?_
      exact HK16 _ _ _ _ _ _ hm
    · have hm := bx_n c1 hm
      refine go_lload C dX3_withEnds_32 2 rfl (n := 34) rfl ?_
      refine go_aload_n C dX3_withEnds_34 rfl 0 rfl (n := 35) rfl ?_
      refine go_iload_n C dX3_withEnds_35 rfl 1 rfl (n := 36) rfl ?_
      refine go_iload C dX3_withEnds_36 4 rfl (n := 38) rfl ?_
      refine go_iload C dX3_withEnds_38 5 rfl (n := 40) rfl ?_
      obtain ⟨u2, e3, hm⟩ := bx_b hm
      refine go_callVi C dX3_withEnds_40 mw_X3_end ml_X3_251 (rest := [.long w4]) (ktX3_end e3) (xo3 q cI σ) rfl (by decide) rfl rfl (Nat.le_of_ble_eq_true rfl) (n := 43) rfl ?_
      refine go_i2l C dX3_withEnds_43 (n := 44) rfl ?_
      refine go_callSl C dX3_withEnds_44 mw_X3_with ml_X3_233 (rest := []) (ktX3_with rfl) (by decide) rfl rfl (Nat.le_of_ble_eq_true rfl) (n := 47) rfl ?_
      refine go_lstore C dX3_withEnds_47 (by decide) (lv' := [(4, .long (mX3_with w4 u2.toInt64)), (0, .ref (q 0)), (3, .int v3), (6, .int v6), (7, .int v7), (8, .int v8)]) rfl (n := 49) rfl ?_
      refine go_iinc C (j := 5) dX3_withEnds_49 rfl (v := (v8 + 1)) rfl (by decide) (lv' := [(8, .int (v8 + 1)), (4, .long (mX3_with w4 u2.toInt64)), (0, .ref (q 0)), (3, .int v3), (6, .int v6), (7, .int v7)]) rfl (n := 52) rfl ?_
      refine go_goto C 26 dX3_withEnds_52 (by decide) ?_
      refine go_lv (lv' := [(0, .ref (q 0)), (3, .int v3), (4, .long (mX3_with w4 u2.toInt64)), (6, .int v6), (7, .int v7), (8, .int (v8 + 1))]) [2, 3, 1, 4, 5, 0] rfl ?_
      exact ih _ _ _ _ _ _ _ hm
def mX3_withEnds_16 : Nat → Int32 → Int64 → Int32 → Int32 → bx_St → Option Int64
  | 0, _, _, _, _, _ => none
  | n + 1, v3, w4, v6, v7, σ => (if v6 ≤ v7 then (some w4) else (mX3_withEnds_26 (mX3_withEnds_16 n) bx_F v3 w4 v6 v7 (0 : Int32) σ))
set_option maxRecDepth 8000 in
set_option maxHeartbeats 4000000 in
theorem mX3_withEnds_16_ok (C : bx_Cx p s m args meth c 9 A D cI cZ RX3 cX3_withEnds (some .long)) : ∀ (n : Nat) (v3 : Int32) (w4 : Int64) (v6 : Int32) (v7 : Int32) (σ : bx_St) (u : Int64), mX3_withEnds_16 n v3 w4 v6 v7 σ = some u → bx_Go p l e (bx_rm 4) s m args below meth c 9 A D (MQ below (bx_Q (some (.long u)) (bx_xw q cI σ) D A) args s 0 0 A) (bx_xw q cI σ) 16 [(0, .ref (q 0)), (3, .int v3), (4, .long w4), (6, .int v6), (7, .int v7)] [] := by
  intro n
  induction n with
  | zero =>
    intro v3 w4 v6 v7 σ u hm
    cases hm
  | succ n ih =>
    intro v3 w4 v6 v7 σ u hm
    rw [mX3_withEnds_16] at hm
    refine go_iload C dX3_withEnds_16 4 rfl (n := 18) rfl ?_
    refine go_iload C dX3_withEnds_18 3 rfl (n := 20) rfl ?_
    refine go_icmp_ge C 61 dX3_withEnds_20 (by decide) (n := 23) rfl (fun c1 => ?_) (fun c1 => ?_)
    · have hm := bx_p c1 hm
      refine go_lload C dX3_withEnds_61 2 rfl (n := 63) rfl ?_
      cases hm
      exact go_lret C dX3_withEnds_63
    · have hm := bx_n c1 hm
      refine go_iconst C dX3_withEnds_23 (v := (0 : Int32)) (by decide) (n := 24) rfl ?_
      refine go_istore C dX3_withEnds_24 (by decide) (lv' := [(8, .int (0 : Int32)), (0, .ref (q 0)), (3, .int v3), (4, .long w4), (6, .int v6), (7, .int v7)]) rfl (n := 26) rfl ?_
      refine go_lv (lv' := [(0, .ref (q 0)), (3, .int v3), (4, .long w4), (6, .int v6), (7, .int v7), (8, .int (0 : Int32))]) [1, 2, 3, 4, 5, 0] rfl ?_
      exact mX3_withEnds_26_ok C _ ih _ _ _ _ _ _ _ _ hm
def mX3_withEnds (w1 : Int64) (v3 : Int32) (σ : bx_St) : Option Int64 := (mX3_withEnds_16 bx_F v3 w1 (σ.1 (mX3_lineOf v3) 4) (0 : Int32) σ)
set_option maxRecDepth 8000 in
set_option maxHeartbeats 4000000 in
theorem ktX3_withEnds {l : Launch} {D : va_G} {cI cZ : ClassId} {q : Nat → Nat} {w1 : Int64} {v3 : Int32} {σ : bx_St} {u : Int64} (hm : mX3_withEnds w1 v3 σ = some u) : bx_Mt l D cI cZ yX3_withEnds cX3_withEnds 9 (some .long) 4 [.ref (q 0), .long w1, .int v3] (bx_xw q cI σ) (some (.long u)) (bx_xw q cI σ) := by
  refine bx_mk (by decide) (Nat.le_of_ble_eq_true rfl) (lv := [(0, .ref (q 0)), (1, .long w1), (3, .int v3)]) rfl (fun p e s m args below meth c A C => ?_)
  replace C : bx_Cx p s m args meth c 9 A D cI cZ RX3 cX3_withEnds (some .long) := C
  unfold mX3_withEnds at hm
  refine go_lload_n C dX3_withEnds_0 rfl 1 rfl (n := 1) rfl ?_
  refine go_lstore C dX3_withEnds_1 (by decide) (lv' := [(4, .long w1), (0, .ref (q 0)), (1, .long w1), (3, .int v3)]) rfl (n := 3) rfl ?_
  refine go_aload_n C dX3_withEnds_3 rfl 1 rfl (n := 4) rfl ?_
  refine go_iload_n C dX3_withEnds_4 rfl 3 rfl (n := 5) rfl ?_
  refine go_callVa C dX3_withEnds_5 mw_X3_lineOf ml_X3_120 (rest := []) (ktX3_lineOf rfl) (xo3 q cI σ) rfl (by decide) rfl rfl (Nat.le_of_ble_eq_true rfl) (n := 8) rfl ?_
  refine go_get C dX3_withEnds_8 (xf1_4 q cI σ (mX3_lineOf_isL _)) rfl inX1 (by decide) fl_X3_124 (n := 11) rfl ?_
  refine go_istore C dX3_withEnds_11 (by decide) (lv' := [(6, .int (σ.1 (mX3_lineOf v3) 4)), (4, .long w1), (0, .ref (q 0)), (1, .long w1), (3, .int v3)]) rfl (n := 13) rfl ?_
  refine go_iconst C dX3_withEnds_13 (v := (0 : Int32)) (by decide) (n := 14) rfl ?_
  refine go_istore C dX3_withEnds_14 (by decide) (lv' := [(7, .int (0 : Int32)), (6, .int (σ.1 (mX3_lineOf v3) 4)), (4, .long w1), (0, .ref (q 0)), (1, .long w1), (3, .int v3)]) rfl (n := 16) rfl ?_
  refine go_lv (lv' := [(0, .ref (q 0)), (3, .int v3), (4, .long w1), (6, .int (σ.1 (mX3_lineOf v3) 4)), (7, .int (0 : Int32))]) [3, 5, 2, 1, 0] rfl ?_
  exact mX3_withEnds_16_ok C _ _ _ _ _ _ _ hm
def mX3_event (v1 : Int32) (v2 : Int32) (σ : bx_St) : Option Int32 := (if v1 < 0 then (some (-10002 : Int32)) else (if v1 < (mX0_eventCount σ) then (if v2 = (0 : Int32) then (Option.bind (mX0_eventPair v1 σ) fun u4 => (some u4)) else (if v2 = (1 : Int32) then (Option.bind (mX0_eventBegan v1 σ) fun u7 => (if u7 = 0 then (some (0 : Int32)) else (some (1 : Int32)))) else (some (-10003 : Int32)))) else (some (-10002 : Int32))))
set_option maxRecDepth 8000 in
set_option maxHeartbeats 4000000 in
theorem ktX3_event {l : Launch} {D : va_G} {cI cZ : ClassId} {q : Nat → Nat} {v1 : Int32} {v2 : Int32} {σ : bx_St} {u : Int32} (hm : mX3_event v1 v2 σ = some u) : bx_Mt l D cI cZ yX3_event cX3_event 3 (some .int) 2 [.ref (q 0), .int v1, .int v2] (bx_xw q cI σ) (some (.int u)) (bx_xw q cI σ) := by
  refine bx_mk (by decide) (Nat.le_of_ble_eq_true rfl) (lv := [(0, .ref (q 0)), (1, .int v1), (2, .int v2)]) rfl (fun p e s m args below meth c A C => ?_)
  replace C : bx_Cx p s m args meth c 3 A D cI cZ RX3 cX3_event (some .int) := C
  unfold mX3_event at hm
  refine go_iload_n C dX3_event_0 rfl 1 rfl (n := 1) rfl ?_
  refine go_if_lt C 15 dX3_event_1 (by decide) (n := 4) rfl (fun c1 => ?_) (fun c1 => ?_)
  · have hm := bx_p c1 hm
    refine go_sipush C dX3_event_15 (v := (-10002 : Int32)) (by decide) (n := 18) rfl ?_
    cases hm
    exact go_iret C dX3_event_18
  · have hm := bx_n c1 hm
    refine go_iload_n C dX3_event_4 rfl 1 rfl (n := 5) rfl ?_
    refine go_aload_n C dX3_event_5 rfl 0 rfl (n := 6) rfl ?_
    refine go_get C dX3_event_6 (xf3_4 q cI σ) rfl inX3 (by decide) fl_X3_32 (n := 9) rfl ?_
    refine go_callVi C dX3_event_9 mw_X0_eventCount ml_X3_149 (rest := [.int v1]) (ktX0_eventCount rfl) (xo0 q cI σ) rfl (by decide) rfl rfl (Nat.le_of_ble_eq_true rfl) (n := 12) rfl ?_
    refine go_icmp_lt C 19 dX3_event_12 (by decide) (n := 15) rfl (fun c2 => ?_) (fun c2 => ?_)
    · have hm := bx_p c2 hm
      refine go_iload_n C dX3_event_19 rfl 2 rfl (n := 20) rfl ?_
      by_cases c3 : v2 = (0 : Int32)
      · have hm := bx_p c3 hm
        refine go_lookup C 48 dX3_event_20 (off := 28) (by decide) (by rw [c3]; decide) (by decide) ?_
        refine go_aload_n C dX3_event_48 rfl 0 rfl (n := 49) rfl ?_
        refine go_get C dX3_event_49 (xf3_4 q cI σ) rfl inX3 (by decide) fl_X3_32 (n := 52) rfl ?_
        refine go_iload_n C dX3_event_52 rfl 1 rfl (n := 53) rfl ?_
        obtain ⟨u4, e5, hm⟩ := bx_b hm
        refine go_callVi C dX3_event_53 mw_X0_eventPair ml_X3_152 (rest := []) (ktX0_eventPair e5) (xo0 q cI σ) rfl (by decide) rfl rfl (Nat.le_of_ble_eq_true rfl) (n := 56) rfl ?_
        cases hm
        exact go_iret C dX3_event_56
      have hm := bx_n c3 hm
      by_cases c6 : v2 = (1 : Int32)
      · have hm := bx_p c6 hm
        refine go_lookup C 57 dX3_event_20 (off := 37) (by decide) (by rw [c6]; decide) (by decide) ?_
        refine go_aload_n C dX3_event_57 rfl 0 rfl (n := 58) rfl ?_
        refine go_get C dX3_event_58 (xf3_4 q cI σ) rfl inX3 (by decide) fl_X3_32 (n := 61) rfl ?_
        refine go_iload_n C dX3_event_61 rfl 1 rfl (n := 62) rfl ?_
        obtain ⟨u7, e8, hm⟩ := bx_b hm
        refine go_callVi C dX3_event_62 mw_X0_eventBegan ml_X3_155 (rest := []) (ktX0_eventBegan e8) (xo0 q cI σ) rfl (by decide) rfl rfl (Nat.le_of_ble_eq_true rfl) (n := 65) rfl ?_
        refine go_if_eq C 72 dX3_event_65 (by decide) (n := 68) rfl (fun c9 => ?_) (fun c9 => ?_)
        · have hm := bx_p c9 hm
          refine go_iconst C dX3_event_72 (v := (0 : Int32)) (by decide) (n := 73) rfl ?_
          cases hm
          exact go_iret C dX3_event_73
        · have hm := bx_n c9 hm
          refine go_iconst C dX3_event_68 (v := (1 : Int32)) (by decide) (n := 69) rfl ?_
          refine go_goto C 73 dX3_event_69 (by decide) ?_
          cases hm
          exact go_iret C dX3_event_73
      have hm := bx_n c6 hm
      have nc3 := bx_ne (n := 0) (0 : Int32) (by decide) c3
      have nc6 := bx_ne (n := 1) (1 : Int32) (by decide) c6
      refine go_lookup C 74 dX3_event_20 (off := 54) (by decide) (bx_lk2 nc3 nc6) (by decide) ?_
      refine go_sipush C dX3_event_74 (v := (-10003 : Int32)) (by decide) (n := 77) rfl ?_
      cases hm
      exact go_iret C dX3_event_77
    · have hm := bx_n c2 hm
      refine go_sipush C dX3_event_15 (v := (-10002 : Int32)) (by decide) (n := 18) rfl ?_
      cases hm
      exact go_iret C dX3_event_18
def mX3_latest (v1 : Int32) (σ : bx_St) : Option Int32 := (if v1 = (0 : Int32) then (some (mX0_eventCount σ)) else (if v1 = (1 : Int32) then (some (σ.1 5 2)) else (if v1 = (2 : Int32) then (some (σ.1 5 3)) else (if v1 = (3 : Int32) then (some (σ.1 5 4)) else (if v1 = (4 : Int32) then (if bx_ok (0 : Int32) 3 then (some (σ.1 7 (0 : Int32).toNatClampNeg)) else none) else (if v1 = (5 : Int32) then (if bx_ok (1 : Int32) 3 then (some (σ.1 7 (1 : Int32).toNatClampNeg)) else none) else (if v1 = (6 : Int32) then (if bx_ok (2 : Int32) 3 then (some (σ.1 7 (2 : Int32).toNatClampNeg)) else none) else (some (-10003 : Int32)))))))))
set_option maxRecDepth 8000 in
set_option maxHeartbeats 4000000 in
theorem ktX3_latest {l : Launch} {D : va_G} {cI cZ : ClassId} {q : Nat → Nat} {v1 : Int32} {σ : bx_St} {u : Int32} (hm : mX3_latest v1 σ = some u) : bx_Mt l D cI cZ yX3_latest cX3_latest 2 (some .int) 2 [.ref (q 0), .int v1] (bx_xw q cI σ) (some (.int u)) (bx_xw q cI σ) := by
  refine bx_mk (by decide) (Nat.le_of_ble_eq_true rfl) (lv := [(0, .ref (q 0)), (1, .int v1)]) rfl (fun p e s m args below meth c A C => ?_)
  replace C : bx_Cx p s m args meth c 2 A D cI cZ RX3 cX3_latest (some .int) := C
  unfold mX3_latest at hm
  refine go_iload_n C dX3_latest_0 rfl 1 rfl (n := 1) rfl ?_
  by_cases c1 : v1 = (0 : Int32)
  · have hm := bx_p c1 hm
    refine go_tableIn C 44 dX3_latest_1 (off := 43) (by rw [c1]; decide) (by rw [c1]; decide) (by rw [c1]; decide) (by decide) ?_
    refine go_aload_n C dX3_latest_44 rfl 0 rfl (n := 45) rfl ?_
    refine go_get C dX3_latest_45 (xf3_4 q cI σ) rfl inX3 (by decide) fl_X3_32 (n := 48) rfl ?_
    refine go_callVi C dX3_latest_48 mw_X0_eventCount ml_X3_149 (rest := []) (ktX0_eventCount rfl) (xo0 q cI σ) rfl (by decide) rfl rfl (Nat.le_of_ble_eq_true rfl) (n := 51) rfl ?_
    cases hm
    exact go_iret C dX3_latest_51
  have hm := bx_n c1 hm
  by_cases c2 : v1 = (1 : Int32)
  · have hm := bx_p c2 hm
    refine go_tableIn C 52 dX3_latest_1 (off := 51) (by rw [c2]; decide) (by rw [c2]; decide) (by rw [c2]; decide) (by decide) ?_
    refine go_aload_n C dX3_latest_52 rfl 0 rfl (n := 53) rfl ?_
    refine go_get C dX3_latest_53 (xf3_4 q cI σ) rfl inX3 (by decide) fl_X3_32 (n := 56) rfl ?_
    refine go_get C dX3_latest_56 (xf0_2 q cI σ) rfl inX0 (by decide) fl_X3_158 (n := 59) rfl ?_
    cases hm
    exact go_iret C dX3_latest_59
  have hm := bx_n c2 hm
  by_cases c3 : v1 = (2 : Int32)
  · have hm := bx_p c3 hm
    refine go_tableIn C 60 dX3_latest_1 (off := 59) (by rw [c3]; decide) (by rw [c3]; decide) (by rw [c3]; decide) (by decide) ?_
    refine go_aload_n C dX3_latest_60 rfl 0 rfl (n := 61) rfl ?_
    refine go_get C dX3_latest_61 (xf3_4 q cI σ) rfl inX3 (by decide) fl_X3_32 (n := 64) rfl ?_
    refine go_get C dX3_latest_64 (xf0_3 q cI σ) rfl inX0 (by decide) fl_X3_161 (n := 67) rfl ?_
    cases hm
    exact go_iret C dX3_latest_67
  have hm := bx_n c3 hm
  by_cases c4 : v1 = (3 : Int32)
  · have hm := bx_p c4 hm
    refine go_tableIn C 68 dX3_latest_1 (off := 67) (by rw [c4]; decide) (by rw [c4]; decide) (by rw [c4]; decide) (by decide) ?_
    refine go_aload_n C dX3_latest_68 rfl 0 rfl (n := 69) rfl ?_
    refine go_get C dX3_latest_69 (xf3_4 q cI σ) rfl inX3 (by decide) fl_X3_32 (n := 72) rfl ?_
    refine go_get C dX3_latest_72 (xf0_4 q cI σ) rfl inX0 (by decide) fl_X3_164 (n := 75) rfl ?_
    cases hm
    exact go_iret C dX3_latest_75
  have hm := bx_n c4 hm
  by_cases c5 : v1 = (4 : Int32)
  · have hm := bx_p c5 hm
    refine go_tableIn C 76 dX3_latest_1 (off := 75) (by rw [c5]; decide) (by rw [c5]; decide) (by rw [c5]; decide) (by decide) ?_
    refine go_aload_n C dX3_latest_76 rfl 0 rfl (n := 77) rfl ?_
    refine go_get C dX3_latest_77 (xf3_4 q cI σ) rfl inX3 (by decide) fl_X3_32 (n := 80) rfl ?_
    refine go_get C dX3_latest_80 (xf0_1 q cI σ) rfl inX0 (by decide) fl_X3_167 (n := 83) rfl ?_
    refine go_iconst C dX3_latest_83 (v := (0 : Int32)) (by decide) (n := 84) rfl ?_
    obtain ⟨b6, hm⟩ := bx_g hm
    refine go_iald C dX3_latest_84 (xa_7 q cI σ) b6 (n := 85) rfl ?_
    cases hm
    exact go_iret C dX3_latest_85
  have hm := bx_n c5 hm
  by_cases c7 : v1 = (5 : Int32)
  · have hm := bx_p c7 hm
    refine go_tableIn C 86 dX3_latest_1 (off := 85) (by rw [c7]; decide) (by rw [c7]; decide) (by rw [c7]; decide) (by decide) ?_
    refine go_aload_n C dX3_latest_86 rfl 0 rfl (n := 87) rfl ?_
    refine go_get C dX3_latest_87 (xf3_4 q cI σ) rfl inX3 (by decide) fl_X3_32 (n := 90) rfl ?_
    refine go_get C dX3_latest_90 (xf0_1 q cI σ) rfl inX0 (by decide) fl_X3_167 (n := 93) rfl ?_
    refine go_iconst C dX3_latest_93 (v := (1 : Int32)) (by decide) (n := 94) rfl ?_
    obtain ⟨b8, hm⟩ := bx_g hm
    refine go_iald C dX3_latest_94 (xa_7 q cI σ) b8 (n := 95) rfl ?_
    cases hm
    exact go_iret C dX3_latest_95
  have hm := bx_n c7 hm
  by_cases c9 : v1 = (6 : Int32)
  · have hm := bx_p c9 hm
    refine go_tableIn C 96 dX3_latest_1 (off := 95) (by rw [c9]; decide) (by rw [c9]; decide) (by rw [c9]; decide) (by decide) ?_
    refine go_aload_n C dX3_latest_96 rfl 0 rfl (n := 97) rfl ?_
    refine go_get C dX3_latest_97 (xf3_4 q cI σ) rfl inX3 (by decide) fl_X3_32 (n := 100) rfl ?_
    refine go_get C dX3_latest_100 (xf0_1 q cI σ) rfl inX0 (by decide) fl_X3_167 (n := 103) rfl ?_
    refine go_iconst C dX3_latest_103 (v := (2 : Int32)) (by decide) (n := 104) rfl ?_
    obtain ⟨b10, hm⟩ := bx_g hm
    refine go_iald C dX3_latest_104 (xa_7 q cI σ) b10 (n := 105) rfl ?_
    cases hm
    exact go_iret C dX3_latest_105
  have hm := bx_n c9 hm
  have nc1 := bx_ne (n := 0) (0 : Int32) (by decide) c1
  have nc2 := bx_ne (n := 1) (1 : Int32) (by decide) c2
  have nc3 := bx_ne (n := 2) (2 : Int32) (by decide) c3
  have nc4 := bx_ne (n := 3) (3 : Int32) (by decide) c4
  have nc5 := bx_ne (n := 4) (4 : Int32) (by decide) c5
  have nc7 := bx_ne (n := 5) (5 : Int32) (by decide) c7
  have nc9 := bx_ne (n := 6) (6 : Int32) (by decide) c9
  refine go_tableOut C 106 dX3_latest_1 (by omega) (by decide) ?_
  refine go_sipush C dX3_latest_106 (v := (-10003 : Int32)) (by decide) (n := 109) rfl ?_
  cases hm
  exact go_iret C dX3_latest_109
def mX3_withLatest_56 : Nat → Int64 → Int32 → bx_St → Option Int64
  | 0, _, _, _ => none
  | n + 1, w3, v6, σ => (if (6 : Int32) < v6 then (some w3) else (Option.bind (mX3_latest v6 σ) fun u2 => (mX3_withLatest_56 n (mX3_with w3 u2.toInt64) (v6 + 1) σ)))
set_option maxRecDepth 8000 in
set_option maxHeartbeats 4000000 in
theorem mX3_withLatest_56_ok (C : bx_Cx p s m args meth c 7 A D cI cZ RX3 cX3_withLatest (some .long)) : ∀ (n : Nat) (w3 : Int64) (v6 : Int32) (σ : bx_St) (u : Int64), mX3_withLatest_56 n w3 v6 σ = some u → bx_Go p l e (bx_rm 3) s m args below meth c 7 A D (MQ below (bx_Q (some (.long u)) (bx_xw q cI σ) D A) args s 0 0 A) (bx_xw q cI σ) 56 [(0, .ref (q 0)), (3, .long w3), (6, .int v6)] [] := by
  intro n
  induction n with
  | zero =>
    intro w3 v6 σ u hm
    cases hm
  | succ n ih =>
    intro w3 v6 σ u hm
    rw [mX3_withLatest_56] at hm
    refine go_iload C dX3_withLatest_56 2 rfl (n := 58) rfl ?_
    refine go_bipush C dX3_withLatest_58 (v := (6 : Int32)) (by decide) (n := 60) rfl ?_
    refine go_icmp_gt C 81 dX3_withLatest_60 (by decide) (n := 63) rfl (fun c1 => ?_) (fun c1 => ?_)
    · have hm := bx_p c1 hm
      refine go_lload_n C dX3_withLatest_81 rfl 1 rfl (n := 82) rfl ?_
      cases hm
      exact go_lret C dX3_withLatest_82
    · have hm := bx_n c1 hm
      refine go_lload_n C dX3_withLatest_63 rfl 1 rfl (n := 64) rfl ?_
      refine go_aload_n C dX3_withLatest_64 rfl 0 rfl (n := 65) rfl ?_
      refine go_iload C dX3_withLatest_65 2 rfl (n := 67) rfl ?_
      obtain ⟨u2, e3, hm⟩ := bx_b hm
      refine go_callVi C dX3_withLatest_67 mw_X3_latest ml_X3_257 (rest := [.long w3]) (ktX3_latest e3) (xo3 q cI σ) rfl (by decide) rfl rfl (Nat.le_of_ble_eq_true rfl) (n := 70) rfl ?_
      refine go_i2l C dX3_withLatest_70 (n := 71) rfl ?_
      refine go_callSl C dX3_withLatest_71 mw_X3_with ml_X3_233 (rest := []) (ktX3_with rfl) (by decide) rfl rfl (Nat.le_of_ble_eq_true rfl) (n := 74) rfl ?_
      refine go_lstore_n C dX3_withLatest_74 rfl (by decide) (lv' := [(3, .long (mX3_with w3 u2.toInt64)), (0, .ref (q 0)), (6, .int v6)]) rfl (n := 75) rfl ?_
      refine go_iinc C (j := 2) dX3_withLatest_75 rfl (v := (v6 + 1)) rfl (by decide) (lv' := [(6, .int (v6 + 1)), (3, .long (mX3_with w3 u2.toInt64)), (0, .ref (q 0))]) rfl (n := 78) rfl ?_
      refine go_goto C 56 dX3_withLatest_78 (by decide) ?_
      refine go_lv (lv' := [(0, .ref (q 0)), (3, .long (mX3_with w3 u2.toInt64)), (6, .int (v6 + 1))]) [2, 1, 0] rfl ?_
      exact ih _ _ _ _ hm
def mX3_withLatest_14 : Nat → Int64 → Int32 → Int32 → bx_St → Option Int64
  | 0, _, _, _, _ => none
  | n + 1, w3, v5, v6, σ => (if v5 ≤ v6 then (mX3_withLatest_56 bx_F w3 (0 : Int32) σ) else (Option.bind (mX3_event v6 (0 : Int32) σ) fun u2 => (Option.bind (mX3_event v6 (1 : Int32) σ) fun u4 => (mX3_withLatest_14 n (mX3_with (mX3_with w3 u2.toInt64) u4.toInt64) v5 (v6 + 1) σ))))
set_option maxRecDepth 8000 in
set_option maxHeartbeats 4000000 in
theorem mX3_withLatest_14_ok (C : bx_Cx p s m args meth c 7 A D cI cZ RX3 cX3_withLatest (some .long)) : ∀ (n : Nat) (w3 : Int64) (v5 : Int32) (v6 : Int32) (σ : bx_St) (u : Int64), mX3_withLatest_14 n w3 v5 v6 σ = some u → bx_Go p l e (bx_rm 3) s m args below meth c 7 A D (MQ below (bx_Q (some (.long u)) (bx_xw q cI σ) D A) args s 0 0 A) (bx_xw q cI σ) 14 [(0, .ref (q 0)), (3, .long w3), (5, .int v5), (6, .int v6)] [] := by
  intro n
  induction n with
  | zero =>
    intro w3 v5 v6 σ u hm
    cases hm
  | succ n ih =>
    intro w3 v5 v6 σ u hm
    rw [mX3_withLatest_14] at hm
    refine go_iload C dX3_withLatest_14 3 rfl (n := 16) rfl ?_
    refine go_iload C dX3_withLatest_16 2 rfl (n := 18) rfl ?_
    refine go_icmp_ge C 53 dX3_withLatest_18 (by decide) (n := 21) rfl (fun c1 => ?_) (fun c1 => ?_)
    · have hm := bx_p c1 hm
      refine go_iconst C dX3_withLatest_53 (v := (0 : Int32)) (by decide) (n := 54) rfl ?_
      refine go_istore C dX3_withLatest_54 (by decide) (lv' := [(6, .int (0 : Int32)), (0, .ref (q 0)), (3, .long w3), (5, .int v5)]) rfl (n := 56) rfl ?_
      refine go_lv (lv' := [(0, .ref (q 0)), (3, .long w3), (6, .int (0 : Int32))]) [1, 2, 0] rfl ?_
      exact mX3_withLatest_56_ok C _ _ _ _ _ hm
    · have hm := bx_n c1 hm
      refine go_lload_n C dX3_withLatest_21 rfl 1 rfl (n := 22) rfl ?_
      refine go_aload_n C dX3_withLatest_22 rfl 0 rfl (n := 23) rfl ?_
      refine go_iload C dX3_withLatest_23 3 rfl (n := 25) rfl ?_
      refine go_iconst C dX3_withLatest_25 (v := (0 : Int32)) (by decide) (n := 26) rfl ?_
      obtain ⟨u2, e3, hm⟩ := bx_b hm
      refine go_callVi C dX3_withLatest_26 mw_X3_event ml_X3_254 (rest := [.long w3]) (ktX3_event e3) (xo3 q cI σ) rfl (by decide) rfl rfl (Nat.le_of_ble_eq_true rfl) (n := 29) rfl ?_
      refine go_i2l C dX3_withLatest_29 (n := 30) rfl ?_
      refine go_callSl C dX3_withLatest_30 mw_X3_with ml_X3_233 (rest := []) (ktX3_with rfl) (by decide) rfl rfl (Nat.le_of_ble_eq_true rfl) (n := 33) rfl ?_
      refine go_lstore_n C dX3_withLatest_33 rfl (by decide) (lv' := [(3, .long (mX3_with w3 u2.toInt64)), (0, .ref (q 0)), (5, .int v5), (6, .int v6)]) rfl (n := 34) rfl ?_
      refine go_lload_n C dX3_withLatest_34 rfl 0 rfl (n := 35) rfl ?_
      refine go_aload_n C dX3_withLatest_35 rfl 1 rfl (n := 36) rfl ?_
      refine go_iload C dX3_withLatest_36 3 rfl (n := 38) rfl ?_
      refine go_iconst C dX3_withLatest_38 (v := (1 : Int32)) (by decide) (n := 39) rfl ?_
      obtain ⟨u4, e5, hm⟩ := bx_b hm
      refine go_callVi C dX3_withLatest_39 mw_X3_event ml_X3_254 (rest := [.long (mX3_with w3 u2.toInt64)]) (ktX3_event e5) (xo3 q cI σ) rfl (by decide) rfl rfl (Nat.le_of_ble_eq_true rfl) (n := 42) rfl ?_
      refine go_i2l C dX3_withLatest_42 (n := 43) rfl ?_
      refine go_callSl C dX3_withLatest_43 mw_X3_with ml_X3_233 (rest := []) (ktX3_with rfl) (by decide) rfl rfl (Nat.le_of_ble_eq_true rfl) (n := 46) rfl ?_
      refine go_lstore_n C dX3_withLatest_46 rfl (by decide) (lv' := [(3, .long (mX3_with (mX3_with w3 u2.toInt64) u4.toInt64)), (0, .ref (q 0)), (5, .int v5), (6, .int v6)]) rfl (n := 47) rfl ?_
      refine go_iinc C (j := 3) dX3_withLatest_47 rfl (v := (v6 + 1)) rfl (by decide) (lv' := [(6, .int (v6 + 1)), (3, .long (mX3_with (mX3_with w3 u2.toInt64) u4.toInt64)), (0, .ref (q 0)), (5, .int v5)]) rfl (n := 50) rfl ?_
      refine go_goto C 14 dX3_withLatest_50 (by decide) ?_
      refine go_lv (lv' := [(0, .ref (q 0)), (3, .long (mX3_with (mX3_with w3 u2.toInt64) u4.toInt64)), (5, .int v5), (6, .int (v6 + 1))]) [2, 1, 3, 0] rfl ?_
      exact ih _ _ _ _ _ hm
def mX3_withLatest (w1 : Int64) (σ : bx_St) : Option Int64 := (mX3_withLatest_14 bx_F w1 (mX0_eventCount σ) (0 : Int32) σ)
set_option maxRecDepth 8000 in
set_option maxHeartbeats 4000000 in
theorem ktX3_withLatest {l : Launch} {D : va_G} {cI cZ : ClassId} {q : Nat → Nat} {w1 : Int64} {σ : bx_St} {u : Int64} (hm : mX3_withLatest w1 σ = some u) : bx_Mt l D cI cZ yX3_withLatest cX3_withLatest 7 (some .long) 3 [.ref (q 0), .long w1] (bx_xw q cI σ) (some (.long u)) (bx_xw q cI σ) := by
  refine bx_mk (by decide) (Nat.le_of_ble_eq_true rfl) (lv := [(0, .ref (q 0)), (1, .long w1)]) rfl (fun p e s m args below meth c A C => ?_)
  replace C : bx_Cx p s m args meth c 7 A D cI cZ RX3 cX3_withLatest (some .long) := C
  unfold mX3_withLatest at hm
  refine go_lload_n C dX3_withLatest_0 rfl 1 rfl (n := 1) rfl ?_
  refine go_lstore_n C dX3_withLatest_1 rfl (by decide) (lv' := [(3, .long w1), (0, .ref (q 0)), (1, .long w1)]) rfl (n := 2) rfl ?_
  refine go_aload_n C dX3_withLatest_2 rfl 1 rfl (n := 3) rfl ?_
  refine go_get C dX3_withLatest_3 (xf3_4 q cI σ) rfl inX3 (by decide) fl_X3_32 (n := 6) rfl ?_
  refine go_callVi C dX3_withLatest_6 mw_X0_eventCount ml_X3_149 (rest := []) (ktX0_eventCount rfl) (xo0 q cI σ) rfl (by decide) rfl rfl (Nat.le_of_ble_eq_true rfl) (n := 9) rfl ?_
  refine go_istore C dX3_withLatest_9 (by decide) (lv' := [(5, .int (mX0_eventCount σ)), (3, .long w1), (0, .ref (q 0)), (1, .long w1)]) rfl (n := 11) rfl ?_
  refine go_iconst C dX3_withLatest_11 (v := (0 : Int32)) (by decide) (n := 12) rfl ?_
  refine go_istore C dX3_withLatest_12 (by decide) (lv' := [(6, .int (0 : Int32)), (5, .int (mX0_eventCount σ)), (3, .long w1), (0, .ref (q 0)), (1, .long w1)]) rfl (n := 14) rfl ?_
  refine go_lv (lv' := [(0, .ref (q 0)), (3, .long w1), (5, .int (mX0_eventCount σ)), (6, .int (0 : Int32))]) [3, 2, 1, 0] rfl ?_
  exact mX3_withLatest_14_ok C _ _ _ _ _ _ hm
def mX3_withPairs_53 (K5 : Int64 → Int32 → bx_St → Option Int64) (K18 : Int64 → Int32 → Int32 → bx_St → Option Int64) (w3 : Int64) (v5 : Int32) (v6 : Int32) (σ : bx_St) : Option Int64 := (K18 w3 v5 (v6 + 1) σ)
set_option maxRecDepth 8000 in
set_option maxHeartbeats 4000000 in
theorem mX3_withPairs_53_ok (C : bx_Cx p s m args meth c 7 A D cI cZ RX3 cX3_withPairs (some .long)) (K5 : Int64 → Int32 → bx_St → Option Int64) (HK5 : ∀ (w3 : Int64) (v5 : Int32) (σ : bx_St) (u : Int64), K5 w3 v5 σ = some u → bx_Go p l e (bx_rm 3) s m args below meth c 7 A D (MQ below (bx_Q (some (.long u)) (bx_xw q cI σ) D A) args s 0 0 A) (bx_xw q cI σ) 5 [(0, .ref (q 0)), (3, .long w3), (5, .int v5)] []) (K18 : Int64 → Int32 → Int32 → bx_St → Option Int64) (HK18 : ∀ (w3 : Int64) (v5 : Int32) (v6 : Int32) (σ : bx_St) (u : Int64), K18 w3 v5 v6 σ = some u → bx_Go p l e (bx_rm 3) s m args below meth c 7 A D (MQ below (bx_Q (some (.long u)) (bx_xw q cI σ) D A) args s 0 0 A) (bx_xw q cI σ) 18 [(0, .ref (q 0)), (3, .long w3), (5, .int v5), (6, .int v6)] []) : ∀ (w3 : Int64) (v5 : Int32) (v6 : Int32) (σ : bx_St) (u : Int64), mX3_withPairs_53 K5 K18 w3 v5 v6 σ = some u → bx_Go p l e (bx_rm 3) s m args below meth c 7 A D (MQ below (bx_Q (some (.long u)) (bx_xw q cI σ) D A) args s 0 0 A) (bx_xw q cI σ) 53 [(0, .ref (q 0)), (3, .long w3), (5, .int v5), (6, .int v6)] [] := by
  intro w3 v5 v6 σ u hm
  unfold mX3_withPairs_53 at hm
  refine go_iinc C (j := 3) dX3_withPairs_53 rfl (v := (v6 + 1)) rfl (by decide) (lv' := [(6, .int (v6 + 1)), (0, .ref (q 0)), (3, .long w3), (5, .int v5)]) rfl (n := 56) rfl ?_
  refine go_goto C 18 dX3_withPairs_56 (by decide) ?_
  refine go_lv (lv' := [(0, .ref (q 0)), (3, .long w3), (5, .int v5), (6, .int (v6 + 1))]) [1, 2, 3, 0] rfl ?_
  exact HK18 _ _ _ _ _ hm
def mX3_withPairs_18 (K5 : Int64 → Int32 → bx_St → Option Int64) : Nat → Int64 → Int32 → Int32 → bx_St → Option Int64
  | 0, _, _, _, _ => none
  | n + 1, w3, v5, v6, σ => (if (12 : Int32) ≤ v6 then (K5 w3 (v5 + 1) σ) else (if bx_ok v5 12 then (if (mX3_holds (σ.1 1 v5.toNatClampNeg) v6) = 0 then (mX3_withPairs_53 K5 (mX3_withPairs_18 K5 n) w3 v5 v6 σ) else (mX3_withPairs_53 K5 (mX3_withPairs_18 K5 n) (mX3_with w3 (mX3_pairCode v5 v6).toInt64) v5 v6 σ)) else none))
set_option maxRecDepth 8000 in
set_option maxHeartbeats 4000000 in
theorem mX3_withPairs_18_ok (C : bx_Cx p s m args meth c 7 A D cI cZ RX3 cX3_withPairs (some .long)) (K5 : Int64 → Int32 → bx_St → Option Int64) (HK5 : ∀ (w3 : Int64) (v5 : Int32) (σ : bx_St) (u : Int64), K5 w3 v5 σ = some u → bx_Go p l e (bx_rm 3) s m args below meth c 7 A D (MQ below (bx_Q (some (.long u)) (bx_xw q cI σ) D A) args s 0 0 A) (bx_xw q cI σ) 5 [(0, .ref (q 0)), (3, .long w3), (5, .int v5)] []) : ∀ (n : Nat) (w3 : Int64) (v5 : Int32) (v6 : Int32) (σ : bx_St) (u : Int64), mX3_withPairs_18 K5 n w3 v5 v6 σ = some u → bx_Go p l e (bx_rm 3) s m args below meth c 7 A D (MQ below (bx_Q (some (.long u)) (bx_xw q cI σ) D A) args s 0 0 A) (bx_xw q cI σ) 18 [(0, .ref (q 0)), (3, .long w3), (5, .int v5), (6, .int v6)] [] := by
  intro n
  induction n with
  | zero =>
    intro w3 v5 v6 σ u hm
    cases hm
  | succ n ih =>
    intro w3 v5 v6 σ u hm
    rw [mX3_withPairs_18] at hm
    refine go_iload C dX3_withPairs_18 3 rfl (n := 20) rfl ?_
    refine go_bipush C dX3_withPairs_20 (v := (12 : Int32)) (by decide) (n := 22) rfl ?_
    refine go_icmp_ge C 59 dX3_withPairs_22 (by decide) (n := 25) rfl (fun c1 => ?_) (fun c1 => ?_)
    · have hm := bx_p c1 hm
      refine go_iinc C (j := 2) dX3_withPairs_59 rfl (v := (v5 + 1)) rfl (by decide) (lv' := [(5, .int (v5 + 1)), (0, .ref (q 0)), (3, .long w3), (6, .int v6)]) rfl (n := 62) rfl ?_
      refine go_goto C 5 dX3_withPairs_62 (by decide) ?_
      refine go_lv (lv' := [(0, .ref (q 0)), (3, .long w3), (5, .int (v5 + 1))]) [1, 2, 0] rfl ?_
      exact HK5 _ _ _ _ hm
    · have hm := bx_n c1 hm
      refine go_aload_n C dX3_withPairs_25 rfl 0 rfl (n := 26) rfl ?_
      refine go_get C dX3_withPairs_26 (xf3_5 q cI σ) rfl inX3 (by decide) fl_X3_36 (n := 29) rfl ?_
      refine go_iload C dX3_withPairs_29 2 rfl (n := 31) rfl ?_
      obtain ⟨b2, hm⟩ := bx_g hm
      refine go_iald C dX3_withPairs_31 (xa_1 q cI σ) b2 (n := 32) rfl ?_
      refine go_iload C dX3_withPairs_32 3 rfl (n := 34) rfl ?_
      refine go_callSi C dX3_withPairs_34 mw_X3_holds ml_X3_142 (rest := []) (ktX3_holds rfl) (by decide) rfl rfl (Nat.le_of_ble_eq_true rfl) (n := 37) rfl ?_
      refine go_if_eq C 53 dX3_withPairs_37 (by decide) (n := 40) rfl (fun c3 => ?_) (fun c3 => ?_)
      · have hm := bx_p c3 hm
        refine go_lv (lv' := [(0, .ref (q 0)), (3, .long w3), (5, .int v5), (6, .int v6)]) [0, 1, 2, 3] rfl ?_
        exact mX3_withPairs_53_ok C _ HK5 _ ih _ _ _ _ _ hm
      · have hm := bx_n c3 hm
        refine go_lload_n C dX3_withPairs_40 rfl 1 rfl (n := 41) rfl ?_
        refine go_iload C dX3_withPairs_41 2 rfl (n := 43) rfl ?_
        refine go_iload C dX3_withPairs_43 3 rfl (n := 45) rfl ?_
        refine go_callSi C dX3_withPairs_45 mw_X3_pairCode ml_X3_145 (rest := [.long w3]) (ktX3_pairCode rfl) (by decide) rfl rfl (Nat.le_of_ble_eq_true rfl) (n := 48) rfl ?_
        refine go_i2l C dX3_withPairs_48 (n := 49) rfl ?_
        refine go_callSl C dX3_withPairs_49 mw_X3_with ml_X3_233 (rest := []) (ktX3_with rfl) (by decide) rfl rfl (Nat.le_of_ble_eq_true rfl) (n := 52) rfl ?_
        refine go_lstore_n C dX3_withPairs_52 rfl (by decide) (lv' := [(3, .long (mX3_with w3 (mX3_pairCode v5 v6).toInt64)), (0, .ref (q 0)), (5, .int v5), (6, .int v6)]) rfl (n := 53) rfl ?_
        refine go_lv (lv' := [(0, .ref (q 0)), (3, .long (mX3_with w3 (mX3_pairCode v5 v6).toInt64)), (5, .int v5), (6, .int v6)]) [1, 0, 2, 3] rfl ?_
        exact mX3_withPairs_53_ok C _ HK5 _ ih _ _ _ _ _ hm
def mX3_withPairs_5 : Nat → Int64 → Int32 → bx_St → Option Int64
  | 0, _, _, _ => none
  | n + 1, w3, v5, σ => (if (12 : Int32) ≤ v5 then (some w3) else (mX3_withPairs_18 (mX3_withPairs_5 n) bx_F w3 v5 (v5 + (1 : Int32)) σ))
set_option maxRecDepth 8000 in
set_option maxHeartbeats 4000000 in
theorem mX3_withPairs_5_ok (C : bx_Cx p s m args meth c 7 A D cI cZ RX3 cX3_withPairs (some .long)) : ∀ (n : Nat) (w3 : Int64) (v5 : Int32) (σ : bx_St) (u : Int64), mX3_withPairs_5 n w3 v5 σ = some u → bx_Go p l e (bx_rm 3) s m args below meth c 7 A D (MQ below (bx_Q (some (.long u)) (bx_xw q cI σ) D A) args s 0 0 A) (bx_xw q cI σ) 5 [(0, .ref (q 0)), (3, .long w3), (5, .int v5)] [] := by
  intro n
  induction n with
  | zero =>
    intro w3 v5 σ u hm
    cases hm
  | succ n ih =>
    intro w3 v5 σ u hm
    rw [mX3_withPairs_5] at hm
    refine go_iload C dX3_withPairs_5 2 rfl (n := 7) rfl ?_
    refine go_bipush C dX3_withPairs_7 (v := (12 : Int32)) (by decide) (n := 9) rfl ?_
    refine go_icmp_ge C 65 dX3_withPairs_9 (by decide) (n := 12) rfl (fun c1 => ?_) (fun c1 => ?_)
    · have hm := bx_p c1 hm
      refine go_lload_n C dX3_withPairs_65 rfl 1 rfl (n := 66) rfl ?_
      cases hm
      exact go_lret C dX3_withPairs_66
    · have hm := bx_n c1 hm
      refine go_iload C dX3_withPairs_12 2 rfl (n := 14) rfl ?_
      refine go_iconst C dX3_withPairs_14 (v := (1 : Int32)) (by decide) (n := 15) rfl ?_
      refine go_iadd C dX3_withPairs_15 (n := 16) rfl ?_
      refine go_istore C dX3_withPairs_16 (by decide) (lv' := [(6, .int (v5 + (1 : Int32))), (0, .ref (q 0)), (3, .long w3), (5, .int v5)]) rfl (n := 18) rfl ?_
      refine go_lv (lv' := [(0, .ref (q 0)), (3, .long w3), (5, .int v5), (6, .int (v5 + (1 : Int32)))]) [1, 2, 3, 0] rfl ?_
      exact mX3_withPairs_18_ok C _ ih _ _ _ _ _ _ hm
def mX3_withPairs (w1 : Int64) (σ : bx_St) : Option Int64 := (mX3_withPairs_5 bx_F w1 (0 : Int32) σ)
set_option maxRecDepth 8000 in
set_option maxHeartbeats 4000000 in
theorem ktX3_withPairs {l : Launch} {D : va_G} {cI cZ : ClassId} {q : Nat → Nat} {w1 : Int64} {σ : bx_St} {u : Int64} (hm : mX3_withPairs w1 σ = some u) : bx_Mt l D cI cZ yX3_withPairs cX3_withPairs 7 (some .long) 3 [.ref (q 0), .long w1] (bx_xw q cI σ) (some (.long u)) (bx_xw q cI σ) := by
  refine bx_mk (by decide) (Nat.le_of_ble_eq_true rfl) (lv := [(0, .ref (q 0)), (1, .long w1)]) rfl (fun p e s m args below meth c A C => ?_)
  replace C : bx_Cx p s m args meth c 7 A D cI cZ RX3 cX3_withPairs (some .long) := C
  unfold mX3_withPairs at hm
  refine go_lload_n C dX3_withPairs_0 rfl 1 rfl (n := 1) rfl ?_
  refine go_lstore_n C dX3_withPairs_1 rfl (by decide) (lv' := [(3, .long w1), (0, .ref (q 0)), (1, .long w1)]) rfl (n := 2) rfl ?_
  refine go_iconst C dX3_withPairs_2 (v := (0 : Int32)) (by decide) (n := 3) rfl ?_
  refine go_istore C dX3_withPairs_3 (by decide) (lv' := [(5, .int (0 : Int32)), (3, .long w1), (0, .ref (q 0)), (1, .long w1)]) rfl (n := 5) rfl ?_
  refine go_lv (lv' := [(0, .ref (q 0)), (3, .long w1), (5, .int (0 : Int32))]) [2, 1, 0] rfl ?_
  exact mX3_withPairs_5_ok C _ _ _ _ _ hm
def mX3_digest_125 : Nat → Int64 → Int32 → bx_St → Option Int64
  | 0, _, _, _ => none
  | n + 1, w1, v3, σ => (if (9 : Int32) < v3 then (some w1) else (Option.bind (mX3_count v3 σ) fun u2 => (mX3_digest_125 n (mX3_with w1 u2.toInt64) (v3 + 1) σ)))
set_option maxRecDepth 8000 in
set_option maxHeartbeats 4000000 in
theorem mX3_digest_125_ok (C : bx_Cx p s m args meth c 4 A D cI cZ RX3 cX3_digest (some .long)) : ∀ (n : Nat) (w1 : Int64) (v3 : Int32) (σ : bx_St) (u : Int64), mX3_digest_125 n w1 v3 σ = some u → bx_Go p l e (bx_rm 22) s m args below meth c 4 A D (MQ below (bx_Q (some (.long u)) (bx_xw q cI σ) D A) args s 0 0 A) (bx_xw q cI σ) 125 [(0, .ref (q 0)), (1, .long w1), (3, .int v3)] [] := by
  intro n
  induction n with
  | zero =>
    intro w1 v3 σ u hm
    cases hm
  | succ n ih =>
    intro w1 v3 σ u hm
    rw [mX3_digest_125] at hm
    refine go_iload_n C dX3_digest_125 rfl 2 rfl (n := 126) rfl ?_
    refine go_bipush C dX3_digest_126 (v := (9 : Int32)) (by decide) (n := 128) rfl ?_
    refine go_icmp_gt C 148 dX3_digest_128 (by decide) (n := 131) rfl (fun c1 => ?_) (fun c1 => ?_)
    · have hm := bx_p c1 hm
      refine go_lload_n C dX3_digest_148 rfl 1 rfl (n := 149) rfl ?_
      cases hm
      exact go_lret C dX3_digest_149
    · have hm := bx_n c1 hm
      refine go_lload_n C dX3_digest_131 rfl 1 rfl (n := 132) rfl ?_
      refine go_aload_n C dX3_digest_132 rfl 0 rfl (n := 133) rfl ?_
      refine go_iload_n C dX3_digest_133 rfl 2 rfl (n := 134) rfl ?_
      obtain ⟨u2, e3, hm⟩ := bx_b hm
      refine go_callVi C dX3_digest_134 mw_X3_count ml_X3_240 (rest := [.long w1]) (ktX3_count e3) (xo3 q cI σ) rfl (by decide) rfl rfl (Nat.le_of_ble_eq_true rfl) (n := 137) rfl ?_
      refine go_i2l C dX3_digest_137 (n := 138) rfl ?_
      refine go_callSl C dX3_digest_138 mw_X3_with ml_X3_233 (rest := []) (ktX3_with rfl) (by decide) rfl rfl (Nat.le_of_ble_eq_true rfl) (n := 141) rfl ?_
      refine go_lstore_n C dX3_digest_141 rfl (by decide) (lv' := [(1, .long (mX3_with w1 u2.toInt64)), (0, .ref (q 0)), (3, .int v3)]) rfl (n := 142) rfl ?_
      refine go_iinc C (j := 2) dX3_digest_142 rfl (v := (v3 + 1)) rfl (by decide) (lv' := [(3, .int (v3 + 1)), (1, .long (mX3_with w1 u2.toInt64)), (0, .ref (q 0))]) rfl (n := 145) rfl ?_
      refine go_goto C 125 dX3_digest_145 (by decide) ?_
      refine go_lv (lv' := [(0, .ref (q 0)), (1, .long (mX3_with w1 u2.toInt64)), (3, .int (v3 + 1))]) [2, 1, 0] rfl ?_
      exact ih _ _ _ _ hm
def mX3_digest_91 : Nat → Int64 → Int32 → bx_St → Option Int64
  | 0, _, _, _ => none
  | n + 1, w1, v3, σ => (if (σ.1 2 1) ≤ v3 then (mX3_digest_125 bx_F w1 (0 : Int32) σ) else (if bx_ok v3 60 then (mX3_digest_91 n (mX3_with w1 (σ.1 3 v3.toNatClampNeg).toInt64) (v3 + 1) σ) else none))
set_option maxRecDepth 8000 in
set_option maxHeartbeats 4000000 in
theorem mX3_digest_91_ok (C : bx_Cx p s m args meth c 4 A D cI cZ RX3 cX3_digest (some .long)) : ∀ (n : Nat) (w1 : Int64) (v3 : Int32) (σ : bx_St) (u : Int64), mX3_digest_91 n w1 v3 σ = some u → bx_Go p l e (bx_rm 22) s m args below meth c 4 A D (MQ below (bx_Q (some (.long u)) (bx_xw q cI σ) D A) args s 0 0 A) (bx_xw q cI σ) 91 [(0, .ref (q 0)), (1, .long w1), (3, .int v3)] [] := by
  intro n
  induction n with
  | zero =>
    intro w1 v3 σ u hm
    cases hm
  | succ n ih =>
    intro w1 v3 σ u hm
    rw [mX3_digest_91] at hm
    refine go_iload_n C dX3_digest_91 rfl 2 rfl (n := 92) rfl ?_
    refine go_aload_n C dX3_digest_92 rfl 0 rfl (n := 93) rfl ?_
    refine go_get C dX3_digest_93 (xf3_0 q cI σ) rfl inX3 (by decide) fl_X3_10 (n := 96) rfl ?_
    refine go_get C dX3_digest_96 (xf2_1 q cI σ) rfl inX2 (by decide) fl_X3_52 (n := 99) rfl ?_
    refine go_icmp_ge C 123 dX3_digest_99 (by decide) (n := 102) rfl (fun c1 => ?_) (fun c1 => ?_)
    · have hm := bx_p c1 hm
      refine go_iconst C dX3_digest_123 (v := (0 : Int32)) (by decide) (n := 124) rfl ?_
      refine go_istore_n C dX3_digest_124 rfl (by decide) (lv' := [(3, .int (0 : Int32)), (0, .ref (q 0)), (1, .long w1)]) rfl (n := 125) rfl ?_
      refine go_lv (lv' := [(0, .ref (q 0)), (1, .long w1), (3, .int (0 : Int32))]) [1, 2, 0] rfl ?_
      exact mX3_digest_125_ok C _ _ _ _ _ hm
    · have hm := bx_n c1 hm
      refine go_lload_n C dX3_digest_102 rfl 1 rfl (n := 103) rfl ?_
      refine go_aload_n C dX3_digest_103 rfl 0 rfl (n := 104) rfl ?_
      refine go_get C dX3_digest_104 (xf3_0 q cI σ) rfl inX3 (by decide) fl_X3_10 (n := 107) rfl ?_
      refine go_get C dX3_digest_107 (xf2_0 q cI σ) rfl inX2 (by decide) fl_X3_237 (n := 110) rfl ?_
      refine go_iload_n C dX3_digest_110 rfl 2 rfl (n := 111) rfl ?_
      obtain ⟨b2, hm⟩ := bx_g hm
      refine go_iald C dX3_digest_111 (xa_3 q cI σ) b2 (n := 112) rfl ?_
      refine go_i2l C dX3_digest_112 (n := 113) rfl ?_
      refine go_callSl C dX3_digest_113 mw_X3_with ml_X3_233 (rest := []) (ktX3_with rfl) (by decide) rfl rfl (Nat.le_of_ble_eq_true rfl) (n := 116) rfl ?_
      refine go_lstore_n C dX3_digest_116 rfl (by decide) (lv' := [(1, .long (mX3_with w1 (σ.1 3 v3.toNatClampNeg).toInt64)), (0, .ref (q 0)), (3, .int v3)]) rfl (n := 117) rfl ?_
      refine go_iinc C (j := 2) dX3_digest_117 rfl (v := (v3 + 1)) rfl (by decide) (lv' := [(3, .int (v3 + 1)), (1, .long (mX3_with w1 (σ.1 3 v3.toNatClampNeg).toInt64)), (0, .ref (q 0))]) rfl (n := 120) rfl ?_
      refine go_goto C 91 dX3_digest_120 (by decide) ?_
      refine go_lv (lv' := [(0, .ref (q 0)), (1, .long (mX3_with w1 (σ.1 3 v3.toNatClampNeg).toInt64)), (3, .int (v3 + 1))]) [2, 1, 0] rfl ?_
      exact ih _ _ _ _ hm
def mX3_digest_67 : Nat → Int64 → Int32 → bx_St → Option Int64
  | 0, _, _, _ => none
  | n + 1, w1, v3, σ => (if (3 : Int32) < v3 then (mX3_digest_91 bx_F w1 (0 : Int32) σ) else (Option.bind (mX3_heap v3 σ) fun u2 => (mX3_digest_67 n (mX3_with w1 u2.toInt64) (v3 + 1) σ)))
set_option maxRecDepth 8000 in
set_option maxHeartbeats 4000000 in
theorem mX3_digest_67_ok (C : bx_Cx p s m args meth c 4 A D cI cZ RX3 cX3_digest (some .long)) : ∀ (n : Nat) (w1 : Int64) (v3 : Int32) (σ : bx_St) (u : Int64), mX3_digest_67 n w1 v3 σ = some u → bx_Go p l e (bx_rm 22) s m args below meth c 4 A D (MQ below (bx_Q (some (.long u)) (bx_xw q cI σ) D A) args s 0 0 A) (bx_xw q cI σ) 67 [(0, .ref (q 0)), (1, .long w1), (3, .int v3)] [] := by
  intro n
  induction n with
  | zero =>
    intro w1 v3 σ u hm
    cases hm
  | succ n ih =>
    intro w1 v3 σ u hm
    rw [mX3_digest_67] at hm
    refine go_iload_n C dX3_digest_67 rfl 2 rfl (n := 68) rfl ?_
    refine go_iconst C dX3_digest_68 (v := (3 : Int32)) (by decide) (n := 69) rfl ?_
    refine go_icmp_gt C 89 dX3_digest_69 (by decide) (n := 72) rfl (fun c1 => ?_) (fun c1 => ?_)
    · have hm := bx_p c1 hm
      refine go_iconst C dX3_digest_89 (v := (0 : Int32)) (by decide) (n := 90) rfl ?_
      refine go_istore_n C dX3_digest_90 rfl (by decide) (lv' := [(3, .int (0 : Int32)), (0, .ref (q 0)), (1, .long w1)]) rfl (n := 91) rfl ?_
      refine go_lv (lv' := [(0, .ref (q 0)), (1, .long w1), (3, .int (0 : Int32))]) [1, 2, 0] rfl ?_
      exact mX3_digest_91_ok C _ _ _ _ _ hm
    · have hm := bx_n c1 hm
      refine go_lload_n C dX3_digest_72 rfl 1 rfl (n := 73) rfl ?_
      refine go_aload_n C dX3_digest_73 rfl 0 rfl (n := 74) rfl ?_
      refine go_iload_n C dX3_digest_74 rfl 2 rfl (n := 75) rfl ?_
      obtain ⟨u2, e3, hm⟩ := bx_b hm
      refine go_callVi C dX3_digest_75 mw_X3_heap ml_X3_230 (rest := [.long w1]) (ktX3_heap e3) (xo3 q cI σ) rfl (by decide) rfl rfl (Nat.le_of_ble_eq_true rfl) (n := 78) rfl ?_
      refine go_i2l C dX3_digest_78 (n := 79) rfl ?_
      refine go_callSl C dX3_digest_79 mw_X3_with ml_X3_233 (rest := []) (ktX3_with rfl) (by decide) rfl rfl (Nat.le_of_ble_eq_true rfl) (n := 82) rfl ?_
      refine go_lstore_n C dX3_digest_82 rfl (by decide) (lv' := [(1, .long (mX3_with w1 u2.toInt64)), (0, .ref (q 0)), (3, .int v3)]) rfl (n := 83) rfl ?_
      refine go_iinc C (j := 2) dX3_digest_83 rfl (v := (v3 + 1)) rfl (by decide) (lv' := [(3, .int (v3 + 1)), (1, .long (mX3_with w1 u2.toInt64)), (0, .ref (q 0))]) rfl (n := 86) rfl ?_
      refine go_goto C 67 dX3_digest_86 (by decide) ?_
      refine go_lv (lv' := [(0, .ref (q 0)), (1, .long (mX3_with w1 u2.toInt64)), (3, .int (v3 + 1))]) [2, 1, 0] rfl ?_
      exact ih _ _ _ _ hm
def mX3_digest_35 : Nat → Int64 → Int32 → bx_St → Option Int64
  | 0, _, _, _ => none
  | n + 1, w1, v3, σ => (if (3 : Int32) ≤ v3 then (Option.bind (mX3_withPairs w1 σ) fun u2 => (Option.bind (mX3_withLatest u2 σ) fun u4 => (mX3_digest_67 bx_F u4 (0 : Int32) σ))) else (Option.bind (mX3_withEnds w1 v3 σ) fun u6 => (mX3_digest_35 n u6 (v3 + 1) σ)))
set_option maxRecDepth 8000 in
set_option maxHeartbeats 4000000 in
theorem mX3_digest_35_ok (C : bx_Cx p s m args meth c 4 A D cI cZ RX3 cX3_digest (some .long)) : ∀ (n : Nat) (w1 : Int64) (v3 : Int32) (σ : bx_St) (u : Int64), mX3_digest_35 n w1 v3 σ = some u → bx_Go p l e (bx_rm 22) s m args below meth c 4 A D (MQ below (bx_Q (some (.long u)) (bx_xw q cI σ) D A) args s 0 0 A) (bx_xw q cI σ) 35 [(0, .ref (q 0)), (1, .long w1), (3, .int v3)] [] := by
  intro n
  induction n with
  | zero =>
    intro w1 v3 σ u hm
    cases hm
  | succ n ih =>
    intro w1 v3 σ u hm
    rw [mX3_digest_35] at hm
    refine go_iload_n C dX3_digest_35 rfl 2 rfl (n := 36) rfl ?_
    refine go_iconst C dX3_digest_36 (v := (3 : Int32)) (by decide) (n := 37) rfl ?_
    refine go_icmp_ge C 53 dX3_digest_37 (by decide) (n := 40) rfl (fun c1 => ?_) (fun c1 => ?_)
    · have hm := bx_p c1 hm
      refine go_aload_n C dX3_digest_53 rfl 0 rfl (n := 54) rfl ?_
      refine go_lload_n C dX3_digest_54 rfl 1 rfl (n := 55) rfl ?_
      obtain ⟨u2, e3, hm⟩ := bx_b hm
      refine go_callVl C dX3_digest_55 mw_X3_withPairs ml_X3_223 (rest := []) (ktX3_withPairs e3) (xo3 q cI σ) rfl (by decide) rfl rfl (Nat.le_of_ble_eq_true rfl) (n := 58) rfl ?_
      refine go_lstore_n C dX3_digest_58 rfl (by decide) (lv' := [(1, .long u2), (0, .ref (q 0)), (3, .int v3)]) rfl (n := 59) rfl ?_
      refine go_aload_n C dX3_digest_59 rfl 1 rfl (n := 60) rfl ?_
      refine go_lload_n C dX3_digest_60 rfl 0 rfl (n := 61) rfl ?_
      obtain ⟨u4, e5, hm⟩ := bx_b hm
      refine go_callVl C dX3_digest_61 mw_X3_withLatest ml_X3_227 (rest := []) (ktX3_withLatest e5) (xo3 q cI σ) rfl (by decide) rfl rfl (Nat.le_of_ble_eq_true rfl) (n := 64) rfl ?_
      refine go_lstore_n C dX3_digest_64 rfl (by decide) (lv' := [(1, .long u4), (0, .ref (q 0)), (3, .int v3)]) rfl (n := 65) rfl ?_
      refine go_iconst C dX3_digest_65 (v := (0 : Int32)) (by decide) (n := 66) rfl ?_
      refine go_istore_n C dX3_digest_66 rfl (by decide) (lv' := [(3, .int (0 : Int32)), (1, .long u4), (0, .ref (q 0))]) rfl (n := 67) rfl ?_
      refine go_lv (lv' := [(0, .ref (q 0)), (1, .long u4), (3, .int (0 : Int32))]) [2, 1, 0] rfl ?_
      exact mX3_digest_67_ok C _ _ _ _ _ hm
    · have hm := bx_n c1 hm
      refine go_aload_n C dX3_digest_40 rfl 0 rfl (n := 41) rfl ?_
      refine go_lload_n C dX3_digest_41 rfl 1 rfl (n := 42) rfl ?_
      refine go_iload_n C dX3_digest_42 rfl 2 rfl (n := 43) rfl ?_
      obtain ⟨u6, e7, hm⟩ := bx_b hm
      refine go_callVl C dX3_digest_43 mw_X3_withEnds ml_X3_220 (rest := []) (ktX3_withEnds e7) (xo3 q cI σ) rfl (by decide) rfl rfl (Nat.le_of_ble_eq_true rfl) (n := 46) rfl ?_
      refine go_lstore_n C dX3_digest_46 rfl (by decide) (lv' := [(1, .long u6), (0, .ref (q 0)), (3, .int v3)]) rfl (n := 47) rfl ?_
      refine go_iinc C (j := 2) dX3_digest_47 rfl (v := (v3 + 1)) rfl (by decide) (lv' := [(3, .int (v3 + 1)), (1, .long u6), (0, .ref (q 0))]) rfl (n := 50) rfl ?_
      refine go_goto C 35 dX3_digest_50 (by decide) ?_
      refine go_lv (lv' := [(0, .ref (q 0)), (1, .long u6), (3, .int (v3 + 1))]) [2, 1, 0] rfl ?_
      exact ih _ _ _ _ hm
def mX3_digest_27 (K6 : Int64 → Int32 → bx_St → Option Int64) (w1 : Int64) (v3 : Int32) (σ : bx_St) : Option Int64 := (K6 w1 (v3 + 1) σ)
set_option maxRecDepth 8000 in
set_option maxHeartbeats 4000000 in
theorem mX3_digest_27_ok (C : bx_Cx p s m args meth c 4 A D cI cZ RX3 cX3_digest (some .long)) (K6 : Int64 → Int32 → bx_St → Option Int64) (HK6 : ∀ (w1 : Int64) (v3 : Int32) (σ : bx_St) (u : Int64), K6 w1 v3 σ = some u → bx_Go p l e (bx_rm 22) s m args below meth c 4 A D (MQ below (bx_Q (some (.long u)) (bx_xw q cI σ) D A) args s 0 0 A) (bx_xw q cI σ) 6 [(0, .ref (q 0)), (1, .long w1), (3, .int v3)] []) : ∀ (w1 : Int64) (v3 : Int32) (σ : bx_St) (u : Int64), mX3_digest_27 K6 w1 v3 σ = some u → bx_Go p l e (bx_rm 22) s m args below meth c 4 A D (MQ below (bx_Q (some (.long u)) (bx_xw q cI σ) D A) args s 0 0 A) (bx_xw q cI σ) 27 [(0, .ref (q 0)), (1, .long w1), (3, .int v3)] [] := by
  intro w1 v3 σ u hm
  unfold mX3_digest_27 at hm
  refine go_iinc C (j := 2) dX3_digest_27 rfl (v := (v3 + 1)) rfl (by decide) (lv' := [(3, .int (v3 + 1)), (0, .ref (q 0)), (1, .long w1)]) rfl (n := 30) rfl ?_
  refine go_goto C 6 dX3_digest_30 (by decide) ?_
  refine go_lv (lv' := [(0, .ref (q 0)), (1, .long w1), (3, .int (v3 + 1))]) [1, 2, 0] rfl ?_
  exact HK6 _ _ _ _ hm
def mX3_digest_6 : Nat → Int64 → Int32 → bx_St → Option Int64
  | 0, _, _, _ => none
  | n + 1, w1, v3, σ => (if (12 : Int32) ≤ v3 then (mX3_digest_35 bx_F w1 (0 : Int32) σ) else (if (mX3_isThere v3 σ) = 0 then (mX3_digest_27 (mX3_digest_6 n) w1 v3 σ) else (Option.bind (mX3_withBox w1 v3 σ) fun u3 => (mX3_digest_27 (mX3_digest_6 n) u3 v3 σ))))
set_option maxRecDepth 8000 in
set_option maxHeartbeats 4000000 in
theorem mX3_digest_6_ok (C : bx_Cx p s m args meth c 4 A D cI cZ RX3 cX3_digest (some .long)) : ∀ (n : Nat) (w1 : Int64) (v3 : Int32) (σ : bx_St) (u : Int64), mX3_digest_6 n w1 v3 σ = some u → bx_Go p l e (bx_rm 22) s m args below meth c 4 A D (MQ below (bx_Q (some (.long u)) (bx_xw q cI σ) D A) args s 0 0 A) (bx_xw q cI σ) 6 [(0, .ref (q 0)), (1, .long w1), (3, .int v3)] [] := by
  intro n
  induction n with
  | zero =>
    intro w1 v3 σ u hm
    cases hm
  | succ n ih =>
    intro w1 v3 σ u hm
    rw [mX3_digest_6] at hm
    refine go_iload_n C dX3_digest_6 rfl 2 rfl (n := 7) rfl ?_
    refine go_bipush C dX3_digest_7 (v := (12 : Int32)) (by decide) (n := 9) rfl ?_
    refine go_icmp_ge C 33 dX3_digest_9 (by decide) (n := 12) rfl (fun c1 => ?_) (fun c1 => ?_)
    · have hm := bx_p c1 hm
      refine go_iconst C dX3_digest_33 (v := (0 : Int32)) (by decide) (n := 34) rfl ?_
      refine go_istore_n C dX3_digest_34 rfl (by decide) (lv' := [(3, .int (0 : Int32)), (0, .ref (q 0)), (1, .long w1)]) rfl (n := 35) rfl ?_
      refine go_lv (lv' := [(0, .ref (q 0)), (1, .long w1), (3, .int (0 : Int32))]) [1, 2, 0] rfl ?_
      exact mX3_digest_35_ok C _ _ _ _ _ hm
    · have hm := bx_n c1 hm
      refine go_aload_n C dX3_digest_12 rfl 0 rfl (n := 13) rfl ?_
      refine go_iload_n C dX3_digest_13 rfl 2 rfl (n := 14) rfl ?_
      refine go_callVi C dX3_digest_14 mw_X3_isThere ml_X3_78 (rest := []) (ktX3_isThere rfl) (xo3 q cI σ) rfl (by decide) rfl rfl (Nat.le_of_ble_eq_true rfl) (n := 17) rfl ?_
      refine go_if_eq C 27 dX3_digest_17 (by decide) (n := 20) rfl (fun c2 => ?_) (fun c2 => ?_)
      · have hm := bx_p c2 hm
        refine go_lv (lv' := [(0, .ref (q 0)), (1, .long w1), (3, .int v3)]) [0, 1, 2] rfl ?_
        exact mX3_digest_27_ok C _ ih _ _ _ _ hm
      · have hm := bx_n c2 hm
        refine go_aload_n C dX3_digest_20 rfl 0 rfl (n := 21) rfl ?_
        refine go_lload_n C dX3_digest_21 rfl 1 rfl (n := 22) rfl ?_
        refine go_iload_n C dX3_digest_22 rfl 2 rfl (n := 23) rfl ?_
        obtain ⟨u3, e4, hm⟩ := bx_b hm
        refine go_callVl C dX3_digest_23 mw_X3_withBox ml_X3_216 (rest := []) (ktX3_withBox e4) (xo3 q cI σ) rfl (by decide) rfl rfl (Nat.le_of_ble_eq_true rfl) (n := 26) rfl ?_
        refine go_lstore_n C dX3_digest_26 rfl (by decide) (lv' := [(1, .long u3), (0, .ref (q 0)), (3, .int v3)]) rfl (n := 27) rfl ?_
        refine go_lv (lv' := [(0, .ref (q 0)), (1, .long u3), (3, .int v3)]) [1, 0, 2] rfl ?_
        exact mX3_digest_27_ok C _ ih _ _ _ _ hm
def mX3_digest (σ : bx_St) : Option Int64 := (mX3_digest_6 bx_F (1657 : Int64) (0 : Int32) σ)
set_option maxRecDepth 8000 in
set_option maxHeartbeats 4000000 in
theorem ktX3_digest {l : Launch} {D : va_G} {cI cZ : ClassId} {q : Nat → Nat} {σ : bx_St} {u : Int64} (hm : mX3_digest σ = some u) : bx_Mt l D cI cZ yX3_digest cX3_digest 4 (some .long) 22 [.ref (q 0)] (bx_xw q cI σ) (some (.long u)) (bx_xw q cI σ) := by
  refine bx_mk (by decide) (Nat.le_of_ble_eq_true rfl) (lv := [(0, .ref (q 0))]) rfl (fun p e s m args below meth c A C => ?_)
  replace C : bx_Cx p s m args meth c 4 A D cI cZ RX3 cX3_digest (some .long) := C
  unfold mX3_digest at hm
  refine go_ldc2 C dX3_digest_0 (v := (1657 : Int64)) kc_X3_214 (n := 3) rfl ?_
  refine go_lstore_n C dX3_digest_3 rfl (by decide) (lv' := [(1, .long (1657 : Int64)), (0, .ref (q 0))]) rfl (n := 4) rfl ?_
  refine go_iconst C dX3_digest_4 (v := (0 : Int32)) (by decide) (n := 5) rfl ?_
  refine go_istore_n C dX3_digest_5 rfl (by decide) (lv' := [(3, .int (0 : Int32)), (1, .long (1657 : Int64)), (0, .ref (q 0))]) rfl (n := 6) rfl ?_
  refine go_lv (lv' := [(0, .ref (q 0)), (1, .long (1657 : Int64)), (3, .int (0 : Int32))]) [2, 1, 0] rfl ?_
  exact mX3_digest_6_ok C _ _ _ _ _ hm
def mX3_fault (σ : bx_St) : Option (Int32 × bx_St) := (Option.bind (mX2_firstWrong σ) fun u1 => (some (u1.1, u1.2)))
set_option maxRecDepth 8000 in
set_option maxHeartbeats 4000000 in
theorem ktX3_fault {l : Launch} {D : va_G} {cI cZ : ClassId} {q : Nat → Nat} {σ : bx_St} {u : (Int32 × bx_St)} (hm : mX3_fault σ = some u) : bx_Mt l D cI cZ yX3_fault cX3_fault 1 (some .int) 6 [.ref (q 0)] (bx_xw q cI σ) (some (.int u.1)) (bx_xw q cI u.2) := by
  refine bx_mk (by decide) (Nat.le_of_ble_eq_true rfl) (lv := [(0, .ref (q 0))]) rfl (fun p e s m args below meth c A C => ?_)
  replace C : bx_Cx p s m args meth c 1 A D cI cZ RX3 cX3_fault (some .int) := C
  unfold mX3_fault at hm
  refine go_aload_n C dX3_fault_0 rfl 0 rfl (n := 1) rfl ?_
  refine go_get C dX3_fault_1 (xf3_0 q cI σ) rfl inX3 (by decide) fl_X3_10 (n := 4) rfl ?_
  obtain ⟨u1, e2, hm⟩ := bx_b hm
  refine go_callVi C dX3_fault_4 mw_X2_firstWrong ml_X3_58 (rest := []) (ktX2_firstWrong e2) (xo2 q cI σ) rfl (by decide) rfl rfl (Nat.le_of_ble_eq_true rfl) (n := 7) rfl ?_
  cases hm
  exact go_iret C dX3_fault_7
def mX3_isSpan (v0 : Int32) (v1 : Int32) : Int32 := (if v0 < (-999 : Int32) then (0 : Int32) else (if v1 ≤ v0 then (0 : Int32) else (if (999 : Int32) < v1 then (0 : Int32) else (1 : Int32))))
set_option maxRecDepth 8000 in
set_option maxHeartbeats 4000000 in
theorem ktX3_isSpan {l : Launch} {D : va_G} {cI cZ : ClassId} {ws : va_W} {v0 : Int32} {v1 : Int32} {u : Int32} (hm : mX3_isSpan v0 v1 = u) : bx_Mt l D cI cZ yX3_isSpan cX3_isSpan 2 (some .boolean) 1 [.int v0, .int v1] ws (some (.int u)) ws := by
  refine bx_mk (by decide) (Nat.le_of_ble_eq_true rfl) (lv := [(0, .int v0), (1, .int v1)]) rfl (fun p e s m args below meth c A C => ?_)
  replace C : bx_Cx p s m args meth c 2 A D cI cZ RX3 cX3_isSpan (some .boolean) := C
  unfold mX3_isSpan at hm
  refine go_iload_n C dX3_isSpan_0 rfl 0 rfl (n := 1) rfl ?_
  refine go_sipush C dX3_isSpan_1 (v := (-999 : Int32)) (by decide) (n := 4) rfl ?_
  refine go_icmp_lt C 23 dX3_isSpan_4 (by decide) (n := 7) rfl (fun c1 => ?_) (fun c1 => ?_)
  · have hm := bx_p c1 hm
    refine go_iconst C dX3_isSpan_23 (v := (0 : Int32)) (by decide) (n := 24) rfl ?_
    subst hm
    exact go_zret C dX3_isSpan_24 (Or.inl rfl)
  · have hm := bx_n c1 hm
    refine go_iload_n C dX3_isSpan_7 rfl 0 rfl (n := 8) rfl ?_
    refine go_iload_n C dX3_isSpan_8 rfl 1 rfl (n := 9) rfl ?_
    refine go_icmp_ge C 23 dX3_isSpan_9 (by decide) (n := 12) rfl (fun c2 => ?_) (fun c2 => ?_)
    · have hm := bx_p c2 hm
      refine go_iconst C dX3_isSpan_23 (v := (0 : Int32)) (by decide) (n := 24) rfl ?_
      subst hm
      exact go_zret C dX3_isSpan_24 (Or.inl rfl)
    · have hm := bx_n c2 hm
      refine go_iload_n C dX3_isSpan_12 rfl 1 rfl (n := 13) rfl ?_
      refine go_sipush C dX3_isSpan_13 (v := (999 : Int32)) (by decide) (n := 16) rfl ?_
      refine go_icmp_gt C 23 dX3_isSpan_16 (by decide) (n := 19) rfl (fun c3 => ?_) (fun c3 => ?_)
      · have hm := bx_p c3 hm
        refine go_iconst C dX3_isSpan_23 (v := (0 : Int32)) (by decide) (n := 24) rfl ?_
        subst hm
        exact go_zret C dX3_isSpan_24 (Or.inl rfl)
      · have hm := bx_n c3 hm
        refine go_iconst C dX3_isSpan_19 (v := (1 : Int32)) (by decide) (n := 20) rfl ?_
        refine go_goto C 24 dX3_isSpan_20 (by decide) ?_
        subst hm
        exact go_zret C dX3_isSpan_24 (Or.inr rfl)
def mX3_turn (v1 : Int32) (v2 : Int32) (v3 : Int32) (σ : bx_St) : Option bx_St := (Option.bind (mX1_turnMeeting (mX3_lineOf v1) v2 v3 σ) fun u1 => (Option.bind (mX3_meetsOnOthers v1 v2 u1) fun u3 => (if (mX3_holds u3 v3) = 0 then (some u1) else (some (mX0_addTurn u1)))))
set_option maxRecDepth 8000 in
set_option maxHeartbeats 4000000 in
theorem ktX3_turn {l : Launch} {D : va_G} {cI cZ : ClassId} {q : Nat → Nat} {v1 : Int32} {v2 : Int32} {v3 : Int32} {σ : bx_St} {u : bx_St} (hm : mX3_turn v1 v2 v3 σ = some u) : bx_Mt l D cI cZ yX3_turn cX3_turn 4 none 3 [.ref (q 0), .int v1, .int v2, .int v3] (bx_xw q cI σ) none (bx_xw q cI u) := by
  refine bx_mk (by decide) (Nat.le_of_ble_eq_true rfl) (lv := [(0, .ref (q 0)), (1, .int v1), (2, .int v2), (3, .int v3)]) rfl (fun p e s m args below meth c A C => ?_)
  replace C : bx_Cx p s m args meth c 4 A D cI cZ RX3 cX3_turn none := C
  unfold mX3_turn at hm
  refine go_aload_n C dX3_turn_0 rfl 0 rfl (n := 1) rfl ?_
  refine go_iload_n C dX3_turn_1 rfl 1 rfl (n := 2) rfl ?_
  refine go_callVa C dX3_turn_2 mw_X3_lineOf ml_X3_120 (rest := []) (ktX3_lineOf rfl) (xo3 q cI σ) rfl (by decide) rfl rfl (Nat.le_of_ble_eq_true rfl) (n := 5) rfl ?_
  refine go_iload_n C dX3_turn_5 rfl 2 rfl (n := 6) rfl ?_
  refine go_iload_n C dX3_turn_6 rfl 3 rfl (n := 7) rfl ?_
  obtain ⟨u1, e2, hm⟩ := bx_b hm
  refine go_callVv C dX3_turn_7 mw_X1_turnMeeting ml_X3_296 (rest := []) (ktX1_turnMeeting (mX3_lineOf_isL _) e2) (xo1 q cI σ (mX3_lineOf_isL _)) rfl (by decide) rfl rfl (Nat.le_of_ble_eq_true rfl) (n := 10) rfl ?_
  refine go_aload_n C dX3_turn_10 rfl 0 rfl (n := 11) rfl ?_
  refine go_iload_n C dX3_turn_11 rfl 1 rfl (n := 12) rfl ?_
  refine go_iload_n C dX3_turn_12 rfl 2 rfl (n := 13) rfl ?_
  obtain ⟨u3, e4, hm⟩ := bx_b hm
  refine go_callVi C dX3_turn_13 mw_X3_meetsOnOthers ml_X3_170 (rest := []) (ktX3_meetsOnOthers e4) (xo3 q cI u1) rfl (by decide) rfl rfl (Nat.le_of_ble_eq_true rfl) (n := 16) rfl ?_
  refine go_iload_n C dX3_turn_16 rfl 3 rfl (n := 17) rfl ?_
  refine go_callSi C dX3_turn_17 mw_X3_holds ml_X3_142 (rest := []) (ktX3_holds rfl) (by decide) rfl rfl (Nat.le_of_ble_eq_true rfl) (n := 20) rfl ?_
  refine go_if_eq C 30 dX3_turn_20 (by decide) (n := 23) rfl (fun c5 => ?_) (fun c5 => ?_)
  · have hm := bx_p c5 hm
    cases hm
    exact go_vret C dX3_turn_30
  · have hm := bx_n c5 hm
    refine go_aload_n C dX3_turn_23 rfl 0 rfl (n := 24) rfl ?_
    refine go_get C dX3_turn_24 (xf3_4 q cI u1) rfl inX3 (by decide) fl_X3_32 (n := 27) rfl ?_
    refine go_callVv C dX3_turn_27 mw_X0_addTurn ml_X3_299 (rest := []) (ktX0_addTurn rfl) (xo0 q cI u1) rfl (by decide) rfl rfl (Nat.le_of_ble_eq_true rfl) (n := 30) rfl ?_
    cases hm
    exact go_vret C dX3_turn_30
end
