section
variable {p : Program} {l : Launch} {e : Env} {s : State} {m : MethodId} {args : Array Value} {below : List Frame} {meth : Method} {c : Code} {A : Nat → Prop} {D : va_G} {cI cZ : ClassId} {q : Nat → Nat} {ws : va_W}
def mX3_putRight_100 (K24 : Int32 → Int32 → Nat → Int32 → Int32 → Int32 → bx_St → Option bx_St) (v1 : Int32) (v2 : Int32) (k3 : Nat) (v4 : Int32) (v5 : Int32) (v6 : Int32) (σ : bx_St) : Option bx_St := (Option.bind (mX1_sideToGo k3 (v4 + v5) σ) fun u1 => (K24 v1 v2 k3 (v4 + v5) u1 (v6 + 1) σ))
set_option maxRecDepth 8000 in
set_option maxHeartbeats 4000000 in
theorem mX3_putRight_100_ok (C : bx_Cx p s m args meth c 8 A D cI cZ RX3 cX3_putRight none) (K24 : Int32 → Int32 → Nat → Int32 → Int32 → Int32 → bx_St → Option bx_St) (HK24 : ∀ (v1 : Int32) (v2 : Int32) (k3 : Nat) (v4 : Int32) (v5 : Int32) (v6 : Int32) (σ : bx_St) (hk3 : bx_isL k3) (u : bx_St), K24 v1 v2 k3 v4 v5 v6 σ = some u → bx_Go p l e (bx_rm 5) s m args below meth c 8 A D (MQ below (bx_Q none (bx_xw q cI u) D A) args s 0 0 A) (bx_xw q cI σ) 24 [(0, .ref (q 0)), (1, .int v1), (2, .int v2), (3, .ref (q k3)), (4, .int v4), (5, .int v5), (6, .int v6)] []) : ∀ (v1 : Int32) (v2 : Int32) (k3 : Nat) (v4 : Int32) (v5 : Int32) (v6 : Int32) (σ : bx_St) (hk3 : bx_isL k3) (u : bx_St), mX3_putRight_100 K24 v1 v2 k3 v4 v5 v6 σ = some u → bx_Go p l e (bx_rm 5) s m args below meth c 8 A D (MQ below (bx_Q none (bx_xw q cI u) D A) args s 0 0 A) (bx_xw q cI σ) 100 [(0, .ref (q 0)), (1, .int v1), (2, .int v2), (3, .ref (q k3)), (4, .int v4), (5, .int v5), (6, .int v6)] [] := by
  intro v1 v2 k3 v4 v5 v6 σ hk3 u hm
  unfold mX3_putRight_100 at hm
  refine go_iload C dX3_putRight_100 4 rfl (n := 102) rfl ?_
  refine go_iload C dX3_putRight_102 5 rfl (n := 104) rfl ?_
  refine go_iadd C dX3_putRight_104 (n := 105) rfl ?_
  refine go_istore C dX3_putRight_105 (by decide) (lv' := [(4, .int (v4 + v5)), (0, .ref (q 0)), (1, .int v1), (2, .int v2), (3, .ref (q k3)), (5, .int v5), (6, .int v6)]) rfl (n := 107) rfl ?_
  refine go_aload_n C dX3_putRight_107 rfl 4 rfl (n := 108) rfl ?_
  refine go_iload C dX3_putRight_108 0 rfl (n := 110) rfl ?_
  obtain ⟨u1, e2, hm⟩ := bx_b hm
  refine go_callVi C dX3_putRight_110 mw_X1_sideToGo ml_X3_282 (rest := []) (ktX1_sideToGo hk3 e2) (xo1 q cI σ hk3) rfl (by decide) rfl rfl (Nat.le_of_ble_eq_true rfl) (n := 113) rfl ?_
  refine go_istore C dX3_putRight_113 (by decide) (lv' := [(5, .int u1), (4, .int (v4 + v5)), (0, .ref (q 0)), (1, .int v1), (2, .int v2), (3, .ref (q k3)), (6, .int v6)]) rfl (n := 115) rfl ?_
  refine go_iinc C (j := 6) dX3_putRight_115 rfl (v := (v6 + 1)) rfl (by decide) (lv' := [(6, .int (v6 + 1)), (5, .int u1), (4, .int (v4 + v5)), (0, .ref (q 0)), (1, .int v1), (2, .int v2), (3, .ref (q k3))]) rfl (n := 118) rfl ?_
  refine go_goto C 24 dX3_putRight_118 (by decide) ?_
  refine go_lv (lv' := [(0, .ref (q 0)), (1, .int v1), (2, .int v2), (3, .ref (q k3)), (4, .int (v4 + v5)), (5, .int u1), (6, .int (v6 + 1))]) [3, 4, 5, 6, 2, 1, 0] rfl ?_
  exact HK24 _ _ _ _ _ _ _ hk3 _ hm
def mX3_putRight_63 (K24 : Int32 → Int32 → Nat → Int32 → Int32 → Int32 → bx_St → Option bx_St) (v1 : Int32) (v2 : Int32) (k3 : Nat) (v4 : Int32) (v5 : Int32) (v6 : Int32) (v7 : Int32) (s0 : Int32) (ks1 : Nat) (σ : bx_St) : Option bx_St := (Option.bind (mX1_swapWithNext ks1 s0 σ) fun u1 => (Option.bind (mX0_addSwap v1 u1) fun u3 => (if (mX1_isHigh v7) = (mX1_isHigh v2) then (mX3_putRight_100 K24 v1 v2 k3 v4 v5 v6 u3) else (Option.bind (mX3_turn v1 (mX1_boxOf v2) (mX1_boxOf v7) u3) fun u6 => (mX3_putRight_100 K24 v1 v2 k3 v4 v5 v6 u6)))))
set_option maxRecDepth 8000 in
set_option maxHeartbeats 4000000 in
theorem mX3_putRight_63_ok (C : bx_Cx p s m args meth c 8 A D cI cZ RX3 cX3_putRight none) (K24 : Int32 → Int32 → Nat → Int32 → Int32 → Int32 → bx_St → Option bx_St) (HK24 : ∀ (v1 : Int32) (v2 : Int32) (k3 : Nat) (v4 : Int32) (v5 : Int32) (v6 : Int32) (σ : bx_St) (hk3 : bx_isL k3) (u : bx_St), K24 v1 v2 k3 v4 v5 v6 σ = some u → bx_Go p l e (bx_rm 5) s m args below meth c 8 A D (MQ below (bx_Q none (bx_xw q cI u) D A) args s 0 0 A) (bx_xw q cI σ) 24 [(0, .ref (q 0)), (1, .int v1), (2, .int v2), (3, .ref (q k3)), (4, .int v4), (5, .int v5), (6, .int v6)] []) : ∀ (v1 : Int32) (v2 : Int32) (k3 : Nat) (v4 : Int32) (v5 : Int32) (v6 : Int32) (v7 : Int32) (s0 : Int32) (ks1 : Nat) (σ : bx_St) (hk3 : bx_isL k3) (hks1 : bx_isL ks1) (u : bx_St), mX3_putRight_63 K24 v1 v2 k3 v4 v5 v6 v7 s0 ks1 σ = some u → bx_Go p l e (bx_rm 5) s m args below meth c 8 A D (MQ below (bx_Q none (bx_xw q cI u) D A) args s 0 0 A) (bx_xw q cI σ) 63 [(0, .ref (q 0)), (1, .int v1), (2, .int v2), (3, .ref (q k3)), (4, .int v4), (5, .int v5), (6, .int v6), (7, .int v7)] [.int s0, .ref (q ks1)] := by
  intro v1 v2 k3 v4 v5 v6 v7 s0 ks1 σ hk3 hks1 u hm
  unfold mX3_putRight_63 at hm
  obtain ⟨u1, e2, hm⟩ := bx_b hm
  refine go_callVv C dX3_putRight_63 mw_X1_swapWithNext ml_X3_285 (rest := []) (ktX1_swapWithNext hks1 e2) (xo1 q cI σ hks1) rfl (by decide) rfl rfl (Nat.le_of_ble_eq_true rfl) (n := 66) rfl ?_
  refine go_aload_n C dX3_putRight_66 rfl 0 rfl (n := 67) rfl ?_
  refine go_get C dX3_putRight_67 (xf3_4 q cI u1) rfl inX3 (by decide) fl_X3_32 (n := 70) rfl ?_
  refine go_iload_n C dX3_putRight_70 rfl 1 rfl (n := 71) rfl ?_
  obtain ⟨u3, e4, hm⟩ := bx_b hm
  refine go_callVv C dX3_putRight_71 mw_X0_addSwap ml_X3_289 (rest := []) (ktX0_addSwap e4) (xo0 q cI u1) rfl (by decide) rfl rfl (Nat.le_of_ble_eq_true rfl) (n := 74) rfl ?_
  refine go_iload C dX3_putRight_74 7 rfl (n := 76) rfl ?_
  refine go_callSi C dX3_putRight_76 mw_X1_isHigh ml_X3_133 (rest := []) (ktX1_isHigh rfl) (by decide) rfl rfl (Nat.le_of_ble_eq_true rfl) (n := 79) rfl ?_
  refine go_iload_n C dX3_putRight_79 rfl 2 rfl (n := 80) rfl ?_
  refine go_callSi C dX3_putRight_80 mw_X1_isHigh ml_X3_133 (rest := [.int (mX1_isHigh v7)]) (ktX1_isHigh rfl) (by decide) rfl rfl (Nat.le_of_ble_eq_true rfl) (n := 83) rfl ?_
  refine go_icmp_eq C 100 dX3_putRight_83 (by decide) (n := 86) rfl (fun c5 => ?_) (fun c5 => ?_)
  · have hm := bx_p c5 hm
    refine go_lv (lv' := [(0, .ref (q 0)), (1, .int v1), (2, .int v2), (3, .ref (q k3)), (4, .int v4), (5, .int v5), (6, .int v6)]) [0, 1, 2, 3, 4, 5, 6] rfl ?_
    exact mX3_putRight_100_ok C _ HK24 _ _ _ _ _ _ _ hk3 _ hm
  · have hm := bx_n c5 hm
    refine go_aload_n C dX3_putRight_86 rfl 0 rfl (n := 87) rfl ?_
    refine go_iload_n C dX3_putRight_87 rfl 1 rfl (n := 88) rfl ?_
    refine go_iload_n C dX3_putRight_88 rfl 2 rfl (n := 89) rfl ?_
    refine go_callSi C dX3_putRight_89 mw_X1_boxOf ml_X3_130 (rest := [.int v1, .ref (q 0)]) (ktX1_boxOf rfl) (by decide) rfl rfl (Nat.le_of_ble_eq_true rfl) (n := 92) rfl ?_
    refine go_iload C dX3_putRight_92 7 rfl (n := 94) rfl ?_
    refine go_callSi C dX3_putRight_94 mw_X1_boxOf ml_X3_130 (rest := [.int (mX1_boxOf v2), .int v1, .ref (q 0)]) (ktX1_boxOf rfl) (by decide) rfl rfl (Nat.le_of_ble_eq_true rfl) (n := 97) rfl ?_
    obtain ⟨u6, e7, hm⟩ := bx_b hm
    refine go_callVv C dX3_putRight_97 mw_X3_turn ml_X3_292 (rest := []) (ktX3_turn e7) (xo3 q cI u3) rfl (by decide) rfl rfl (Nat.le_of_ble_eq_true rfl) (n := 100) rfl ?_
    refine go_lv (lv' := [(0, .ref (q 0)), (1, .int v1), (2, .int v2), (3, .ref (q k3)), (4, .int v4), (5, .int v5), (6, .int v6)]) [0, 1, 2, 3, 4, 5, 6] rfl ?_
    exact mX3_putRight_100_ok C _ HK24 _ _ _ _ _ _ _ hk3 _ hm
def mX3_putRight_24 : Nat → Int32 → Int32 → Nat → Int32 → Int32 → Int32 → bx_St → Option bx_St
  | 0, _, _, _, _, _, _, _ => none
  | n + 1, v1, v2, k3, v4, v5, v6, σ => (if (24 : Int32) ≤ v6 then (some σ) else (if v5 = 0 then (some σ) else (if bx_ok (v4 + v5) 24 then (if v5 ≤ 0 then (mX3_putRight_63 (mX3_putRight_24 n) v1 v2 k3 v4 v5 v6 (σ.1 (k3 + 3) (v4 + v5).toNatClampNeg) (v4 - (1 : Int32)) k3 σ) else (mX3_putRight_63 (mX3_putRight_24 n) v1 v2 k3 v4 v5 v6 (σ.1 (k3 + 3) (v4 + v5).toNatClampNeg) v4 k3 σ)) else none)))
set_option maxRecDepth 8000 in
set_option maxHeartbeats 4000000 in
theorem mX3_putRight_24_ok (C : bx_Cx p s m args meth c 8 A D cI cZ RX3 cX3_putRight none) : ∀ (n : Nat) (v1 : Int32) (v2 : Int32) (k3 : Nat) (v4 : Int32) (v5 : Int32) (v6 : Int32) (σ : bx_St) (hk3 : bx_isL k3) (u : bx_St), mX3_putRight_24 n v1 v2 k3 v4 v5 v6 σ = some u → bx_Go p l e (bx_rm 5) s m args below meth c 8 A D (MQ below (bx_Q none (bx_xw q cI u) D A) args s 0 0 A) (bx_xw q cI σ) 24 [(0, .ref (q 0)), (1, .int v1), (2, .int v2), (3, .ref (q k3)), (4, .int v4), (5, .int v5), (6, .int v6)] [] := by
  intro n
  induction n with
  | zero =>
    intro v1 v2 k3 v4 v5 v6 σ hk3 u hm
    cases hm
  | succ n ih =>
    intro v1 v2 k3 v4 v5 v6 σ hk3 u hm
    rw [mX3_putRight_24] at hm
    refine go_iload C dX3_putRight_24 6 rfl (n := 26) rfl ?_
    refine go_bipush C dX3_putRight_26 (v := (24 : Int32)) (by decide) (n := 28) rfl ?_
    refine go_icmp_ge C 121 dX3_putRight_28 (by decide) (n := 31) rfl (fun c1 => ?_) (fun c1 => ?_)
    · have hm := bx_p c1 hm
      cases hm
      exact go_vret C dX3_putRight_121
    · have hm := bx_n c1 hm
      refine go_iload C dX3_putRight_31 5 rfl (n := 33) rfl ?_
      refine go_if_eq C 121 dX3_putRight_33 (by decide) (n := 36) rfl (fun c2 => ?_) (fun c2 => ?_)
      · have hm := bx_p c2 hm
        cases hm
        exact go_vret C dX3_putRight_121
      · have hm := bx_n c2 hm
        refine go_aload_n C dX3_putRight_36 rfl 3 rfl (n := 37) rfl ?_
        refine go_get C dX3_putRight_37 (xf1_2 q cI σ hk3) rfl inX1 (by decide) fl_X3_127 (n := 40) rfl ?_
        refine go_iload C dX3_putRight_40 4 rfl (n := 42) rfl ?_
        refine go_iload C dX3_putRight_42 5 rfl (n := 44) rfl ?_
        refine go_iadd C dX3_putRight_44 (n := 45) rfl ?_
        obtain ⟨b3, hm⟩ := bx_g hm
        refine go_iald C dX3_putRight_45 (xal_3 q cI σ hk3) b3 (n := 46) rfl ?_
        refine go_istore C dX3_putRight_46 (by decide) (lv' := [(7, .int (σ.1 (k3 + 3) (v4 + v5).toNatClampNeg)), (0, .ref (q 0)), (1, .int v1), (2, .int v2), (3, .ref (q k3)), (4, .int v4), (5, .int v5), (6, .int v6)]) rfl (n := 48) rfl ?_
        refine go_aload_n C dX3_putRight_48 rfl 4 rfl (n := 49) rfl ?_
        refine go_iload C dX3_putRight_49 6 rfl (n := 51) rfl ?_
        refine go_if_le C 59 dX3_putRight_51 (by decide) (n := 54) rfl (fun c4 => ?_) (fun c4 => ?_)
        · have hm := bx_p c4 hm
          refine go_iload C dX3_putRight_59 5 rfl (n := 61) rfl ?_
          refine go_iconst C dX3_putRight_61 (v := (1 : Int32)) (by decide) (n := 62) rfl ?_
          refine go_isub C dX3_putRight_62 (n := 63) rfl ?_
          refine go_lv (lv' := [(0, .ref (q 0)), (1, .int v1), (2, .int v2), (3, .ref (q k3)), (4, .int v4), (5, .int v5), (6, .int v6), (7, .int (σ.1 (k3 + 3) (v4 + v5).toNatClampNeg))]) [1, 2, 3, 4, 5, 6, 7, 0] rfl ?_
          exact mX3_putRight_63_ok C _ ih _ _ _ _ _ _ _ _ _ _ hk3 hk3 _ hm
        · have hm := bx_n c4 hm
          refine go_iload C dX3_putRight_54 5 rfl (n := 56) rfl ?_
          refine go_goto C 63 dX3_putRight_56 (by decide) ?_
          refine go_lv (lv' := [(0, .ref (q 0)), (1, .int v1), (2, .int v2), (3, .ref (q k3)), (4, .int v4), (5, .int v5), (6, .int v6), (7, .int (σ.1 (k3 + 3) (v4 + v5).toNatClampNeg))]) [1, 2, 3, 4, 5, 6, 7, 0] rfl ?_
          exact mX3_putRight_63_ok C _ ih _ _ _ _ _ _ _ _ _ _ hk3 hk3 _ hm
def mX3_putRight (v1 : Int32) (v2 : Int32) (σ : bx_St) : Option bx_St := (Option.bind (mX1_placeOf (mX3_lineOf v1) v2 σ) fun u1 => (Option.bind (mX1_sideToGo (mX3_lineOf v1) u1 σ) fun u3 => (mX3_putRight_24 bx_F v1 v2 (mX3_lineOf v1) u1 u3 (0 : Int32) σ)))
set_option maxRecDepth 8000 in
set_option maxHeartbeats 4000000 in
theorem ktX3_putRight {l : Launch} {D : va_G} {cI cZ : ClassId} {q : Nat → Nat} {v1 : Int32} {v2 : Int32} {σ : bx_St} {u : bx_St} (hm : mX3_putRight v1 v2 σ = some u) : bx_Mt l D cI cZ yX3_putRight cX3_putRight 8 none 5 [.ref (q 0), .int v1, .int v2] (bx_xw q cI σ) none (bx_xw q cI u) := by
  refine bx_mk (by decide) (Nat.le_of_ble_eq_true rfl) (lv := [(0, .ref (q 0)), (1, .int v1), (2, .int v2)]) rfl (fun p e s m args below meth c A C => ?_)
  replace C : bx_Cx p s m args meth c 8 A D cI cZ RX3 cX3_putRight none := C
  unfold mX3_putRight at hm
  refine go_aload_n C dX3_putRight_0 rfl 0 rfl (n := 1) rfl ?_
  refine go_iload_n C dX3_putRight_1 rfl 1 rfl (n := 2) rfl ?_
  refine go_callVa C dX3_putRight_2 mw_X3_lineOf ml_X3_120 (rest := []) (ktX3_lineOf rfl) (xo3 q cI σ) rfl (by decide) rfl rfl (Nat.le_of_ble_eq_true rfl) (n := 5) rfl ?_
  refine go_astore_n C dX3_putRight_5 rfl (by decide) (lv' := [(3, .ref (q (mX3_lineOf v1))), (0, .ref (q 0)), (1, .int v1), (2, .int v2)]) rfl (n := 6) rfl ?_
  refine go_aload_n C dX3_putRight_6 rfl 0 rfl (n := 7) rfl ?_
  refine go_iload_n C dX3_putRight_7 rfl 3 rfl (n := 8) rfl ?_
  obtain ⟨u1, e2, hm⟩ := bx_b hm
  refine go_callVi C dX3_putRight_8 mw_X1_placeOf ml_X3_279 (rest := []) (ktX1_placeOf (mX3_lineOf_isL _) e2) (xo1 q cI σ (mX3_lineOf_isL _)) rfl (by decide) rfl rfl (Nat.le_of_ble_eq_true rfl) (n := 11) rfl ?_
  refine go_istore C dX3_putRight_11 (by decide) (lv' := [(4, .int u1), (3, .ref (q (mX3_lineOf v1))), (0, .ref (q 0)), (1, .int v1), (2, .int v2)]) rfl (n := 13) rfl ?_
  refine go_aload_n C dX3_putRight_13 rfl 1 rfl (n := 14) rfl ?_
  refine go_iload C dX3_putRight_14 0 rfl (n := 16) rfl ?_
  obtain ⟨u3, e4, hm⟩ := bx_b hm
  refine go_callVi C dX3_putRight_16 mw_X1_sideToGo ml_X3_282 (rest := []) (ktX1_sideToGo (mX3_lineOf_isL _) e4) (xo1 q cI σ (mX3_lineOf_isL _)) rfl (by decide) rfl rfl (Nat.le_of_ble_eq_true rfl) (n := 19) rfl ?_
  refine go_istore C dX3_putRight_19 (by decide) (lv' := [(5, .int u3), (4, .int u1), (3, .ref (q (mX3_lineOf v1))), (0, .ref (q 0)), (1, .int v1), (2, .int v2)]) rfl (n := 21) rfl ?_
  refine go_iconst C dX3_putRight_21 (v := (0 : Int32)) (by decide) (n := 22) rfl ?_
  refine go_istore C dX3_putRight_22 (by decide) (lv' := [(6, .int (0 : Int32)), (5, .int u3), (4, .int u1), (3, .ref (q (mX3_lineOf v1))), (0, .ref (q 0)), (1, .int v1), (2, .int v2)]) rfl (n := 24) rfl ?_
  refine go_lv (lv' := [(0, .ref (q 0)), (1, .int v1), (2, .int v2), (3, .ref (q (mX3_lineOf v1))), (4, .int u1), (5, .int u3), (6, .int (0 : Int32))]) [4, 5, 6, 3, 2, 1, 0] rfl ?_
  exact mX3_putRight_24_ok C _ _ _ _ _ _ _ _ (mX3_lineOf_isL _) _ hm
def mX3_layOn (v1 : Int32) (v2 : Int32) (v3 : Int32) (v4 : Int32) (σ : bx_St) : Option bx_St := (if bx_ok v2 12 then (if v3 ≤ (σ.1 ((mX3_lineOf v1) + 1) v2.toNatClampNeg) then (if bx_ok v2 12 then (bx_let (bx_up σ ((mX3_lineOf v1) + 1) v2.toNatClampNeg v3) fun σ4 => (Option.bind (mX3_putRight v1 (mX1_lowEnd v2) σ4) fun u6 => (if bx_ok v2 12 then (bx_let (bx_up u6 ((mX3_lineOf v1) + 2) v2.toNatClampNeg v4) fun σ9 => (Option.bind (mX3_putRight v1 (mX1_highEnd v2) σ9) fun u11 => (some u11))) else none))) else none) else (if bx_ok v2 12 then (bx_let (bx_up σ ((mX3_lineOf v1) + 2) v2.toNatClampNeg v4) fun σ14 => (Option.bind (mX3_putRight v1 (mX1_highEnd v2) σ14) fun u16 => (if bx_ok v2 12 then (bx_let (bx_up u16 ((mX3_lineOf v1) + 1) v2.toNatClampNeg v3) fun σ19 => (Option.bind (mX3_putRight v1 (mX1_lowEnd v2) σ19) fun u21 => (some u21))) else none))) else none)) else none)
set_option maxRecDepth 8000 in
set_option maxHeartbeats 4000000 in
theorem ktX3_layOn {l : Launch} {D : va_G} {cI cZ : ClassId} {q : Nat → Nat} {v1 : Int32} {v2 : Int32} {v3 : Int32} {v4 : Int32} {σ : bx_St} {u : bx_St} (hm : mX3_layOn v1 v2 v3 v4 σ = some u) : bx_Mt l D cI cZ yX3_layOn cX3_layOn 6 none 6 [.ref (q 0), .int v1, .int v2, .int v3, .int v4] (bx_xw q cI σ) none (bx_xw q cI u) := by
  refine bx_mk (by decide) (Nat.le_of_ble_eq_true rfl) (lv := [(0, .ref (q 0)), (1, .int v1), (2, .int v2), (3, .int v3), (4, .int v4)]) rfl (fun p e s m args below meth c A C => ?_)
  replace C : bx_Cx p s m args meth c 6 A D cI cZ RX3 cX3_layOn none := C
  unfold mX3_layOn at hm
  refine go_aload_n C dX3_layOn_0 rfl 0 rfl (n := 1) rfl ?_
  refine go_iload_n C dX3_layOn_1 rfl 1 rfl (n := 2) rfl ?_
  refine go_callVa C dX3_layOn_2 mw_X3_lineOf ml_X3_120 (rest := []) (ktX3_lineOf rfl) (xo3 q cI σ) rfl (by decide) rfl rfl (Nat.le_of_ble_eq_true rfl) (n := 5) rfl ?_
  refine go_astore C dX3_layOn_5 (by decide) (lv' := [(5, .ref (q (mX3_lineOf v1))), (0, .ref (q 0)), (1, .int v1), (2, .int v2), (3, .int v3), (4, .int v4)]) rfl (n := 7) rfl ?_
  refine go_iload_n C dX3_layOn_7 rfl 4 rfl (n := 8) rfl ?_
  refine go_aload C dX3_layOn_8 0 rfl (n := 10) rfl ?_
  refine go_get C dX3_layOn_10 (xf1_0 q cI σ (mX3_lineOf_isL _)) rfl inX1 (by decide) fl_X3_92 (n := 13) rfl ?_
  refine go_iload_n C dX3_layOn_13 rfl 3 rfl (n := 14) rfl ?_
  obtain ⟨b1, hm⟩ := bx_g hm
  refine go_iald C dX3_layOn_14 (xal_1 q cI σ (mX3_lineOf_isL _)) b1 (n := 15) rfl ?_
  refine go_icmp_le C 56 dX3_layOn_15 (by decide) (n := 18) rfl (fun c2 => ?_) (fun c2 => ?_)
  · have hm := bx_p c2 hm
    refine go_aload C dX3_layOn_56 0 rfl (n := 58) rfl ?_
    refine go_get C dX3_layOn_58 (xf1_0 q cI σ (mX3_lineOf_isL _)) rfl inX1 (by decide) fl_X3_92 (n := 61) rfl ?_
    refine go_iload_n C dX3_layOn_61 rfl 3 rfl (n := 62) rfl ?_
    refine go_iload_n C dX3_layOn_62 rfl 4 rfl (n := 63) rfl ?_
    obtain ⟨b3, hm⟩ := bx_g hm
    obtain ⟨σ4, z5, hm⟩ := bx_lt hm
    refine go_iast C dX3_layOn_63 (ws' := (bx_xw q cI σ4)) (by rw [z5]; exact (xul_1 q cI σ (mX3_lineOf_isL _) v2 v3)) b3 (n := 64) rfl ?_
    refine go_aload_n C dX3_layOn_64 rfl 1 rfl (n := 65) rfl ?_
    refine go_iload_n C dX3_layOn_65 rfl 2 rfl (n := 66) rfl ?_
    refine go_iload_n C dX3_layOn_66 rfl 3 rfl (n := 67) rfl ?_
    refine go_callSi C dX3_layOn_67 mw_X1_lowEnd ml_X3_276 (rest := [.int v1, .ref (q 0)]) (ktX1_lowEnd rfl) (by decide) rfl rfl (Nat.le_of_ble_eq_true rfl) (n := 70) rfl ?_
    obtain ⟨u6, e7, hm⟩ := bx_b hm
    refine go_callVv C dX3_layOn_70 mw_X3_putRight ml_X3_273 (rest := []) (ktX3_putRight e7) (xo3 q cI σ4) rfl (by decide) rfl rfl (Nat.le_of_ble_eq_true rfl) (n := 73) rfl ?_
    refine go_aload C dX3_layOn_73 0 rfl (n := 75) rfl ?_
    refine go_get C dX3_layOn_75 (xf1_1 q cI u6 (mX3_lineOf_isL _)) rfl inX1 (by decide) fl_X3_95 (n := 78) rfl ?_
    refine go_iload_n C dX3_layOn_78 rfl 3 rfl (n := 79) rfl ?_
    refine go_iload C dX3_layOn_79 5 rfl (n := 81) rfl ?_
    obtain ⟨b8, hm⟩ := bx_g hm
    obtain ⟨σ9, z10, hm⟩ := bx_lt hm
    refine go_iast C dX3_layOn_81 (ws' := (bx_xw q cI σ9)) (by rw [z10]; exact (xul_2 q cI u6 (mX3_lineOf_isL _) v2 v4)) b8 (n := 82) rfl ?_
    refine go_aload_n C dX3_layOn_82 rfl 1 rfl (n := 83) rfl ?_
    refine go_iload_n C dX3_layOn_83 rfl 2 rfl (n := 84) rfl ?_
    refine go_iload_n C dX3_layOn_84 rfl 3 rfl (n := 85) rfl ?_
    refine go_callSi C dX3_layOn_85 mw_X1_highEnd ml_X3_270 (rest := [.int v1, .ref (q 0)]) (ktX1_highEnd rfl) (by decide) rfl rfl (Nat.le_of_ble_eq_true rfl) (n := 88) rfl ?_
    obtain ⟨u11, e12, hm⟩ := bx_b hm
    refine go_callVv C dX3_layOn_88 mw_X3_putRight ml_X3_273 (rest := []) (ktX3_putRight e12) (xo3 q cI σ9) rfl (by decide) rfl rfl (Nat.le_of_ble_eq_true rfl) (n := 91) rfl ?_
    cases hm
    exact go_vret C dX3_layOn_91
  · have hm := bx_n c2 hm
    refine go_aload C dX3_layOn_18 0 rfl (n := 20) rfl ?_
    refine go_get C dX3_layOn_20 (xf1_1 q cI σ (mX3_lineOf_isL _)) rfl inX1 (by decide) fl_X3_95 (n := 23) rfl ?_
    refine go_iload_n C dX3_layOn_23 rfl 3 rfl (n := 24) rfl ?_
    refine go_iload C dX3_layOn_24 5 rfl (n := 26) rfl ?_
    obtain ⟨b13, hm⟩ := bx_g hm
    obtain ⟨σ14, z15, hm⟩ := bx_lt hm
    refine go_iast C dX3_layOn_26 (ws' := (bx_xw q cI σ14)) (by rw [z15]; exact (xul_2 q cI σ (mX3_lineOf_isL _) v2 v4)) b13 (n := 27) rfl ?_
    refine go_aload_n C dX3_layOn_27 rfl 1 rfl (n := 28) rfl ?_
    refine go_iload_n C dX3_layOn_28 rfl 2 rfl (n := 29) rfl ?_
    refine go_iload_n C dX3_layOn_29 rfl 3 rfl (n := 30) rfl ?_
    refine go_callSi C dX3_layOn_30 mw_X1_highEnd ml_X3_270 (rest := [.int v1, .ref (q 0)]) (ktX1_highEnd rfl) (by decide) rfl rfl (Nat.le_of_ble_eq_true rfl) (n := 33) rfl ?_
    obtain ⟨u16, e17, hm⟩ := bx_b hm
    refine go_callVv C dX3_layOn_33 mw_X3_putRight ml_X3_273 (rest := []) (ktX3_putRight e17) (xo3 q cI σ14) rfl (by decide) rfl rfl (Nat.le_of_ble_eq_true rfl) (n := 36) rfl ?_
    refine go_aload C dX3_layOn_36 0 rfl (n := 38) rfl ?_
    refine go_get C dX3_layOn_38 (xf1_0 q cI u16 (mX3_lineOf_isL _)) rfl inX1 (by decide) fl_X3_92 (n := 41) rfl ?_
    refine go_iload_n C dX3_layOn_41 rfl 3 rfl (n := 42) rfl ?_
    refine go_iload_n C dX3_layOn_42 rfl 4 rfl (n := 43) rfl ?_
    obtain ⟨b18, hm⟩ := bx_g hm
    obtain ⟨σ19, z20, hm⟩ := bx_lt hm
    refine go_iast C dX3_layOn_43 (ws' := (bx_xw q cI σ19)) (by rw [z20]; exact (xul_1 q cI u16 (mX3_lineOf_isL _) v2 v3)) b18 (n := 44) rfl ?_
    refine go_aload_n C dX3_layOn_44 rfl 1 rfl (n := 45) rfl ?_
    refine go_iload_n C dX3_layOn_45 rfl 2 rfl (n := 46) rfl ?_
    refine go_iload_n C dX3_layOn_46 rfl 3 rfl (n := 47) rfl ?_
    refine go_callSi C dX3_layOn_47 mw_X1_lowEnd ml_X3_276 (rest := [.int v1, .ref (q 0)]) (ktX1_lowEnd rfl) (by decide) rfl rfl (Nat.le_of_ble_eq_true rfl) (n := 50) rfl ?_
    obtain ⟨u21, e22, hm⟩ := bx_b hm
    refine go_callVv C dX3_layOn_50 mw_X3_putRight ml_X3_273 (rest := []) (ktX3_putRight e22) (xo3 q cI σ19) rfl (by decide) rfl rfl (Nat.le_of_ble_eq_true rfl) (n := 53) rfl ?_
    refine go_goto C 91 dX3_layOn_53 (by decide) ?_
    cases hm
    exact go_vret C dX3_layOn_91
def mX3_lay (v1 : Int32) (v2 : Int32) (v3 : Int32) (v4 : Int32) (σ : bx_St) : Option (Int32 × bx_St) := (if (mX3_isThere v1 σ) = 0 then (some ((-10002 : Int32), σ)) else (if (mX3_isAxis v2) = 0 then (some ((-10002 : Int32), σ)) else (if (mX3_isSpan v3 v4) = 0 then (some ((-10003 : Int32), σ)) else (Option.bind (mX0_open σ) fun u4 => (Option.bind (mX3_layOn v2 v1 v3 v4 u4) fun u6 => (Option.bind (mX3_tellEvents u6) fun u8 => (Option.bind (mX0_allSwaps u8) fun u10 => (some (u10, u8)))))))))
set_option maxRecDepth 8000 in
set_option maxHeartbeats 4000000 in
theorem ktX3_lay {l : Launch} {D : va_G} {cI cZ : ClassId} {q : Nat → Nat} {v1 : Int32} {v2 : Int32} {v3 : Int32} {v4 : Int32} {σ : bx_St} {u : (Int32 × bx_St)} (hm : mX3_lay v1 v2 v3 v4 σ = some u) : bx_Mt l D cI cZ yX3_lay cX3_lay 5 (some .int) 7 [.ref (q 0), .int v1, .int v2, .int v3, .int v4] (bx_xw q cI σ) (some (.int u.1)) (bx_xw q cI u.2) := by
  refine bx_mk (by decide) (Nat.le_of_ble_eq_true rfl) (lv := [(0, .ref (q 0)), (1, .int v1), (2, .int v2), (3, .int v3), (4, .int v4)]) rfl (fun p e s m args below meth c A C => ?_)
  replace C : bx_Cx p s m args meth c 5 A D cI cZ RX3 cX3_lay (some .int) := C
  unfold mX3_lay at hm
  refine go_aload_n C dX3_lay_0 rfl 0 rfl (n := 1) rfl ?_
  refine go_iload_n C dX3_lay_1 rfl 1 rfl (n := 2) rfl ?_
  refine go_callVi C dX3_lay_2 mw_X3_isThere ml_X3_78 (rest := []) (ktX3_isThere rfl) (xo3 q cI σ) rfl (by decide) rfl rfl (Nat.le_of_ble_eq_true rfl) (n := 5) rfl ?_
  refine go_if_eq C 15 dX3_lay_5 (by decide) (n := 8) rfl (fun c1 => ?_) (fun c1 => ?_)
  · have hm := bx_p c1 hm
    refine go_sipush C dX3_lay_15 (v := (-10002 : Int32)) (by decide) (n := 18) rfl ?_
    cases hm
    exact go_iret C dX3_lay_18
  · have hm := bx_n c1 hm
    refine go_iload_n C dX3_lay_8 rfl 2 rfl (n := 9) rfl ?_
    refine go_callSi C dX3_lay_9 mw_X3_isAxis ml_X3_108 (rest := []) (ktX3_isAxis rfl) (by decide) rfl rfl (Nat.le_of_ble_eq_true rfl) (n := 12) rfl ?_
    refine go_if_ne C 19 dX3_lay_12 (by decide) (n := 15) rfl (fun c2 => ?_) (fun c2 => ?_)
    · have hm := bx_n c2 hm
      refine go_iload_n C dX3_lay_19 rfl 3 rfl (n := 20) rfl ?_
      refine go_iload C dX3_lay_20 4 rfl (n := 22) rfl ?_
      refine go_callSi C dX3_lay_22 mw_X3_isSpan ml_X3_111 (rest := []) (ktX3_isSpan rfl) (by decide) rfl rfl (Nat.le_of_ble_eq_true rfl) (n := 25) rfl ?_
      refine go_if_ne C 32 dX3_lay_25 (by decide) (n := 28) rfl (fun c3 => ?_) (fun c3 => ?_)
      · have hm := bx_n c3 hm
        refine go_aload_n C dX3_lay_32 rfl 0 rfl (n := 33) rfl ?_
        refine go_get C dX3_lay_33 (xf3_4 q cI σ) rfl inX3 (by decide) fl_X3_32 (n := 36) rfl ?_
        obtain ⟨u4, e5, hm⟩ := bx_b hm
        refine go_callVv C dX3_lay_36 mw_X0_open ml_X3_75 (rest := []) (ktX0_open e5) (xo0 q cI σ) rfl (by decide) rfl rfl (Nat.le_of_ble_eq_true rfl) (n := 39) rfl ?_
        refine go_aload_n C dX3_lay_39 rfl 0 rfl (n := 40) rfl ?_
        refine go_iload_n C dX3_lay_40 rfl 2 rfl (n := 41) rfl ?_
        refine go_iload_n C dX3_lay_41 rfl 1 rfl (n := 42) rfl ?_
        refine go_iload_n C dX3_lay_42 rfl 3 rfl (n := 43) rfl ?_
        refine go_iload C dX3_lay_43 4 rfl (n := 45) rfl ?_
        obtain ⟨u6, e7, hm⟩ := bx_b hm
        refine go_callVv C dX3_lay_45 mw_X3_layOn ml_X3_98 (rest := []) (ktX3_layOn e7) (xo3 q cI u4) rfl (by decide) rfl rfl (Nat.le_of_ble_eq_true rfl) (n := 48) rfl ?_
        refine go_aload_n C dX3_lay_48 rfl 0 rfl (n := 49) rfl ?_
        obtain ⟨u8, e9, hm⟩ := bx_b hm
        refine go_callVv C dX3_lay_49 mw_X3_tellEvents ml_X3_102 (rest := []) (ktX3_tellEvents e9) (xo3 q cI u6) rfl (by decide) rfl rfl (Nat.le_of_ble_eq_true rfl) (n := 52) rfl ?_
        refine go_aload_n C dX3_lay_52 rfl 0 rfl (n := 53) rfl ?_
        refine go_get C dX3_lay_53 (xf3_4 q cI u8) rfl inX3 (by decide) fl_X3_32 (n := 56) rfl ?_
        obtain ⟨u10, e11, hm⟩ := bx_b hm
        refine go_callVi C dX3_lay_56 mw_X0_allSwaps ml_X3_105 (rest := []) (ktX0_allSwaps e11) (xo0 q cI u8) rfl (by decide) rfl rfl (Nat.le_of_ble_eq_true rfl) (n := 59) rfl ?_
        cases hm
        exact go_iret C dX3_lay_59
      · have hm := bx_p c3 hm
        refine go_sipush C dX3_lay_28 (v := (-10003 : Int32)) (by decide) (n := 31) rfl ?_
        cases hm
        exact go_iret C dX3_lay_31
    · have hm := bx_p c2 hm
      refine go_sipush C dX3_lay_15 (v := (-10002 : Int32)) (by decide) (n := 18) rfl ?_
      cases hm
      exact go_iret C dX3_lay_18
def mX3_letter (v1 : Int32) (σ : bx_St) : Option (Int32 × bx_St) := (if v1 < (32 : Int32) then (some ((-10003 : Int32), σ)) else (if v1 ≤ (126 : Int32) then (Option.bind (mX2_append v1 σ) fun u3 => (if u3.1 = 0 then (some ((-10005 : Int32), u3.2)) else (some ((u3.2.1 2 1), u3.2)))) else (some ((-10003 : Int32), σ))))
set_option maxRecDepth 8000 in
set_option maxHeartbeats 4000000 in
theorem ktX3_letter {l : Launch} {D : va_G} {cI cZ : ClassId} {q : Nat → Nat} {v1 : Int32} {σ : bx_St} {u : (Int32 × bx_St)} (hm : mX3_letter v1 σ = some u) : bx_Mt l D cI cZ yX3_letter cX3_letter 2 (some .int) 2 [.ref (q 0), .int v1] (bx_xw q cI σ) (some (.int u.1)) (bx_xw q cI u.2) := by
  refine bx_mk (by decide) (Nat.le_of_ble_eq_true rfl) (lv := [(0, .ref (q 0)), (1, .int v1)]) rfl (fun p e s m args below meth c A C => ?_)
  replace C : bx_Cx p s m args meth c 2 A D cI cZ RX3 cX3_letter (some .int) := C
  unfold mX3_letter at hm
  refine go_iload_n C dX3_letter_0 rfl 1 rfl (n := 1) rfl ?_
  refine go_bipush C dX3_letter_1 (v := (32 : Int32)) (by decide) (n := 3) rfl ?_
  refine go_icmp_lt C 12 dX3_letter_3 (by decide) (n := 6) rfl (fun c1 => ?_) (fun c1 => ?_)
  · have hm := bx_p c1 hm
    refine go_sipush C dX3_letter_12 (v := (-10003 : Int32)) (by decide) (n := 15) rfl ?_
    cases hm
    exact go_iret C dX3_letter_15
  · have hm := bx_n c1 hm
    refine go_iload_n C dX3_letter_6 rfl 1 rfl (n := 7) rfl ?_
    refine go_bipush C dX3_letter_7 (v := (126 : Int32)) (by decide) (n := 9) rfl ?_
    refine go_icmp_le C 16 dX3_letter_9 (by decide) (n := 12) rfl (fun c2 => ?_) (fun c2 => ?_)
    · have hm := bx_p c2 hm
      refine go_aload_n C dX3_letter_16 rfl 0 rfl (n := 17) rfl ?_
      refine go_get C dX3_letter_17 (xf3_0 q cI σ) rfl inX3 (by decide) fl_X3_10 (n := 20) rfl ?_
      refine go_iload_n C dX3_letter_20 rfl 1 rfl (n := 21) rfl ?_
      obtain ⟨u3, e4, hm⟩ := bx_b hm
      refine go_callVi C dX3_letter_21 mw_X2_append ml_X3_48 (rest := []) (ktX2_append e4) (xo2 q cI σ) rfl (by decide) rfl rfl (Nat.le_of_ble_eq_true rfl) (n := 24) rfl ?_
      refine go_if_ne C 31 dX3_letter_24 (by decide) (n := 27) rfl (fun c5 => ?_) (fun c5 => ?_)
      · have hm := bx_n c5 hm
        refine go_aload_n C dX3_letter_31 rfl 0 rfl (n := 32) rfl ?_
        refine go_get C dX3_letter_32 (xf3_0 q cI u3.2) rfl inX3 (by decide) fl_X3_10 (n := 35) rfl ?_
        refine go_get C dX3_letter_35 (xf2_1 q cI u3.2) rfl inX2 (by decide) fl_X3_52 (n := 38) rfl ?_
        cases hm
        exact go_iret C dX3_letter_38
      · have hm := bx_p c5 hm
        refine go_sipush C dX3_letter_27 (v := (-10005 : Int32)) (by decide) (n := 30) rfl ?_
        cases hm
        exact go_iret C dX3_letter_30
    · have hm := bx_n c2 hm
      refine go_sipush C dX3_letter_12 (v := (-10003 : Int32)) (by decide) (n := 15) rfl ?_
      cases hm
      exact go_iret C dX3_letter_15
def mX3_meet_57 (K30 : Int32 → Int32 → Int32 → Int32 → bx_St → Option Int32) (v1 : Int32) (v2 : Int32) (v3 : Int32) (v4 : Int32) (σ : bx_St) : Option Int32 := (K30 v1 v2 v3 (v4 + 1) σ)
set_option maxRecDepth 8000 in
set_option maxHeartbeats 4000000 in
theorem mX3_meet_57_ok (C : bx_Cx p s m args meth c 5 A D cI cZ RX3 cX3_meet (some .int)) (K30 : Int32 → Int32 → Int32 → Int32 → bx_St → Option Int32) (HK30 : ∀ (v1 : Int32) (v2 : Int32) (v3 : Int32) (v4 : Int32) (σ : bx_St) (u : Int32), K30 v1 v2 v3 v4 σ = some u → bx_Go p l e (bx_rm 4) s m args below meth c 5 A D (MQ below (bx_Q (some (.int u)) (bx_xw q cI σ) D A) args s 0 0 A) (bx_xw q cI σ) 30 [(0, .ref (q 0)), (1, .int v1), (2, .int v2), (3, .int v3), (4, .int v4)] []) : ∀ (v1 : Int32) (v2 : Int32) (v3 : Int32) (v4 : Int32) (σ : bx_St) (u : Int32), mX3_meet_57 K30 v1 v2 v3 v4 σ = some u → bx_Go p l e (bx_rm 4) s m args below meth c 5 A D (MQ below (bx_Q (some (.int u)) (bx_xw q cI σ) D A) args s 0 0 A) (bx_xw q cI σ) 57 [(0, .ref (q 0)), (1, .int v1), (2, .int v2), (3, .int v3), (4, .int v4)] [] := by
  intro v1 v2 v3 v4 σ u hm
  unfold mX3_meet_57 at hm
  refine go_iinc C (j := 4) dX3_meet_57 rfl (v := (v4 + 1)) rfl (by decide) (lv' := [(4, .int (v4 + 1)), (0, .ref (q 0)), (1, .int v1), (2, .int v2), (3, .int v3)]) rfl (n := 60) rfl ?_
  refine go_goto C 30 dX3_meet_60 (by decide) ?_
  refine go_lv (lv' := [(0, .ref (q 0)), (1, .int v1), (2, .int v2), (3, .int v3), (4, .int (v4 + 1))]) [1, 2, 3, 4, 0] rfl ?_
  exact HK30 _ _ _ _ _ _ hm
def mX3_meet_30 : Nat → Int32 → Int32 → Int32 → Int32 → bx_St → Option Int32
  | 0, _, _, _, _, _ => none
  | n + 1, v1, v2, v3, v4, σ => (if (3 : Int32) ≤ v4 then (some v3) else (if bx_ok v1 12 then (if (mX3_holds (σ.1 ((mX3_lineOf v4) + 4) v1.toNatClampNeg) v2) = 0 then (mX3_meet_57 (mX3_meet_30 n) v1 v2 v3 v4 σ) else (mX3_meet_57 (mX3_meet_30 n) v1 v2 (v3 + 1) v4 σ)) else none))
set_option maxRecDepth 8000 in
set_option maxHeartbeats 4000000 in
theorem mX3_meet_30_ok (C : bx_Cx p s m args meth c 5 A D cI cZ RX3 cX3_meet (some .int)) : ∀ (n : Nat) (v1 : Int32) (v2 : Int32) (v3 : Int32) (v4 : Int32) (σ : bx_St) (u : Int32), mX3_meet_30 n v1 v2 v3 v4 σ = some u → bx_Go p l e (bx_rm 4) s m args below meth c 5 A D (MQ below (bx_Q (some (.int u)) (bx_xw q cI σ) D A) args s 0 0 A) (bx_xw q cI σ) 30 [(0, .ref (q 0)), (1, .int v1), (2, .int v2), (3, .int v3), (4, .int v4)] [] := by
  intro n
  induction n with
  | zero =>
    intro v1 v2 v3 v4 σ u hm
    cases hm
  | succ n ih =>
    intro v1 v2 v3 v4 σ u hm
    rw [mX3_meet_30] at hm
    refine go_iload C dX3_meet_30 4 rfl (n := 32) rfl ?_
    refine go_iconst C dX3_meet_32 (v := (3 : Int32)) (by decide) (n := 33) rfl ?_
    refine go_icmp_ge C 63 dX3_meet_33 (by decide) (n := 36) rfl (fun c1 => ?_) (fun c1 => ?_)
    · have hm := bx_p c1 hm
      refine go_iload_n C dX3_meet_63 rfl 3 rfl (n := 64) rfl ?_
      cases hm
      exact go_iret C dX3_meet_64
    · have hm := bx_n c1 hm
      refine go_aload_n C dX3_meet_36 rfl 0 rfl (n := 37) rfl ?_
      refine go_iload C dX3_meet_37 4 rfl (n := 39) rfl ?_
      refine go_callVa C dX3_meet_39 mw_X3_lineOf ml_X3_120 (rest := []) (ktX3_lineOf rfl) (xo3 q cI σ) rfl (by decide) rfl rfl (Nat.le_of_ble_eq_true rfl) (n := 42) rfl ?_
      refine go_get C dX3_meet_42 (xf1_3 q cI σ (mX3_lineOf_isL _)) rfl inX1 (by decide) fl_X3_139 (n := 45) rfl ?_
      refine go_iload_n C dX3_meet_45 rfl 1 rfl (n := 46) rfl ?_
      obtain ⟨b2, hm⟩ := bx_g hm
      refine go_iald C dX3_meet_46 (xal_4 q cI σ (mX3_lineOf_isL _)) b2 (n := 47) rfl ?_
      refine go_iload_n C dX3_meet_47 rfl 2 rfl (n := 48) rfl ?_
      refine go_callSi C dX3_meet_48 mw_X3_holds ml_X3_142 (rest := []) (ktX3_holds rfl) (by decide) rfl rfl (Nat.le_of_ble_eq_true rfl) (n := 51) rfl ?_
      refine go_if_eq C 57 dX3_meet_51 (by decide) (n := 54) rfl (fun c3 => ?_) (fun c3 => ?_)
      · have hm := bx_p c3 hm
        refine go_lv (lv' := [(0, .ref (q 0)), (1, .int v1), (2, .int v2), (3, .int v3), (4, .int v4)]) [0, 1, 2, 3, 4] rfl ?_
        exact mX3_meet_57_ok C _ ih _ _ _ _ _ _ hm
      · have hm := bx_n c3 hm
        refine go_iinc C (j := 3) dX3_meet_54 rfl (v := (v3 + 1)) rfl (by decide) (lv' := [(3, .int (v3 + 1)), (0, .ref (q 0)), (1, .int v1), (2, .int v2), (4, .int v4)]) rfl (n := 57) rfl ?_
        refine go_lv (lv' := [(0, .ref (q 0)), (1, .int v1), (2, .int v2), (3, .int (v3 + 1)), (4, .int v4)]) [1, 2, 3, 0, 4] rfl ?_
        exact mX3_meet_57_ok C _ ih _ _ _ _ _ _ hm
def mX3_meet (v1 : Int32) (v2 : Int32) (σ : bx_St) : Option Int32 := (if (mX3_isThere v1 σ) = 0 then (some (-10002 : Int32)) else (if (mX3_isThere v2 σ) = 0 then (some (-10002 : Int32)) else (if v1 = v2 then (some (-10002 : Int32)) else (mX3_meet_30 bx_F v1 v2 (0 : Int32) (0 : Int32) σ))))
set_option maxRecDepth 8000 in
set_option maxHeartbeats 4000000 in
theorem ktX3_meet {l : Launch} {D : va_G} {cI cZ : ClassId} {q : Nat → Nat} {v1 : Int32} {v2 : Int32} {σ : bx_St} {u : Int32} (hm : mX3_meet v1 v2 σ = some u) : bx_Mt l D cI cZ yX3_meet cX3_meet 5 (some .int) 4 [.ref (q 0), .int v1, .int v2] (bx_xw q cI σ) (some (.int u)) (bx_xw q cI σ) := by
  refine bx_mk (by decide) (Nat.le_of_ble_eq_true rfl) (lv := [(0, .ref (q 0)), (1, .int v1), (2, .int v2)]) rfl (fun p e s m args below meth c A C => ?_)
  replace C : bx_Cx p s m args meth c 5 A D cI cZ RX3 cX3_meet (some .int) := C
  unfold mX3_meet at hm
  refine go_aload_n C dX3_meet_0 rfl 0 rfl (n := 1) rfl ?_
  refine go_iload_n C dX3_meet_1 rfl 1 rfl (n := 2) rfl ?_
  refine go_callVi C dX3_meet_2 mw_X3_isThere ml_X3_78 (rest := []) (ktX3_isThere rfl) (xo3 q cI σ) rfl (by decide) rfl rfl (Nat.le_of_ble_eq_true rfl) (n := 5) rfl ?_
  refine go_if_eq C 21 dX3_meet_5 (by decide) (n := 8) rfl (fun c1 => ?_) (fun c1 => ?_)
  · have hm := bx_p c1 hm
    refine go_sipush C dX3_meet_21 (v := (-10002 : Int32)) (by decide) (n := 24) rfl ?_
    cases hm
    exact go_iret C dX3_meet_24
  · have hm := bx_n c1 hm
    refine go_aload_n C dX3_meet_8 rfl 0 rfl (n := 9) rfl ?_
    refine go_iload_n C dX3_meet_9 rfl 2 rfl (n := 10) rfl ?_
    refine go_callVi C dX3_meet_10 mw_X3_isThere ml_X3_78 (rest := []) (ktX3_isThere rfl) (xo3 q cI σ) rfl (by decide) rfl rfl (Nat.le_of_ble_eq_true rfl) (n := 13) rfl ?_
    refine go_if_eq C 21 dX3_meet_13 (by decide) (n := 16) rfl (fun c2 => ?_) (fun c2 => ?_)
    · have hm := bx_p c2 hm
      refine go_sipush C dX3_meet_21 (v := (-10002 : Int32)) (by decide) (n := 24) rfl ?_
      cases hm
      exact go_iret C dX3_meet_24
    · have hm := bx_n c2 hm
      refine go_iload_n C dX3_meet_16 rfl 1 rfl (n := 17) rfl ?_
      refine go_iload_n C dX3_meet_17 rfl 2 rfl (n := 18) rfl ?_
      refine go_icmp_ne C 25 dX3_meet_18 (by decide) (n := 21) rfl (fun c3 => ?_) (fun c3 => ?_)
      · have hm := bx_n c3 hm
        refine go_iconst C dX3_meet_25 (v := (0 : Int32)) (by decide) (n := 26) rfl ?_
        refine go_istore_n C dX3_meet_26 rfl (by decide) (lv' := [(3, .int (0 : Int32)), (0, .ref (q 0)), (1, .int v1), (2, .int v2)]) rfl (n := 27) rfl ?_
        refine go_iconst C dX3_meet_27 (v := (0 : Int32)) (by decide) (n := 28) rfl ?_
        refine go_istore C dX3_meet_28 (by decide) (lv' := [(4, .int (0 : Int32)), (3, .int (0 : Int32)), (0, .ref (q 0)), (1, .int v1), (2, .int v2)]) rfl (n := 30) rfl ?_
        refine go_lv (lv' := [(0, .ref (q 0)), (1, .int v1), (2, .int v2), (3, .int (0 : Int32)), (4, .int (0 : Int32))]) [2, 3, 4, 1, 0] rfl ?_
        exact mX3_meet_30_ok C _ _ _ _ _ _ _ hm
      · have hm := bx_p c3 hm
        refine go_sipush C dX3_meet_21 (v := (-10002 : Int32)) (by decide) (n := 24) rfl ?_
        cases hm
        exact go_iret C dX3_meet_24
def mX3_move (v1 : Int32) (v2 : Int32) (v3 : Int32) (v4 : Int32) (σ : bx_St) : Option (Int32 × bx_St) := (if (mX3_isThere v1 σ) = 0 then (some ((-10002 : Int32), σ)) else (Option.bind (mX1_canShift 8 v1 v2 σ) fun u2 => (if u2 = 0 then (some ((-10003 : Int32), σ)) else (Option.bind (mX1_canShift 13 v1 v3 σ) fun u5 => (if u5 = 0 then (some ((-10003 : Int32), σ)) else (Option.bind (mX1_canShift 18 v1 v4 σ) fun u8 => (if u8 = 0 then (some ((-10003 : Int32), σ)) else (Option.bind (mX0_open σ) fun u11 => (if bx_ok v1 12 then (if bx_ok v1 12 then (Option.bind (mX3_layOn (0 : Int32) v1 ((u11.1 (8 + 1) v1.toNatClampNeg) + v2) ((u11.1 (8 + 2) v1.toNatClampNeg) + v2) u11) fun u15 => (if bx_ok v1 12 then (if bx_ok v1 12 then (Option.bind (mX3_layOn (1 : Int32) v1 ((u15.1 (13 + 1) v1.toNatClampNeg) + v3) ((u15.1 (13 + 2) v1.toNatClampNeg) + v3) u15) fun u19 => (if bx_ok v1 12 then (if bx_ok v1 12 then (Option.bind (mX3_layOn (2 : Int32) v1 ((u19.1 (18 + 1) v1.toNatClampNeg) + v4) ((u19.1 (18 + 2) v1.toNatClampNeg) + v4) u19) fun u23 => (Option.bind (mX3_tellEvents u23) fun u25 => (Option.bind (mX0_allSwaps u25) fun u27 => (some (u27, u25))))) else none) else none)) else none) else none)) else none) else none)))))))))
set_option maxRecDepth 8000 in
set_option maxHeartbeats 4000000 in
theorem ktX3_move {l : Launch} {D : va_G} {cI cZ : ClassId} {q : Nat → Nat} {v1 : Int32} {v2 : Int32} {v3 : Int32} {v4 : Int32} {σ : bx_St} {u : (Int32 × bx_St)} (hm : mX3_move v1 v2 v3 v4 σ = some u) : bx_Mt l D cI cZ yX3_move cX3_move 5 (some .int) 7 [.ref (q 0), .int v1, .int v2, .int v3, .int v4] (bx_xw q cI σ) (some (.int u.1)) (bx_xw q cI u.2) := by
  refine bx_mk (by decide) (Nat.le_of_ble_eq_true rfl) (lv := [(0, .ref (q 0)), (1, .int v1), (2, .int v2), (3, .int v3), (4, .int v4)]) rfl (fun p e s m args below meth c A C => ?_)
  replace C : bx_Cx p s m args meth c 5 A D cI cZ RX3 cX3_move (some .int) := C
  unfold mX3_move at hm
  refine go_aload_n C dX3_move_0 rfl 0 rfl (n := 1) rfl ?_
  refine go_iload_n C dX3_move_1 rfl 1 rfl (n := 2) rfl ?_
  refine go_callVi C dX3_move_2 mw_X3_isThere ml_X3_78 (rest := []) (ktX3_isThere rfl) (xo3 q cI σ) rfl (by decide) rfl rfl (Nat.le_of_ble_eq_true rfl) (n := 5) rfl ?_
  refine go_if_ne C 12 dX3_move_5 (by decide) (n := 8) rfl (fun c1 => ?_) (fun c1 => ?_)
  · have hm := bx_n c1 hm
    refine go_aload_n C dX3_move_12 rfl 0 rfl (n := 13) rfl ?_
    refine go_get C dX3_move_13 (xf3_1 q cI σ) rfl inX3 (by decide) fl_X3_19 (n := 16) rfl ?_
    refine go_iload_n C dX3_move_16 rfl 1 rfl (n := 17) rfl ?_
    refine go_iload_n C dX3_move_17 rfl 2 rfl (n := 18) rfl ?_
    obtain ⟨u2, e3, hm⟩ := bx_b hm
    refine go_callVi C dX3_move_18 mw_X1_canShift ml_X3_88 (rest := []) (ktX1_canShift (Or.inl rfl) e3) (xo1 q cI σ (Or.inl rfl)) rfl (by decide) rfl rfl (Nat.le_of_ble_eq_true rfl) (n := 21) rfl ?_
    refine go_if_eq C 49 dX3_move_21 (by decide) (n := 24) rfl (fun c4 => ?_) (fun c4 => ?_)
    · have hm := bx_p c4 hm
      refine go_sipush C dX3_move_49 (v := (-10003 : Int32)) (by decide) (n := 52) rfl ?_
      cases hm
      exact go_iret C dX3_move_52
    · have hm := bx_n c4 hm
      refine go_aload_n C dX3_move_24 rfl 0 rfl (n := 25) rfl ?_
      refine go_get C dX3_move_25 (xf3_2 q cI σ) rfl inX3 (by decide) fl_X3_23 (n := 28) rfl ?_
      refine go_iload_n C dX3_move_28 rfl 1 rfl (n := 29) rfl ?_
      refine go_iload_n C dX3_move_29 rfl 3 rfl (n := 30) rfl ?_
      obtain ⟨u5, e6, hm⟩ := bx_b hm
      refine go_callVi C dX3_move_30 mw_X1_canShift ml_X3_88 (rest := []) (ktX1_canShift (Or.inr (Or.inl rfl)) e6) (xo1 q cI σ (Or.inr (Or.inl rfl))) rfl (by decide) rfl rfl (Nat.le_of_ble_eq_true rfl) (n := 33) rfl ?_
      refine go_if_eq C 49 dX3_move_33 (by decide) (n := 36) rfl (fun c7 => ?_) (fun c7 => ?_)
      · have hm := bx_p c7 hm
        refine go_sipush C dX3_move_49 (v := (-10003 : Int32)) (by decide) (n := 52) rfl ?_
        cases hm
        exact go_iret C dX3_move_52
      · have hm := bx_n c7 hm
        refine go_aload_n C dX3_move_36 rfl 0 rfl (n := 37) rfl ?_
        refine go_get C dX3_move_37 (xf3_3 q cI σ) rfl inX3 (by decide) fl_X3_26 (n := 40) rfl ?_
        refine go_iload_n C dX3_move_40 rfl 1 rfl (n := 41) rfl ?_
        refine go_iload C dX3_move_41 4 rfl (n := 43) rfl ?_
        obtain ⟨u8, e9, hm⟩ := bx_b hm
        refine go_callVi C dX3_move_43 mw_X1_canShift ml_X3_88 (rest := []) (ktX1_canShift (Or.inr (Or.inr rfl)) e9) (xo1 q cI σ (Or.inr (Or.inr rfl))) rfl (by decide) rfl rfl (Nat.le_of_ble_eq_true rfl) (n := 46) rfl ?_
        refine go_if_ne C 53 dX3_move_46 (by decide) (n := 49) rfl (fun c10 => ?_) (fun c10 => ?_)
        · have hm := bx_n c10 hm
          refine go_aload_n C dX3_move_53 rfl 0 rfl (n := 54) rfl ?_
          refine go_get C dX3_move_54 (xf3_4 q cI σ) rfl inX3 (by decide) fl_X3_32 (n := 57) rfl ?_
          obtain ⟨u11, e12, hm⟩ := bx_b hm
          refine go_callVv C dX3_move_57 mw_X0_open ml_X3_75 (rest := []) (ktX0_open e12) (xo0 q cI σ) rfl (by decide) rfl rfl (Nat.le_of_ble_eq_true rfl) (n := 60) rfl ?_
          refine go_aload_n C dX3_move_60 rfl 0 rfl (n := 61) rfl ?_
          refine go_iconst C dX3_move_61 (v := (0 : Int32)) (by decide) (n := 62) rfl ?_
          refine go_iload_n C dX3_move_62 rfl 1 rfl (n := 63) rfl ?_
          refine go_aload_n C dX3_move_63 rfl 0 rfl (n := 64) rfl ?_
          refine go_get C dX3_move_64 (xf3_1 q cI u11) rfl inX3 (by decide) fl_X3_19 (n := 67) rfl ?_
          refine go_get C dX3_move_67 (xf1_0 q cI u11 (Or.inl rfl)) rfl inX1 (by decide) fl_X3_92 (n := 70) rfl ?_
          refine go_iload_n C dX3_move_70 rfl 1 rfl (n := 71) rfl ?_
          obtain ⟨b13, hm⟩ := bx_g hm
          refine go_iald C dX3_move_71 (xal_1 q cI u11 (Or.inl rfl)) b13 (n := 72) rfl ?_
          refine go_iload_n C dX3_move_72 rfl 2 rfl (n := 73) rfl ?_
          refine go_iadd C dX3_move_73 (n := 74) rfl ?_
          refine go_aload_n C dX3_move_74 rfl 0 rfl (n := 75) rfl ?_
          refine go_get C dX3_move_75 (xf3_1 q cI u11) rfl inX3 (by decide) fl_X3_19 (n := 78) rfl ?_
          refine go_get C dX3_move_78 (xf1_1 q cI u11 (Or.inl rfl)) rfl inX1 (by decide) fl_X3_95 (n := 81) rfl ?_
          refine go_iload_n C dX3_move_81 rfl 1 rfl (n := 82) rfl ?_
          obtain ⟨b14, hm⟩ := bx_g hm
          refine go_iald C dX3_move_82 (xal_2 q cI u11 (Or.inl rfl)) b14 (n := 83) rfl ?_
          refine go_iload_n C dX3_move_83 rfl 2 rfl (n := 84) rfl ?_
          refine go_iadd C dX3_move_84 (n := 85) rfl ?_
          obtain ⟨u15, e16, hm⟩ := bx_b hm
          refine go_callVv C dX3_move_85 mw_X3_layOn ml_X3_98 (rest := []) (ktX3_layOn e16) (xo3 q cI u11) rfl (by decide) rfl rfl (Nat.le_of_ble_eq_true rfl) (n := 88) rfl ?_
          refine go_aload_n C dX3_move_88 rfl 0 rfl (n := 89) rfl ?_
          refine go_iconst C dX3_move_89 (v := (1 : Int32)) (by decide) (n := 90) rfl ?_
          refine go_iload_n C dX3_move_90 rfl 1 rfl (n := 91) rfl ?_
          refine go_aload_n C dX3_move_91 rfl 0 rfl (n := 92) rfl ?_
          refine go_get C dX3_move_92 (xf3_2 q cI u15) rfl inX3 (by decide) fl_X3_23 (n := 95) rfl ?_
          refine go_get C dX3_move_95 (xf1_0 q cI u15 (Or.inr (Or.inl rfl))) rfl inX1 (by decide) fl_X3_92 (n := 98) rfl ?_
          refine go_iload_n C dX3_move_98 rfl 1 rfl (n := 99) rfl ?_
          obtain ⟨b17, hm⟩ := bx_g hm
          refine go_iald C dX3_move_99 (xal_1 q cI u15 (Or.inr (Or.inl rfl))) b17 (n := 100) rfl ?_
          refine go_iload_n C dX3_move_100 rfl 3 rfl (n := 101) rfl ?_
          refine go_iadd C dX3_move_101 (n := 102) rfl ?_
          refine go_aload_n C dX3_move_102 rfl 0 rfl (n := 103) rfl ?_
          refine go_get C dX3_move_103 (xf3_2 q cI u15) rfl inX3 (by decide) fl_X3_23 (n := 106) rfl ?_
          refine go_get C dX3_move_106 (xf1_1 q cI u15 (Or.inr (Or.inl rfl))) rfl inX1 (by decide) fl_X3_95 (n := 109) rfl ?_
          refine go_iload_n C dX3_move_109 rfl 1 rfl (n := 110) rfl ?_
          obtain ⟨b18, hm⟩ := bx_g hm
          refine go_iald C dX3_move_110 (xal_2 q cI u15 (Or.inr (Or.inl rfl))) b18 (n := 111) rfl ?_
          refine go_iload_n C dX3_move_111 rfl 3 rfl (n := 112) rfl ?_
          refine go_iadd C dX3_move_112 (n := 113) rfl ?_
          obtain ⟨u19, e20, hm⟩ := bx_b hm
          refine go_callVv C dX3_move_113 mw_X3_layOn ml_X3_98 (rest := []) (ktX3_layOn e20) (xo3 q cI u15) rfl (by decide) rfl rfl (Nat.le_of_ble_eq_true rfl) (n := 116) rfl ?_
          refine go_aload_n C dX3_move_116 rfl 0 rfl (n := 117) rfl ?_
          refine go_iconst C dX3_move_117 (v := (2 : Int32)) (by decide) (n := 118) rfl ?_
          refine go_iload_n C dX3_move_118 rfl 1 rfl (n := 119) rfl ?_
          refine go_aload_n C dX3_move_119 rfl 0 rfl (n := 120) rfl ?_
          refine go_get C dX3_move_120 (xf3_3 q cI u19) rfl inX3 (by decide) fl_X3_26 (n := 123) rfl ?_
          refine go_get C dX3_move_123 (xf1_0 q cI u19 (Or.inr (Or.inr rfl))) rfl inX1 (by decide) fl_X3_92 (n := 126) rfl ?_
          refine go_iload_n C dX3_move_126 rfl 1 rfl (n := 127) rfl ?_
          obtain ⟨b21, hm⟩ := bx_g hm
          refine go_iald C dX3_move_127 (xal_1 q cI u19 (Or.inr (Or.inr rfl))) b21 (n := 128) rfl ?_
          refine go_iload C dX3_move_128 4 rfl (n := 130) rfl ?_
          refine go_iadd C dX3_move_130 (n := 131) rfl ?_
          refine go_aload_n C dX3_move_131 rfl 0 rfl (n := 132) rfl ?_
          refine go_get C dX3_move_132 (xf3_3 q cI u19) rfl inX3 (by decide) fl_X3_26 (n := 135) rfl ?_
          refine go_get C dX3_move_135 (xf1_1 q cI u19 (Or.inr (Or.inr rfl))) rfl inX1 (by decide) fl_X3_95 (n := 138) rfl ?_
          refine go_iload_n C dX3_move_138 rfl 1 rfl (n := 139) rfl ?_
          obtain ⟨b22, hm⟩ := bx_g hm
          refine go_iald C dX3_move_139 (xal_2 q cI u19 (Or.inr (Or.inr rfl))) b22 (n := 140) rfl ?_
          refine go_iload C dX3_move_140 4 rfl (n := 142) rfl ?_
          refine go_iadd C dX3_move_142 (n := 143) rfl ?_
          obtain ⟨u23, e24, hm⟩ := bx_b hm
          refine go_callVv C dX3_move_143 mw_X3_layOn ml_X3_98 (rest := []) (ktX3_layOn e24) (xo3 q cI u19) rfl (by decide) rfl rfl (Nat.le_of_ble_eq_true rfl) (n := 146) rfl ?_
          refine go_aload_n C dX3_move_146 rfl 0 rfl (n := 147) rfl ?_
          obtain ⟨u25, e26, hm⟩ := bx_b hm
          refine go_callVv C dX3_move_147 mw_X3_tellEvents ml_X3_102 (rest := []) (ktX3_tellEvents e26) (xo3 q cI u23) rfl (by decide) rfl rfl (Nat.le_of_ble_eq_true rfl) (n := 150) rfl ?_
          refine go_aload_n C dX3_move_150 rfl 0 rfl (n := 151) rfl ?_
          refine go_get C dX3_move_151 (xf3_4 q cI u25) rfl inX3 (by decide) fl_X3_32 (n := 154) rfl ?_
          obtain ⟨u27, e28, hm⟩ := bx_b hm
          refine go_callVi C dX3_move_154 mw_X0_allSwaps ml_X3_105 (rest := []) (ktX0_allSwaps e28) (xo0 q cI u25) rfl (by decide) rfl rfl (Nat.le_of_ble_eq_true rfl) (n := 157) rfl ?_
          cases hm
          exact go_iret C dX3_move_157
        · have hm := bx_p c10 hm
          refine go_sipush C dX3_move_49 (v := (-10003 : Int32)) (by decide) (n := 52) rfl ?_
          cases hm
          exact go_iret C dX3_move_52
  · have hm := bx_p c1 hm
    refine go_sipush C dX3_move_8 (v := (-10002 : Int32)) (by decide) (n := 11) rfl ?_
    cases hm
    exact go_iret C dX3_move_11
def mX3_pair_59 (K12 : Int32 → Int32 → Int32 → bx_St → Option Int32) (K23 : Int32 → Int32 → Int32 → Int32 → bx_St → Option Int32) (v1 : Int32) (v2 : Int32) (v3 : Int32) (v4 : Int32) (σ : bx_St) : Option Int32 := (K23 v1 v2 v3 (v4 + 1) σ)
set_option maxRecDepth 8000 in
set_option maxHeartbeats 4000000 in
theorem mX3_pair_59_ok (C : bx_Cx p s m args meth c 5 A D cI cZ RX3 cX3_pair (some .int)) (K12 : Int32 → Int32 → Int32 → bx_St → Option Int32) (HK12 : ∀ (v1 : Int32) (v2 : Int32) (v3 : Int32) (σ : bx_St) (u : Int32), K12 v1 v2 v3 σ = some u → bx_Go p l e (bx_rm 3) s m args below meth c 5 A D (MQ below (bx_Q (some (.int u)) (bx_xw q cI σ) D A) args s 0 0 A) (bx_xw q cI σ) 12 [(0, .ref (q 0)), (1, .int v1), (2, .int v2), (3, .int v3)] []) (K23 : Int32 → Int32 → Int32 → Int32 → bx_St → Option Int32) (HK23 : ∀ (v1 : Int32) (v2 : Int32) (v3 : Int32) (v4 : Int32) (σ : bx_St) (u : Int32), K23 v1 v2 v3 v4 σ = some u → bx_Go p l e (bx_rm 3) s m args below meth c 5 A D (MQ below (bx_Q (some (.int u)) (bx_xw q cI σ) D A) args s 0 0 A) (bx_xw q cI σ) 23 [(0, .ref (q 0)), (1, .int v1), (2, .int v2), (3, .int v3), (4, .int v4)] []) : ∀ (v1 : Int32) (v2 : Int32) (v3 : Int32) (v4 : Int32) (σ : bx_St) (u : Int32), mX3_pair_59 K12 K23 v1 v2 v3 v4 σ = some u → bx_Go p l e (bx_rm 3) s m args below meth c 5 A D (MQ below (bx_Q (some (.int u)) (bx_xw q cI σ) D A) args s 0 0 A) (bx_xw q cI σ) 59 [(0, .ref (q 0)), (1, .int v1), (2, .int v2), (3, .int v3), (4, .int v4)] [] := by
  intro v1 v2 v3 v4 σ u hm
  unfold mX3_pair_59 at hm
  refine go_iinc C (j := 4) dX3_pair_59 rfl (v := (v4 + 1)) rfl (by decide) (lv' := [(4, .int (v4 + 1)), (0, .ref (q 0)), (1, .int v1), (2, .int v2), (3, .int v3)]) rfl (n := 62) rfl ?_
  refine go_goto C 23 dX3_pair_62 (by decide) ?_
  refine go_lv (lv' := [(0, .ref (q 0)), (1, .int v1), (2, .int v2), (3, .int v3), (4, .int (v4 + 1))]) [1, 2, 3, 4, 0] rfl ?_
  exact HK23 _ _ _ _ _ _ hm
def mX3_pair_23 (K12 : Int32 → Int32 → Int32 → bx_St → Option Int32) : Nat → Int32 → Int32 → Int32 → Int32 → bx_St → Option Int32
  | 0, _, _, _, _, _ => none
  | n + 1, v1, v2, v3, v4, σ => (if (12 : Int32) ≤ v4 then (K12 v1 v2 (v3 + 1) σ) else (if bx_ok v3 12 then (if (mX3_holds (σ.1 1 v3.toNatClampNeg) v4) = 0 then (mX3_pair_59 K12 (mX3_pair_23 K12 n) v1 v2 v3 v4 σ) else (if v2 = v1 then (some (mX3_pairCode v3 v4)) else (mX3_pair_59 K12 (mX3_pair_23 K12 n) v1 (v2 + 1) v3 v4 σ))) else none))
set_option maxRecDepth 8000 in
set_option maxHeartbeats 4000000 in
theorem mX3_pair_23_ok (C : bx_Cx p s m args meth c 5 A D cI cZ RX3 cX3_pair (some .int)) (K12 : Int32 → Int32 → Int32 → bx_St → Option Int32) (HK12 : ∀ (v1 : Int32) (v2 : Int32) (v3 : Int32) (σ : bx_St) (u : Int32), K12 v1 v2 v3 σ = some u → bx_Go p l e (bx_rm 3) s m args below meth c 5 A D (MQ below (bx_Q (some (.int u)) (bx_xw q cI σ) D A) args s 0 0 A) (bx_xw q cI σ) 12 [(0, .ref (q 0)), (1, .int v1), (2, .int v2), (3, .int v3)] []) : ∀ (n : Nat) (v1 : Int32) (v2 : Int32) (v3 : Int32) (v4 : Int32) (σ : bx_St) (u : Int32), mX3_pair_23 K12 n v1 v2 v3 v4 σ = some u → bx_Go p l e (bx_rm 3) s m args below meth c 5 A D (MQ below (bx_Q (some (.int u)) (bx_xw q cI σ) D A) args s 0 0 A) (bx_xw q cI σ) 23 [(0, .ref (q 0)), (1, .int v1), (2, .int v2), (3, .int v3), (4, .int v4)] [] := by
  intro n
  induction n with
  | zero =>
    intro v1 v2 v3 v4 σ u hm
    cases hm
  | succ n ih =>
    intro v1 v2 v3 v4 σ u hm
    rw [mX3_pair_23] at hm
    refine go_iload C dX3_pair_23 4 rfl (n := 25) rfl ?_
    refine go_bipush C dX3_pair_25 (v := (12 : Int32)) (by decide) (n := 27) rfl ?_
    refine go_icmp_ge C 65 dX3_pair_27 (by decide) (n := 30) rfl (fun c1 => ?_) (fun c1 => ?_)
    · have hm := bx_p c1 hm
      refine go_iinc C (j := 3) dX3_pair_65 rfl (v := (v3 + 1)) rfl (by decide) (lv' := [(3, .int (v3 + 1)), (0, .ref (q 0)), (1, .int v1), (2, .int v2), (4, .int v4)]) rfl (n := 68) rfl ?_
      refine go_goto C 12 dX3_pair_68 (by decide) ?_
      refine go_lv (lv' := [(0, .ref (q 0)), (1, .int v1), (2, .int v2), (3, .int (v3 + 1))]) [1, 2, 3, 0] rfl ?_
      exact HK12 _ _ _ _ _ hm
    · have hm := bx_n c1 hm
      refine go_aload_n C dX3_pair_30 rfl 0 rfl (n := 31) rfl ?_
      refine go_get C dX3_pair_31 (xf3_5 q cI σ) rfl inX3 (by decide) fl_X3_36 (n := 34) rfl ?_
      refine go_iload_n C dX3_pair_34 rfl 3 rfl (n := 35) rfl ?_
      obtain ⟨b2, hm⟩ := bx_g hm
      refine go_iald C dX3_pair_35 (xa_1 q cI σ) b2 (n := 36) rfl ?_
      refine go_iload C dX3_pair_36 4 rfl (n := 38) rfl ?_
      refine go_callSi C dX3_pair_38 mw_X3_holds ml_X3_142 (rest := []) (ktX3_holds rfl) (by decide) rfl rfl (Nat.le_of_ble_eq_true rfl) (n := 41) rfl ?_
      refine go_if_eq C 59 dX3_pair_41 (by decide) (n := 44) rfl (fun c3 => ?_) (fun c3 => ?_)
      · have hm := bx_p c3 hm
        refine go_lv (lv' := [(0, .ref (q 0)), (1, .int v1), (2, .int v2), (3, .int v3), (4, .int v4)]) [0, 1, 2, 3, 4] rfl ?_
        exact mX3_pair_59_ok C _ HK12 _ ih _ _ _ _ _ _ hm
      · have hm := bx_n c3 hm
        refine go_iload_n C dX3_pair_44 rfl 2 rfl (n := 45) rfl ?_
        refine go_iload_n C dX3_pair_45 rfl 1 rfl (n := 46) rfl ?_
        refine go_icmp_ne C 56 dX3_pair_46 (by decide) (n := 49) rfl (fun c4 => ?_) (fun c4 => ?_)
        · have hm := bx_n c4 hm
          refine go_iinc C (j := 2) dX3_pair_56 rfl (v := (v2 + 1)) rfl (by decide) (lv' := [(2, .int (v2 + 1)), (0, .ref (q 0)), (1, .int v1), (3, .int v3), (4, .int v4)]) rfl (n := 59) rfl ?_
          refine go_lv (lv' := [(0, .ref (q 0)), (1, .int v1), (2, .int (v2 + 1)), (3, .int v3), (4, .int v4)]) [1, 2, 0, 3, 4] rfl ?_
          exact mX3_pair_59_ok C _ HK12 _ ih _ _ _ _ _ _ hm
        · have hm := bx_p c4 hm
          refine go_iload_n C dX3_pair_49 rfl 3 rfl (n := 50) rfl ?_
          refine go_iload C dX3_pair_50 4 rfl (n := 52) rfl ?_
          refine go_callSi C dX3_pair_52 mw_X3_pairCode ml_X3_145 (rest := []) (ktX3_pairCode rfl) (by decide) rfl rfl (Nat.le_of_ble_eq_true rfl) (n := 55) rfl ?_
          cases hm
          exact go_iret C dX3_pair_55
def mX3_pair_12 : Nat → Int32 → Int32 → Int32 → bx_St → Option Int32
  | 0, _, _, _, _ => none
  | n + 1, v1, v2, v3, σ => (if (12 : Int32) ≤ v3 then (some (-10002 : Int32)) else (mX3_pair_23 (mX3_pair_12 n) bx_F v1 v2 v3 (v3 + (1 : Int32)) σ))
set_option maxRecDepth 8000 in
set_option maxHeartbeats 4000000 in
theorem mX3_pair_12_ok (C : bx_Cx p s m args meth c 5 A D cI cZ RX3 cX3_pair (some .int)) : ∀ (n : Nat) (v1 : Int32) (v2 : Int32) (v3 : Int32) (σ : bx_St) (u : Int32), mX3_pair_12 n v1 v2 v3 σ = some u → bx_Go p l e (bx_rm 3) s m args below meth c 5 A D (MQ below (bx_Q (some (.int u)) (bx_xw q cI σ) D A) args s 0 0 A) (bx_xw q cI σ) 12 [(0, .ref (q 0)), (1, .int v1), (2, .int v2), (3, .int v3)] [] := by
  intro n
  induction n with
  | zero =>
    intro v1 v2 v3 σ u hm
    cases hm
  | succ n ih =>
    intro v1 v2 v3 σ u hm
    rw [mX3_pair_12] at hm
    refine go_iload_n C dX3_pair_12 rfl 3 rfl (n := 13) rfl ?_
    refine go_bipush C dX3_pair_13 (v := (12 : Int32)) (by decide) (n := 15) rfl ?_
    refine go_icmp_ge C 71 dX3_pair_15 (by decide) (n := 18) rfl (fun c1 => ?_) (fun c1 => ?_)
    · have hm := bx_p c1 hm
      refine go_sipush C dX3_pair_71 (v := (-10002 : Int32)) (by decide) (n := 74) rfl ?_
      cases hm
      exact go_iret C dX3_pair_74
    · have hm := bx_n c1 hm
      refine go_iload_n C dX3_pair_18 rfl 3 rfl (n := 19) rfl ?_
      refine go_iconst C dX3_pair_19 (v := (1 : Int32)) (by decide) (n := 20) rfl ?_
      refine go_iadd C dX3_pair_20 (n := 21) rfl ?_
      refine go_istore C dX3_pair_21 (by decide) (lv' := [(4, .int (v3 + (1 : Int32))), (0, .ref (q 0)), (1, .int v1), (2, .int v2), (3, .int v3)]) rfl (n := 23) rfl ?_
      refine go_lv (lv' := [(0, .ref (q 0)), (1, .int v1), (2, .int v2), (3, .int v3), (4, .int (v3 + (1 : Int32)))]) [1, 2, 3, 4, 0] rfl ?_
      exact mX3_pair_23_ok C _ ih _ _ _ _ _ _ _ hm
def mX3_pair (v1 : Int32) (σ : bx_St) : Option Int32 := (if 0 ≤ v1 then (mX3_pair_12 bx_F v1 (0 : Int32) (0 : Int32) σ) else (some (-10002 : Int32)))
set_option maxRecDepth 8000 in
set_option maxHeartbeats 4000000 in
theorem ktX3_pair {l : Launch} {D : va_G} {cI cZ : ClassId} {q : Nat → Nat} {v1 : Int32} {σ : bx_St} {u : Int32} (hm : mX3_pair v1 σ = some u) : bx_Mt l D cI cZ yX3_pair cX3_pair 5 (some .int) 3 [.ref (q 0), .int v1] (bx_xw q cI σ) (some (.int u)) (bx_xw q cI σ) := by
  refine bx_mk (by decide) (Nat.le_of_ble_eq_true rfl) (lv := [(0, .ref (q 0)), (1, .int v1)]) rfl (fun p e s m args below meth c A C => ?_)
  replace C : bx_Cx p s m args meth c 5 A D cI cZ RX3 cX3_pair (some .int) := C
  unfold mX3_pair at hm
  refine go_iload_n C dX3_pair_0 rfl 1 rfl (n := 1) rfl ?_
  refine go_if_ge C 8 dX3_pair_1 (by decide) (n := 4) rfl (fun c1 => ?_) (fun c1 => ?_)
  · have hm := bx_p c1 hm
    refine go_iconst C dX3_pair_8 (v := (0 : Int32)) (by decide) (n := 9) rfl ?_
    refine go_istore_n C dX3_pair_9 rfl (by decide) (lv' := [(2, .int (0 : Int32)), (0, .ref (q 0)), (1, .int v1)]) rfl (n := 10) rfl ?_
    refine go_iconst C dX3_pair_10 (v := (0 : Int32)) (by decide) (n := 11) rfl ?_
    refine go_istore_n C dX3_pair_11 rfl (by decide) (lv' := [(3, .int (0 : Int32)), (2, .int (0 : Int32)), (0, .ref (q 0)), (1, .int v1)]) rfl (n := 12) rfl ?_
    refine go_lv (lv' := [(0, .ref (q 0)), (1, .int v1), (2, .int (0 : Int32)), (3, .int (0 : Int32))]) [2, 3, 1, 0] rfl ?_
    exact mX3_pair_12_ok C _ _ _ _ _ _ hm
  · have hm := bx_n c1 hm
    refine go_sipush C dX3_pair_4 (v := (-10002 : Int32)) (by decide) (n := 7) rfl ?_
    cases hm
    exact go_iret C dX3_pair_7
def mX3_probe_108 (K37 : Int32 → Int32 → Int32 → Int32 → Int32 → Int32 → Int32 → Int32 → bx_St → Option Int32) (v1 : Int32) (v2 : Int32) (v3 : Int32) (v4 : Int32) (v5 : Int32) (v6 : Int32) (v7 : Int32) (v8 : Int32) (σ : bx_St) : Option Int32 := (K37 v1 v2 v3 v4 v5 v6 v7 (v8 + 1) σ)
set_option maxRecDepth 8000 in
set_option maxHeartbeats 4000000 in
theorem mX3_probe_108_ok (C : bx_Cx p s m args meth c 9 A D cI cZ RX3 cX3_probe (some .int)) (K37 : Int32 → Int32 → Int32 → Int32 → Int32 → Int32 → Int32 → Int32 → bx_St → Option Int32) (HK37 : ∀ (v1 : Int32) (v2 : Int32) (v3 : Int32) (v4 : Int32) (v5 : Int32) (v6 : Int32) (v7 : Int32) (v8 : Int32) (σ : bx_St) (u : Int32), K37 v1 v2 v3 v4 v5 v6 v7 v8 σ = some u → bx_Go p l e (bx_rm 4) s m args below meth c 9 A D (MQ below (bx_Q (some (.int u)) (bx_xw q cI σ) D A) args s 0 0 A) (bx_xw q cI σ) 37 [(0, .ref (q 0)), (1, .int v1), (2, .int v2), (3, .int v3), (4, .int v4), (5, .int v5), (6, .int v6), (7, .int v7), (8, .int v8)] []) : ∀ (v1 : Int32) (v2 : Int32) (v3 : Int32) (v4 : Int32) (v5 : Int32) (v6 : Int32) (v7 : Int32) (v8 : Int32) (σ : bx_St) (u : Int32), mX3_probe_108 K37 v1 v2 v3 v4 v5 v6 v7 v8 σ = some u → bx_Go p l e (bx_rm 4) s m args below meth c 9 A D (MQ below (bx_Q (some (.int u)) (bx_xw q cI σ) D A) args s 0 0 A) (bx_xw q cI σ) 108 [(0, .ref (q 0)), (1, .int v1), (2, .int v2), (3, .int v3), (4, .int v4), (5, .int v5), (6, .int v6), (7, .int v7), (8, .int v8)] [] := by
  intro v1 v2 v3 v4 v5 v6 v7 v8 σ u hm
  unfold mX3_probe_108 at hm
  refine go_iinc C (j := 8) dX3_probe_108 rfl (v := (v8 + 1)) rfl (by decide) (lv' := [(8, .int (v8 + 1)), (0, .ref (q 0)), (1, .int v1), (2, .int v2), (3, .int v3), (4, .int v4), (5, .int v5), (6, .int v6), (7, .int v7)]) rfl (n := 111) rfl ?_
  refine go_goto C 37 dX3_probe_111 (by decide) ?_
  refine go_lv (lv' := [(0, .ref (q 0)), (1, .int v1), (2, .int v2), (3, .int v3), (4, .int v4), (5, .int v5), (6, .int v6), (7, .int v7), (8, .int (v8 + 1))]) [1, 2, 3, 4, 5, 6, 7, 8, 0] rfl ?_
  exact HK37 _ _ _ _ _ _ _ _ _ _ hm
def mX3_probe_37 : Nat → Int32 → Int32 → Int32 → Int32 → Int32 → Int32 → Int32 → Int32 → bx_St → Option Int32
  | 0, _, _, _, _, _, _, _, _, _ => none
  | n + 1, v1, v2, v3, v4, v5, v6, v7, v8, σ => (if (12 : Int32) ≤ v8 then (some v7) else (if (mX3_isThere v8 σ) = 0 then (mX3_probe_108 (mX3_probe_37 n) v1 v2 v3 v4 v5 v6 v7 v8 σ) else (Option.bind (mX1_spanMeets 8 v8 v1 v2 σ) fun u3 => (if u3 = 0 then (mX3_probe_108 (mX3_probe_37 n) v1 v2 v3 v4 v5 v6 v7 v8 σ) else (Option.bind (mX1_spanMeets 13 v8 v3 v4 σ) fun u6 => (if u6 = 0 then (mX3_probe_108 (mX3_probe_37 n) v1 v2 v3 v4 v5 v6 v7 v8 σ) else (Option.bind (mX1_spanMeets 18 v8 v5 v6 σ) fun u9 => (if u9 = 0 then (mX3_probe_108 (mX3_probe_37 n) v1 v2 v3 v4 v5 v6 v7 v8 σ) else (mX3_probe_108 (mX3_probe_37 n) v1 v2 v3 v4 v5 v6 (v7 ||| (mX3_bit v8)) v8 σ)))))))))
set_option maxRecDepth 8000 in
set_option maxHeartbeats 4000000 in
theorem mX3_probe_37_ok (C : bx_Cx p s m args meth c 9 A D cI cZ RX3 cX3_probe (some .int)) : ∀ (n : Nat) (v1 : Int32) (v2 : Int32) (v3 : Int32) (v4 : Int32) (v5 : Int32) (v6 : Int32) (v7 : Int32) (v8 : Int32) (σ : bx_St) (u : Int32), mX3_probe_37 n v1 v2 v3 v4 v5 v6 v7 v8 σ = some u → bx_Go p l e (bx_rm 4) s m args below meth c 9 A D (MQ below (bx_Q (some (.int u)) (bx_xw q cI σ) D A) args s 0 0 A) (bx_xw q cI σ) 37 [(0, .ref (q 0)), (1, .int v1), (2, .int v2), (3, .int v3), (4, .int v4), (5, .int v5), (6, .int v6), (7, .int v7), (8, .int v8)] [] := by
  intro n
  induction n with
  | zero =>
    intro v1 v2 v3 v4 v5 v6 v7 v8 σ u hm
    cases hm
  | succ n ih =>
    intro v1 v2 v3 v4 v5 v6 v7 v8 σ u hm
    rw [mX3_probe_37] at hm
    refine go_iload C dX3_probe_37 8 rfl (n := 39) rfl ?_
    refine go_bipush C dX3_probe_39 (v := (12 : Int32)) (by decide) (n := 41) rfl ?_
    refine go_icmp_ge C 114 dX3_probe_41 (by decide) (n := 44) rfl (fun c1 => ?_) (fun c1 => ?_)
    · have hm := bx_p c1 hm
      refine go_iload C dX3_probe_114 7 rfl (n := 116) rfl ?_
      cases hm
      exact go_iret C dX3_probe_116
    · have hm := bx_n c1 hm
      refine go_aload_n C dX3_probe_44 rfl 0 rfl (n := 45) rfl ?_
      refine go_iload C dX3_probe_45 8 rfl (n := 47) rfl ?_
      refine go_callVi C dX3_probe_47 mw_X3_isThere ml_X3_78 (rest := []) (ktX3_isThere rfl) (xo3 q cI σ) rfl (by decide) rfl rfl (Nat.le_of_ble_eq_true rfl) (n := 50) rfl ?_
      refine go_if_eq C 108 dX3_probe_50 (by decide) (n := 53) rfl (fun c2 => ?_) (fun c2 => ?_)
      · have hm := bx_p c2 hm
        refine go_lv (lv' := [(0, .ref (q 0)), (1, .int v1), (2, .int v2), (3, .int v3), (4, .int v4), (5, .int v5), (6, .int v6), (7, .int v7), (8, .int v8)]) [0, 1, 2, 3, 4, 5, 6, 7, 8] rfl ?_
        exact mX3_probe_108_ok C _ ih _ _ _ _ _ _ _ _ _ _ hm
      · have hm := bx_n c2 hm
        refine go_aload_n C dX3_probe_53 rfl 0 rfl (n := 54) rfl ?_
        refine go_get C dX3_probe_54 (xf3_1 q cI σ) rfl inX3 (by decide) fl_X3_19 (n := 57) rfl ?_
        refine go_iload C dX3_probe_57 8 rfl (n := 59) rfl ?_
        refine go_iload_n C dX3_probe_59 rfl 1 rfl (n := 60) rfl ?_
        refine go_iload_n C dX3_probe_60 rfl 2 rfl (n := 61) rfl ?_
        obtain ⟨u3, e4, hm⟩ := bx_b hm
        refine go_callVi C dX3_probe_61 mw_X1_spanMeets ml_X3_189 (rest := []) (ktX1_spanMeets (Or.inl rfl) e4) (xo1 q cI σ (Or.inl rfl)) rfl (by decide) rfl rfl (Nat.le_of_ble_eq_true rfl) (n := 64) rfl ?_
        refine go_if_eq C 108 dX3_probe_64 (by decide) (n := 67) rfl (fun c5 => ?_) (fun c5 => ?_)
        · have hm := bx_p c5 hm
          refine go_lv (lv' := [(0, .ref (q 0)), (1, .int v1), (2, .int v2), (3, .int v3), (4, .int v4), (5, .int v5), (6, .int v6), (7, .int v7), (8, .int v8)]) [0, 1, 2, 3, 4, 5, 6, 7, 8] rfl ?_
          exact mX3_probe_108_ok C _ ih _ _ _ _ _ _ _ _ _ _ hm
        · have hm := bx_n c5 hm
          refine go_aload_n C dX3_probe_67 rfl 0 rfl (n := 68) rfl ?_
          refine go_get C dX3_probe_68 (xf3_2 q cI σ) rfl inX3 (by decide) fl_X3_23 (n := 71) rfl ?_
          refine go_iload C dX3_probe_71 8 rfl (n := 73) rfl ?_
          refine go_iload_n C dX3_probe_73 rfl 3 rfl (n := 74) rfl ?_
          refine go_iload C dX3_probe_74 4 rfl (n := 76) rfl ?_
          obtain ⟨u6, e7, hm⟩ := bx_b hm
          refine go_callVi C dX3_probe_76 mw_X1_spanMeets ml_X3_189 (rest := []) (ktX1_spanMeets (Or.inr (Or.inl rfl)) e7) (xo1 q cI σ (Or.inr (Or.inl rfl))) rfl (by decide) rfl rfl (Nat.le_of_ble_eq_true rfl) (n := 79) rfl ?_
          refine go_if_eq C 108 dX3_probe_79 (by decide) (n := 82) rfl (fun c8 => ?_) (fun c8 => ?_)
          · have hm := bx_p c8 hm
            refine go_lv (lv' := [(0, .ref (q 0)), (1, .int v1), (2, .int v2), (3, .int v3), (4, .int v4), (5, .int v5), (6, .int v6), (7, .int v7), (8, .int v8)]) [0, 1, 2, 3, 4, 5, 6, 7, 8] rfl ?_
            exact mX3_probe_108_ok C _ ih _ _ _ _ _ _ _ _ _ _ hm
          · have hm := bx_n c8 hm
            refine go_aload_n C dX3_probe_82 rfl 0 rfl (n := 83) rfl ?_
            refine go_get C dX3_probe_83 (xf3_3 q cI σ) rfl inX3 (by decide) fl_X3_26 (n := 86) rfl ?_
            refine go_iload C dX3_probe_86 8 rfl (n := 88) rfl ?_
            refine go_iload C dX3_probe_88 5 rfl (n := 90) rfl ?_
            refine go_iload C dX3_probe_90 6 rfl (n := 92) rfl ?_
            obtain ⟨u9, e10, hm⟩ := bx_b hm
            refine go_callVi C dX3_probe_92 mw_X1_spanMeets ml_X3_189 (rest := []) (ktX1_spanMeets (Or.inr (Or.inr rfl)) e10) (xo1 q cI σ (Or.inr (Or.inr rfl))) rfl (by decide) rfl rfl (Nat.le_of_ble_eq_true rfl) (n := 95) rfl ?_
            refine go_if_eq C 108 dX3_probe_95 (by decide) (n := 98) rfl (fun c11 => ?_) (fun c11 => ?_)
            · have hm := bx_p c11 hm
              refine go_lv (lv' := [(0, .ref (q 0)), (1, .int v1), (2, .int v2), (3, .int v3), (4, .int v4), (5, .int v5), (6, .int v6), (7, .int v7), (8, .int v8)]) [0, 1, 2, 3, 4, 5, 6, 7, 8] rfl ?_
              exact mX3_probe_108_ok C _ ih _ _ _ _ _ _ _ _ _ _ hm
            · have hm := bx_n c11 hm
              refine go_iload C dX3_probe_98 7 rfl (n := 100) rfl ?_
              refine go_iload C dX3_probe_100 8 rfl (n := 102) rfl ?_
              refine go_callSi C dX3_probe_102 mw_X3_bit ml_X3_193 (rest := [.int v7]) (ktX3_bit rfl) (by decide) rfl rfl (Nat.le_of_ble_eq_true rfl) (n := 105) rfl ?_
              refine go_ior C dX3_probe_105 (n := 106) rfl ?_
              refine go_istore C dX3_probe_106 (by decide) (lv' := [(7, .int (v7 ||| (mX3_bit v8))), (0, .ref (q 0)), (1, .int v1), (2, .int v2), (3, .int v3), (4, .int v4), (5, .int v5), (6, .int v6), (8, .int v8)]) rfl (n := 108) rfl ?_
              refine go_lv (lv' := [(0, .ref (q 0)), (1, .int v1), (2, .int v2), (3, .int v3), (4, .int v4), (5, .int v5), (6, .int v6), (7, .int (v7 ||| (mX3_bit v8))), (8, .int v8)]) [1, 2, 3, 4, 5, 6, 7, 0, 8] rfl ?_
              exact mX3_probe_108_ok C _ ih _ _ _ _ _ _ _ _ _ _ hm
def mX3_probe (v1 : Int32) (v2 : Int32) (v3 : Int32) (v4 : Int32) (v5 : Int32) (v6 : Int32) (σ : bx_St) : Option Int32 := (if (mX3_isSpan v1 v2) = 0 then (some (-10003 : Int32)) else (if (mX3_isSpan v3 v4) = 0 then (some (-10003 : Int32)) else (if (mX3_isSpan v5 v6) = 0 then (some (-10003 : Int32)) else (mX3_probe_37 bx_F v1 v2 v3 v4 v5 v6 (0 : Int32) (0 : Int32) σ))))
set_option maxRecDepth 8000 in
set_option maxHeartbeats 4000000 in
theorem ktX3_probe {l : Launch} {D : va_G} {cI cZ : ClassId} {q : Nat → Nat} {v1 : Int32} {v2 : Int32} {v3 : Int32} {v4 : Int32} {v5 : Int32} {v6 : Int32} {σ : bx_St} {u : Int32} (hm : mX3_probe v1 v2 v3 v4 v5 v6 σ = some u) : bx_Mt l D cI cZ yX3_probe cX3_probe 9 (some .int) 4 [.ref (q 0), .int v1, .int v2, .int v3, .int v4, .int v5, .int v6] (bx_xw q cI σ) (some (.int u)) (bx_xw q cI σ) := by
  refine bx_mk (by decide) (Nat.le_of_ble_eq_true rfl) (lv := [(0, .ref (q 0)), (1, .int v1), (2, .int v2), (3, .int v3), (4, .int v4), (5, .int v5), (6, .int v6)]) rfl (fun p e s m args below meth c A C => ?_)
  replace C : bx_Cx p s m args meth c 9 A D cI cZ RX3 cX3_probe (some .int) := C
  unfold mX3_probe at hm
  refine go_iload_n C dX3_probe_0 rfl 1 rfl (n := 1) rfl ?_
  refine go_iload_n C dX3_probe_1 rfl 2 rfl (n := 2) rfl ?_
  refine go_callSi C dX3_probe_2 mw_X3_isSpan ml_X3_111 (rest := []) (ktX3_isSpan rfl) (by decide) rfl rfl (Nat.le_of_ble_eq_true rfl) (n := 5) rfl ?_
  refine go_if_eq C 27 dX3_probe_5 (by decide) (n := 8) rfl (fun c1 => ?_) (fun c1 => ?_)
  · have hm := bx_p c1 hm
    refine go_sipush C dX3_probe_27 (v := (-10003 : Int32)) (by decide) (n := 30) rfl ?_
    cases hm
    exact go_iret C dX3_probe_30
  · have hm := bx_n c1 hm
    refine go_iload_n C dX3_probe_8 rfl 3 rfl (n := 9) rfl ?_
    refine go_iload C dX3_probe_9 4 rfl (n := 11) rfl ?_
    refine go_callSi C dX3_probe_11 mw_X3_isSpan ml_X3_111 (rest := []) (ktX3_isSpan rfl) (by decide) rfl rfl (Nat.le_of_ble_eq_true rfl) (n := 14) rfl ?_
    refine go_if_eq C 27 dX3_probe_14 (by decide) (n := 17) rfl (fun c2 => ?_) (fun c2 => ?_)
    · have hm := bx_p c2 hm
      refine go_sipush C dX3_probe_27 (v := (-10003 : Int32)) (by decide) (n := 30) rfl ?_
      cases hm
      exact go_iret C dX3_probe_30
    · have hm := bx_n c2 hm
      refine go_iload C dX3_probe_17 5 rfl (n := 19) rfl ?_
      refine go_iload C dX3_probe_19 6 rfl (n := 21) rfl ?_
      refine go_callSi C dX3_probe_21 mw_X3_isSpan ml_X3_111 (rest := []) (ktX3_isSpan rfl) (by decide) rfl rfl (Nat.le_of_ble_eq_true rfl) (n := 24) rfl ?_
      refine go_if_ne C 31 dX3_probe_24 (by decide) (n := 27) rfl (fun c3 => ?_) (fun c3 => ?_)
      · have hm := bx_n c3 hm
        refine go_iconst C dX3_probe_31 (v := (0 : Int32)) (by decide) (n := 32) rfl ?_
        refine go_istore C dX3_probe_32 (by decide) (lv' := [(7, .int (0 : Int32)), (0, .ref (q 0)), (1, .int v1), (2, .int v2), (3, .int v3), (4, .int v4), (5, .int v5), (6, .int v6)]) rfl (n := 34) rfl ?_
        refine go_iconst C dX3_probe_34 (v := (0 : Int32)) (by decide) (n := 35) rfl ?_
        refine go_istore C dX3_probe_35 (by decide) (lv' := [(8, .int (0 : Int32)), (7, .int (0 : Int32)), (0, .ref (q 0)), (1, .int v1), (2, .int v2), (3, .int v3), (4, .int v4), (5, .int v5), (6, .int v6)]) rfl (n := 37) rfl ?_
        refine go_lv (lv' := [(0, .ref (q 0)), (1, .int v1), (2, .int v2), (3, .int v3), (4, .int v4), (5, .int v5), (6, .int v6), (7, .int (0 : Int32)), (8, .int (0 : Int32))]) [2, 3, 4, 5, 6, 7, 8, 1, 0] rfl ?_
        exact mX3_probe_37_ok C _ _ _ _ _ _ _ _ _ _ _ hm
      · have hm := bx_p c3 hm
        refine go_sipush C dX3_probe_27 (v := (-10003 : Int32)) (by decide) (n := 30) rfl ?_
        cases hm
        exact go_iret C dX3_probe_30
def mX3_remove (v1 : Int32) (σ : bx_St) : Option (Int32 × bx_St) := (if v1 = 0 then (some ((-10003 : Int32), σ)) else (if (v1 &&& ((σ.1 0 6) ^^^ (-1 : Int32))) = 0 then (Option.bind (mX0_open σ) fun u3 => (bx_let (bx_up u3 0 6 ((u3.1 0 6) &&& (v1 ^^^ (-1 : Int32)))) fun σ5 => (Option.bind (mX3_rearrange σ5) fun u7 => (some ((mJ6_bitCount_0f7a4 v1), u7))))) else (some ((-10003 : Int32), σ))))
set_option maxRecDepth 8000 in
set_option maxHeartbeats 4000000 in
theorem ktX3_remove {l : Launch} {D : va_G} {cI cZ : ClassId} {q : Nat → Nat} {v1 : Int32} {σ : bx_St} {u : (Int32 × bx_St)} (hm : mX3_remove v1 σ = some u) : bx_Mt l D cI cZ yX3_remove cX3_remove 2 (some .int) 7 [.ref (q 0), .int v1] (bx_xw q cI σ) (some (.int u.1)) (bx_xw q cI u.2) := by
  refine bx_mk (by decide) (Nat.le_of_ble_eq_true rfl) (lv := [(0, .ref (q 0)), (1, .int v1)]) rfl (fun p e s m args below meth c A C => ?_)
  replace C : bx_Cx p s m args meth c 2 A D cI cZ RX3 cX3_remove (some .int) := C
  unfold mX3_remove at hm
  refine go_iload_n C dX3_remove_0 rfl 1 rfl (n := 1) rfl ?_
  refine go_if_eq C 15 dX3_remove_1 (by decide) (n := 4) rfl (fun c1 => ?_) (fun c1 => ?_)
  · have hm := bx_p c1 hm
    refine go_sipush C dX3_remove_15 (v := (-10003 : Int32)) (by decide) (n := 18) rfl ?_
    cases hm
    exact go_iret C dX3_remove_18
  · have hm := bx_n c1 hm
    refine go_iload_n C dX3_remove_4 rfl 1 rfl (n := 5) rfl ?_
    refine go_aload_n C dX3_remove_5 rfl 0 rfl (n := 6) rfl ?_
    refine go_get C dX3_remove_6 (xf3_6 q cI σ) rfl inX3 (by decide) fl_X3_40 (n := 9) rfl ?_
    refine go_iconst C dX3_remove_9 (v := (-1 : Int32)) (by decide) (n := 10) rfl ?_
    refine go_ixor C dX3_remove_10 (n := 11) rfl ?_
    refine go_iand C dX3_remove_11 (n := 12) rfl ?_
    refine go_if_eq C 19 dX3_remove_12 (by decide) (n := 15) rfl (fun c2 => ?_) (fun c2 => ?_)
    · have hm := bx_p c2 hm
      refine go_aload_n C dX3_remove_19 rfl 0 rfl (n := 20) rfl ?_
      refine go_get C dX3_remove_20 (xf3_4 q cI σ) rfl inX3 (by decide) fl_X3_32 (n := 23) rfl ?_
      obtain ⟨u3, e4, hm⟩ := bx_b hm
      refine go_callVv C dX3_remove_23 mw_X0_open ml_X3_75 (rest := []) (ktX0_open e4) (xo0 q cI σ) rfl (by decide) rfl rfl (Nat.le_of_ble_eq_true rfl) (n := 26) rfl ?_
      refine go_aload_n C dX3_remove_26 rfl 0 rfl (n := 27) rfl ?_
      refine go_dup C dX3_remove_27 rfl (n := 28) rfl ?_
      refine go_get C dX3_remove_28 (xf3_6 q cI u3) rfl inX3 (by decide) fl_X3_40 (n := 31) rfl ?_
      refine go_iload_n C dX3_remove_31 rfl 1 rfl (n := 32) rfl ?_
      refine go_iconst C dX3_remove_32 (v := (-1 : Int32)) (by decide) (n := 33) rfl ?_
      refine go_ixor C dX3_remove_33 (n := 34) rfl ?_
      refine go_iand C dX3_remove_34 (n := 35) rfl ?_
      obtain ⟨σ5, z6, hm⟩ := bx_lt hm
      refine go_put C dX3_remove_35 (ws' := (bx_xw q cI σ5)) (by rw [z6]; exact (xp3_6 q cI u3 ((u3.1 0 6) &&& (v1 ^^^ (-1 : Int32))))) rfl inX3 tyX3_ok nmX3 (by decide) fl_X3_40 rfl (ty := .int) (by decide +kernel) (by rfl) (by rfl) (n := 38) rfl ?_
      refine go_aload_n C dX3_remove_38 rfl 0 rfl (n := 39) rfl ?_
      obtain ⟨u7, e8, hm⟩ := bx_b hm
      refine go_callVv C dX3_remove_39 mw_X3_rearrange ml_X3_85 (rest := []) (ktX3_rearrange e8) (xo3 q cI σ5) rfl (by decide) rfl rfl (Nat.le_of_ble_eq_true rfl) (n := 42) rfl ?_
      refine go_iload_n C dX3_remove_42 rfl 1 rfl (n := 43) rfl ?_
      refine go_callSi C dX3_remove_43 mw_J6_bitCount_0f7a4 ml_X3_69 (rest := []) (ktJ6_bitCount_0f7a4 rfl) (by decide) rfl rfl (Nat.le_of_ble_eq_true rfl) (n := 46) rfl ?_
      cases hm
      exact go_iret C dX3_remove_46
    · have hm := bx_n c2 hm
      refine go_sipush C dX3_remove_15 (v := (-10003 : Int32)) (by decide) (n := 18) rfl ?_
      cases hm
      exact go_iret C dX3_remove_18
end
