section
variable {p : Program} {l : Launch} {e : Env} {s : State} {m : MethodId} {args : Array Value} {below : List Frame} {meth : Method} {c : Code} {A : Nat → Prop} {D : va_G} {cI cZ : ClassId} {q : Nat → Nat} {ws : va_W}
def mX1_arrange_55 (k0 : Nat) (K12 : Int32 → Int32 → bx_St → Option bx_St) (v1 : Int32) (v3 : Int32) (σ : bx_St) : Option bx_St := (K12 v1 (v3 + 1) σ)
set_option maxRecDepth 8000 in
set_option maxHeartbeats 4000000 in
theorem mX1_arrange_55_ok (C : bx_Cx p s m args meth c 4 A D cI cZ RX1 cX1_arrange none) {k0 : Nat} (hk0 : bx_isL k0) (K12 : Int32 → Int32 → bx_St → Option bx_St) (HK12 : ∀ (v1 : Int32) (v3 : Int32) (σ : bx_St) (u : bx_St), K12 v1 v3 σ = some u → bx_Go p l e (bx_rm 5) s m args below meth c 4 A D (MQ below (bx_Q none (bx_xw q cI u) D A) args s 0 0 A) (bx_xw q cI σ) 12 [(0, .ref (q k0)), (1, .int v1), (3, .int v3)] []) : ∀ (v1 : Int32) (v3 : Int32) (σ : bx_St) (u : bx_St), mX1_arrange_55 k0 K12 v1 v3 σ = some u → bx_Go p l e (bx_rm 5) s m args below meth c 4 A D (MQ below (bx_Q none (bx_xw q cI u) D A) args s 0 0 A) (bx_xw q cI σ) 55 [(0, .ref (q k0)), (1, .int v1), (3, .int v3)] [] := by
  intro v1 v3 σ u hm
  unfold mX1_arrange_55 at hm
  refine go_iinc C (j := 2) dX1_arrange_55 rfl (v := (v3 + 1)) rfl (by decide) (lv' := [(3, .int (v3 + 1)), (0, .ref (q k0)), (1, .int v1)]) rfl (n := 58) rfl ?_
  refine go_goto C 12 dX1_arrange_58 (by decide) ?_
  refine go_lv (lv' := [(0, .ref (q k0)), (1, .int v1), (3, .int (v3 + 1))]) [1, 2, 0] rfl ?_
  exact HK12 _ _ _ _ hm
def mX1_arrange_12 (k0 : Nat) : Nat → Int32 → Int32 → bx_St → Option bx_St
  | 0, _, _, _ => none
  | n + 1, v1, v3, σ => (if (12 : Int32) ≤ v3 then (some σ) else (if bx_ok v3 12 then (bx_let (bx_up σ (k0 + 4) v3.toNatClampNeg (0 : Int32)) fun σ3 => (if (mX3_holds v1 v3) = 0 then (mX1_arrange_55 k0 (mX1_arrange_12 k0 n) v1 v3 σ3) else (Option.bind (mX1_insert k0 (mX1_lowEnd v3) σ3) fun u6 => (Option.bind (mX1_insert k0 (mX1_highEnd v3) u6) fun u8 => (Option.bind (mX1_findMeets k0 v1 v3 u8) fun u10 => (mX1_arrange_55 k0 (mX1_arrange_12 k0 n) v1 v3 u10)))))) else none))
set_option maxRecDepth 8000 in
set_option maxHeartbeats 4000000 in
theorem mX1_arrange_12_ok (C : bx_Cx p s m args meth c 4 A D cI cZ RX1 cX1_arrange none) {k0 : Nat} (hk0 : bx_isL k0) : ∀ (n : Nat) (v1 : Int32) (v3 : Int32) (σ : bx_St) (u : bx_St), mX1_arrange_12 k0 n v1 v3 σ = some u → bx_Go p l e (bx_rm 5) s m args below meth c 4 A D (MQ below (bx_Q none (bx_xw q cI u) D A) args s 0 0 A) (bx_xw q cI σ) 12 [(0, .ref (q k0)), (1, .int v1), (3, .int v3)] [] := by
  intro n
  induction n with
  | zero =>
    intro v1 v3 σ u hm
    cases hm
  | succ n ih =>
    intro v1 v3 σ u hm
    rw [mX1_arrange_12] at hm
    refine go_iload_n C dX1_arrange_12 rfl 2 rfl (n := 13) rfl ?_
    refine go_bipush C dX1_arrange_13 (v := (12 : Int32)) (by decide) (n := 15) rfl ?_
    refine go_icmp_ge C 61 dX1_arrange_15 (by decide) (n := 18) rfl (fun c1 => ?_) (fun c1 => ?_)
    · have hm := bx_p c1 hm
      cases hm
      exact go_vret C dX1_arrange_61
    · have hm := bx_n c1 hm
      refine go_aload_n C dX1_arrange_18 rfl 0 rfl (n := 19) rfl ?_
      refine go_get C dX1_arrange_19 (xf1_3 q cI σ hk0) rfl inX1 (by decide) fl_X1_21 (n := 22) rfl ?_
      refine go_iload_n C dX1_arrange_22 rfl 2 rfl (n := 23) rfl ?_
      refine go_iconst C dX1_arrange_23 (v := (0 : Int32)) (by decide) (n := 24) rfl ?_
      obtain ⟨b2, hm⟩ := bx_g hm
      obtain ⟨σ3, z4, hm⟩ := bx_lt hm
      refine go_iast C dX1_arrange_24 (ws' := (bx_xw q cI σ3)) (by rw [z4]; exact (xul_4 q cI σ hk0 v3 (0 : Int32))) b2 (n := 25) rfl ?_
      refine go_iload_n C dX1_arrange_25 rfl 1 rfl (n := 26) rfl ?_
      refine go_iload_n C dX1_arrange_26 rfl 2 rfl (n := 27) rfl ?_
      refine go_callNi C dX1_arrange_27 mw_X3_holds (fun h => h.1) (rest := []) (ktX3_holds rfl) (by decide) rfl rfl (Nat.le_of_ble_eq_true rfl) (n := 30) rfl ?_
      refine go_if_eq C 55 dX1_arrange_30 (by decide) (n := 33) rfl (fun c5 => ?_) (fun c5 => ?_)
      · have hm := bx_p c5 hm
        refine go_lv (lv' := [(0, .ref (q k0)), (1, .int v1), (3, .int v3)]) [0, 1, 2] rfl ?_
        exact mX1_arrange_55_ok C hk0 _ ih _ _ _ _ hm
      · have hm := bx_n c5 hm
        refine go_aload_n C dX1_arrange_33 rfl 0 rfl (n := 34) rfl ?_
        refine go_iload_n C dX1_arrange_34 rfl 2 rfl (n := 35) rfl ?_
        refine go_callSi C dX1_arrange_35 mw_X1_lowEnd ml_X1_51 (rest := [.ref (q k0)]) (ktX1_lowEnd rfl) (by decide) rfl rfl (Nat.le_of_ble_eq_true rfl) (n := 38) rfl ?_
        obtain ⟨u6, e7, hm⟩ := bx_b hm
        refine go_callVv C dX1_arrange_38 mw_X1_insert ml_X1_54 (rest := []) (ktX1_insert hk0 e7) (xo1 q cI σ3 hk0) rfl (by decide) rfl rfl (Nat.le_of_ble_eq_true rfl) (n := 41) rfl ?_
        refine go_aload_n C dX1_arrange_41 rfl 0 rfl (n := 42) rfl ?_
        refine go_iload_n C dX1_arrange_42 rfl 2 rfl (n := 43) rfl ?_
        refine go_callSi C dX1_arrange_43 mw_X1_highEnd ml_X1_58 (rest := [.ref (q k0)]) (ktX1_highEnd rfl) (by decide) rfl rfl (Nat.le_of_ble_eq_true rfl) (n := 46) rfl ?_
        obtain ⟨u8, e9, hm⟩ := bx_b hm
        refine go_callVv C dX1_arrange_46 mw_X1_insert ml_X1_54 (rest := []) (ktX1_insert hk0 e9) (xo1 q cI u6 hk0) rfl (by decide) rfl rfl (Nat.le_of_ble_eq_true rfl) (n := 49) rfl ?_
        refine go_aload_n C dX1_arrange_49 rfl 0 rfl (n := 50) rfl ?_
        refine go_iload_n C dX1_arrange_50 rfl 1 rfl (n := 51) rfl ?_
        refine go_iload_n C dX1_arrange_51 rfl 2 rfl (n := 52) rfl ?_
        obtain ⟨u10, e11, hm⟩ := bx_b hm
        refine go_callVv C dX1_arrange_52 mw_X1_findMeets ml_X1_61 (rest := []) (ktX1_findMeets hk0 e11) (xo1 q cI u8 hk0) rfl (by decide) rfl rfl (Nat.le_of_ble_eq_true rfl) (n := 55) rfl ?_
        refine go_lv (lv' := [(0, .ref (q k0)), (1, .int v1), (3, .int v3)]) [0, 1, 2] rfl ?_
        exact mX1_arrange_55_ok C hk0 _ ih _ _ _ _ hm
def mX1_arrange (k0 : Nat) (v1 : Int32) (v2 : Int32) (σ : bx_St) : Option bx_St := (if bx_bo v2 then (mX1_arrange_12 k0 bx_F v1 (0 : Int32) (bx_up (bx_up σ k0 5 v2) k0 4 (0 : Int32))) else none)
set_option maxRecDepth 8000 in
set_option maxHeartbeats 4000000 in
theorem ktX1_arrange {l : Launch} {D : va_G} {cI cZ : ClassId} {q : Nat → Nat} {k0 : Nat} (hk0 : bx_isL k0) {v1 : Int32} {v2 : Int32} {σ : bx_St} {u : bx_St} (hm : mX1_arrange k0 v1 v2 σ = some u) : bx_Mt l D cI cZ yX1_arrange cX1_arrange 4 none 5 [.ref (q k0), .int v1, .int v2] (bx_xw q cI σ) none (bx_xw q cI u) := by
  refine bx_mk (by decide) (Nat.le_of_ble_eq_true rfl) (lv := [(0, .ref (q k0)), (1, .int v1), (2, .int v2)]) rfl (fun p e s m args below meth c A C => ?_)
  replace C : bx_Cx p s m args meth c 4 A D cI cZ RX1 cX1_arrange none := C
  unfold mX1_arrange at hm
  refine go_aload_n C dX1_arrange_0 rfl 0 rfl (n := 1) rfl ?_
  refine go_iload_n C dX1_arrange_1 rfl 2 rfl (n := 2) rfl ?_
  obtain ⟨b1, hm⟩ := bx_g hm
  refine go_put C dX1_arrange_2 (xp1_5 q cI σ hk0 v2) rfl inX1 tyX1_ok nmX1 (by decide) fl_X1_28 rfl (ty := .boolean) (by decide +kernel) (bx_nb b1) (bx_fb b1) (n := 5) rfl ?_
  refine go_aload_n C dX1_arrange_5 rfl 0 rfl (n := 6) rfl ?_
  refine go_iconst C dX1_arrange_6 (v := (0 : Int32)) (by decide) (n := 7) rfl ?_
  refine go_put C dX1_arrange_7 (xp1_4 q cI (bx_up σ k0 5 v2) hk0 (0 : Int32)) rfl inX1 tyX1_ok nmX1 (by decide) fl_X1_24 rfl (ty := .int) (by decide +kernel) (by rfl) (by rfl) (n := 10) rfl ?_
  refine go_iconst C dX1_arrange_10 (v := (0 : Int32)) (by decide) (n := 11) rfl ?_
  refine go_istore_n C dX1_arrange_11 rfl (by decide) (lv' := [(3, .int (0 : Int32)), (0, .ref (q k0)), (1, .int v1), (2, .int v2)]) rfl (n := 12) rfl ?_
  refine go_lv (lv' := [(0, .ref (q k0)), (1, .int v1), (3, .int (0 : Int32))]) [1, 2, 0] rfl ?_
  exact mX1_arrange_12_ok C hk0 _ _ _ _ _ hm
def mX1_canShift (k0 : Nat) (v1 : Int32) (v2 : Int32) (σ : bx_St) : Option Int32 := (if bx_ok v1 12 then (if (lg_cmp ((σ.1 (k0 + 1) v1.toNatClampNeg).toInt64 + v2.toInt64) (-999 : Int64)) < 0 then (some (0 : Int32)) else (if bx_ok v1 12 then (if 0 < (lg_cmp ((σ.1 (k0 + 2) v1.toNatClampNeg).toInt64 + v2.toInt64) (999 : Int64)) then (some (0 : Int32)) else (some (1 : Int32))) else none)) else none)
set_option maxRecDepth 8000 in
set_option maxHeartbeats 4000000 in
theorem ktX1_canShift {l : Launch} {D : va_G} {cI cZ : ClassId} {q : Nat → Nat} {k0 : Nat} (hk0 : bx_isL k0) {v1 : Int32} {v2 : Int32} {σ : bx_St} {u : Int32} (hm : mX1_canShift k0 v1 v2 σ = some u) : bx_Mt l D cI cZ yX1_canShift cX1_canShift 3 (some .boolean) 1 [.ref (q k0), .int v1, .int v2] (bx_xw q cI σ) (some (.int u)) (bx_xw q cI σ) := by
  refine bx_mk (by decide) (Nat.le_of_ble_eq_true rfl) (lv := [(0, .ref (q k0)), (1, .int v1), (2, .int v2)]) rfl (fun p e s m args below meth c A C => ?_)
  replace C : bx_Cx p s m args meth c 3 A D cI cZ RX1 cX1_canShift (some .boolean) := C
  unfold mX1_canShift at hm
  refine go_aload_n C dX1_canShift_0 rfl 0 rfl (n := 1) rfl ?_
  refine go_get C dX1_canShift_1 (xf1_0 q cI σ hk0) rfl inX1 (by decide) fl_X1_9 (n := 4) rfl ?_
  refine go_iload_n C dX1_canShift_4 rfl 1 rfl (n := 5) rfl ?_
  obtain ⟨b1, hm⟩ := bx_g hm
  refine go_iald C dX1_canShift_5 (xal_1 q cI σ hk0) b1 (n := 6) rfl ?_
  refine go_i2l C dX1_canShift_6 (n := 7) rfl ?_
  refine go_iload_n C dX1_canShift_7 rfl 2 rfl (n := 8) rfl ?_
  refine go_i2l C dX1_canShift_8 (n := 9) rfl ?_
  refine go_ladd C dX1_canShift_9 (n := 10) rfl ?_
  refine go_ldc2 C dX1_canShift_10 (v := (-999 : Int64)) kc_X1_43 (n := 13) rfl ?_
  refine go_lcmp C dX1_canShift_13 (n := 14) rfl ?_
  refine go_if_lt C 38 dX1_canShift_14 (by decide) (n := 17) rfl (fun c2 => ?_) (fun c2 => ?_)
  · have hm := bx_p c2 hm
    refine go_iconst C dX1_canShift_38 (v := (0 : Int32)) (by decide) (n := 39) rfl ?_
    cases hm
    exact go_zret C dX1_canShift_39 (Or.inl rfl)
  · have hm := bx_n c2 hm
    refine go_aload_n C dX1_canShift_17 rfl 0 rfl (n := 18) rfl ?_
    refine go_get C dX1_canShift_18 (xf1_1 q cI σ hk0) rfl inX1 (by decide) fl_X1_15 (n := 21) rfl ?_
    refine go_iload_n C dX1_canShift_21 rfl 1 rfl (n := 22) rfl ?_
    obtain ⟨b3, hm⟩ := bx_g hm
    refine go_iald C dX1_canShift_22 (xal_2 q cI σ hk0) b3 (n := 23) rfl ?_
    refine go_i2l C dX1_canShift_23 (n := 24) rfl ?_
    refine go_iload_n C dX1_canShift_24 rfl 2 rfl (n := 25) rfl ?_
    refine go_i2l C dX1_canShift_25 (n := 26) rfl ?_
    refine go_ladd C dX1_canShift_26 (n := 27) rfl ?_
    refine go_ldc2 C dX1_canShift_27 (v := (999 : Int64)) kc_X1_45 (n := 30) rfl ?_
    refine go_lcmp C dX1_canShift_30 (n := 31) rfl ?_
    refine go_if_gt C 38 dX1_canShift_31 (by decide) (n := 34) rfl (fun c4 => ?_) (fun c4 => ?_)
    · have hm := bx_p c4 hm
      refine go_iconst C dX1_canShift_38 (v := (0 : Int32)) (by decide) (n := 39) rfl ?_
      cases hm
      exact go_zret C dX1_canShift_39 (Or.inl rfl)
    · have hm := bx_n c4 hm
      refine go_iconst C dX1_canShift_34 (v := (1 : Int32)) (by decide) (n := 35) rfl ?_
      refine go_goto C 39 dX1_canShift_35 (by decide) ?_
      cases hm
      exact go_zret C dX1_canShift_39 (Or.inr rfl)
def mX1_distanceToTurn_98 (k0 : Nat) (s0 : Int32) (σ : bx_St) : Option Int32 := (if (σ.1 k0 5) = 0 then (some (s0 + (1 : Int32))) else (some s0))
set_option maxRecDepth 8000 in
set_option maxHeartbeats 4000000 in
theorem mX1_distanceToTurn_98_ok (C : bx_Cx p s m args meth c 5 A D cI cZ RX1 cX1_distanceToTurn (some .int)) {k0 : Nat} (hk0 : bx_isL k0) : ∀ (s0 : Int32) (σ : bx_St) (u : Int32), mX1_distanceToTurn_98 k0 s0 σ = some u → bx_Go p l e (bx_rm 3) s m args below meth c 5 A D (MQ below (bx_Q (some (.int u)) (bx_xw q cI σ) D A) args s 0 0 A) (bx_xw q cI σ) 98 [(0, .ref (q k0))] [.int s0] := by
  intro s0 σ u hm
  unfold mX1_distanceToTurn_98 at hm
  refine go_istore C dX1_distanceToTurn_98 (by decide) (lv' := [(4, .int s0), (0, .ref (q k0))]) rfl (n := 100) rfl ?_
  refine go_aload_n C dX1_distanceToTurn_100 rfl 1 rfl (n := 101) rfl ?_
  refine go_get C dX1_distanceToTurn_101 (xf1_5 q cI σ hk0) rfl inX1 (by decide) fl_X1_28 (n := 104) rfl ?_
  refine go_if_eq C 112 dX1_distanceToTurn_104 (by decide) (n := 107) rfl (fun c1 => ?_) (fun c1 => ?_)
  · have hm := bx_p c1 hm
    refine go_iload C dX1_distanceToTurn_112 0 rfl (n := 114) rfl ?_
    refine go_iconst C dX1_distanceToTurn_114 (v := (1 : Int32)) (by decide) (n := 115) rfl ?_
    refine go_iadd C dX1_distanceToTurn_115 (n := 116) rfl ?_
    cases hm
    exact go_iret C dX1_distanceToTurn_116
  · have hm := bx_n c1 hm
    refine go_iload C dX1_distanceToTurn_107 0 rfl (n := 109) rfl ?_
    refine go_goto C 116 dX1_distanceToTurn_109 (by decide) ?_
    cases hm
    exact go_iret C dX1_distanceToTurn_116
def mX1_distanceToTurn_46 (k0 : Nat) (s0 : Int32) (σ : bx_St) : Option Int32 := (if (σ.1 k0 5) = 0 then (some s0) else (some (s0 + (1 : Int32))))
set_option maxRecDepth 8000 in
set_option maxHeartbeats 4000000 in
theorem mX1_distanceToTurn_46_ok (C : bx_Cx p s m args meth c 5 A D cI cZ RX1 cX1_distanceToTurn (some .int)) {k0 : Nat} (hk0 : bx_isL k0) : ∀ (s0 : Int32) (σ : bx_St) (u : Int32), mX1_distanceToTurn_46 k0 s0 σ = some u → bx_Go p l e (bx_rm 3) s m args below meth c 5 A D (MQ below (bx_Q (some (.int u)) (bx_xw q cI σ) D A) args s 0 0 A) (bx_xw q cI σ) 46 [(0, .ref (q k0))] [.int s0] := by
  intro s0 σ u hm
  unfold mX1_distanceToTurn_46 at hm
  refine go_istore C dX1_distanceToTurn_46 (by decide) (lv' := [(4, .int s0), (0, .ref (q k0))]) rfl (n := 48) rfl ?_
  refine go_aload_n C dX1_distanceToTurn_48 rfl 1 rfl (n := 49) rfl ?_
  refine go_get C dX1_distanceToTurn_49 (xf1_5 q cI σ hk0) rfl inX1 (by decide) fl_X1_28 (n := 52) rfl ?_
  refine go_if_eq C 62 dX1_distanceToTurn_52 (by decide) (n := 55) rfl (fun c1 => ?_) (fun c1 => ?_)
  · have hm := bx_p c1 hm
    refine go_iload C dX1_distanceToTurn_62 0 rfl (n := 64) rfl ?_
    cases hm
    exact go_iret C dX1_distanceToTurn_64
  · have hm := bx_n c1 hm
    refine go_iload C dX1_distanceToTurn_55 0 rfl (n := 57) rfl ?_
    refine go_iconst C dX1_distanceToTurn_57 (v := (1 : Int32)) (by decide) (n := 58) rfl ?_
    refine go_iadd C dX1_distanceToTurn_58 (n := 59) rfl ?_
    refine go_goto C 64 dX1_distanceToTurn_59 (by decide) ?_
    cases hm
    exact go_iret C dX1_distanceToTurn_64
def mX1_distanceToTurn (k0 : Nat) (v1 : Int32) (v2 : Int32) (v3 : Int32) (σ : bx_St) : Option Int32 := (if bx_ok v1 12 then (if (mX3_holds (σ.1 (k0 + 4) v1.toNatClampNeg) v2) = 0 then (if v3 ≤ 0 then (if bx_ok v1 12 then (if bx_ok v2 12 then (mX1_distanceToTurn_98 k0 ((σ.1 (k0 + 1) v1.toNatClampNeg) - (σ.1 (k0 + 2) v2.toNatClampNeg)) σ) else none) else none) else (if bx_ok v2 12 then (if bx_ok v1 12 then (mX1_distanceToTurn_98 k0 ((σ.1 (k0 + 1) v2.toNatClampNeg) - (σ.1 (k0 + 2) v1.toNatClampNeg)) σ) else none) else none)) else (if v3 ≤ 0 then (if bx_ok v1 12 then (if bx_ok v2 12 then (mX1_distanceToTurn_46 k0 ((σ.1 (k0 + 2) v1.toNatClampNeg) - (σ.1 (k0 + 1) v2.toNatClampNeg)) σ) else none) else none) else (if bx_ok v2 12 then (if bx_ok v1 12 then (mX1_distanceToTurn_46 k0 ((σ.1 (k0 + 2) v2.toNatClampNeg) - (σ.1 (k0 + 1) v1.toNatClampNeg)) σ) else none) else none))) else none)
set_option maxRecDepth 8000 in
set_option maxHeartbeats 4000000 in
theorem ktX1_distanceToTurn {l : Launch} {D : va_G} {cI cZ : ClassId} {q : Nat → Nat} {k0 : Nat} (hk0 : bx_isL k0) {v1 : Int32} {v2 : Int32} {v3 : Int32} {σ : bx_St} {u : Int32} (hm : mX1_distanceToTurn k0 v1 v2 v3 σ = some u) : bx_Mt l D cI cZ yX1_distanceToTurn cX1_distanceToTurn 5 (some .int) 3 [.ref (q k0), .int v1, .int v2, .int v3] (bx_xw q cI σ) (some (.int u)) (bx_xw q cI σ) := by
  refine bx_mk (by decide) (Nat.le_of_ble_eq_true rfl) (lv := [(0, .ref (q k0)), (1, .int v1), (2, .int v2), (3, .int v3)]) rfl (fun p e s m args below meth c A C => ?_)
  replace C : bx_Cx p s m args meth c 5 A D cI cZ RX1 cX1_distanceToTurn (some .int) := C
  unfold mX1_distanceToTurn at hm
  refine go_aload_n C dX1_distanceToTurn_0 rfl 0 rfl (n := 1) rfl ?_
  refine go_get C dX1_distanceToTurn_1 (xf1_3 q cI σ hk0) rfl inX1 (by decide) fl_X1_21 (n := 4) rfl ?_
  refine go_iload_n C dX1_distanceToTurn_4 rfl 1 rfl (n := 5) rfl ?_
  obtain ⟨b1, hm⟩ := bx_g hm
  refine go_iald C dX1_distanceToTurn_5 (xal_4 q cI σ hk0) b1 (n := 6) rfl ?_
  refine go_iload_n C dX1_distanceToTurn_6 rfl 2 rfl (n := 7) rfl ?_
  refine go_callNi C dX1_distanceToTurn_7 mw_X3_holds (fun h => h.1) (rest := []) (ktX3_holds rfl) (by decide) rfl rfl (Nat.le_of_ble_eq_true rfl) (n := 10) rfl ?_
  refine go_if_eq C 65 dX1_distanceToTurn_10 (by decide) (n := 13) rfl (fun c2 => ?_) (fun c2 => ?_)
  · have hm := bx_p c2 hm
    refine go_iload_n C dX1_distanceToTurn_65 rfl 3 rfl (n := 66) rfl ?_
    refine go_if_le C 85 dX1_distanceToTurn_66 (by decide) (n := 69) rfl (fun c3 => ?_) (fun c3 => ?_)
    · have hm := bx_p c3 hm
      refine go_aload_n C dX1_distanceToTurn_85 rfl 0 rfl (n := 86) rfl ?_
      refine go_get C dX1_distanceToTurn_86 (xf1_0 q cI σ hk0) rfl inX1 (by decide) fl_X1_9 (n := 89) rfl ?_
      refine go_iload_n C dX1_distanceToTurn_89 rfl 1 rfl (n := 90) rfl ?_
      obtain ⟨b4, hm⟩ := bx_g hm
      refine go_iald C dX1_distanceToTurn_90 (xal_1 q cI σ hk0) b4 (n := 91) rfl ?_
      refine go_aload_n C dX1_distanceToTurn_91 rfl 0 rfl (n := 92) rfl ?_
      refine go_get C dX1_distanceToTurn_92 (xf1_1 q cI σ hk0) rfl inX1 (by decide) fl_X1_15 (n := 95) rfl ?_
      refine go_iload_n C dX1_distanceToTurn_95 rfl 2 rfl (n := 96) rfl ?_
      obtain ⟨b5, hm⟩ := bx_g hm
      refine go_iald C dX1_distanceToTurn_96 (xal_2 q cI σ hk0) b5 (n := 97) rfl ?_
      refine go_isub C dX1_distanceToTurn_97 (n := 98) rfl ?_
      refine go_lv (lv' := [(0, .ref (q k0))]) [0] rfl ?_
      exact mX1_distanceToTurn_98_ok C hk0 _ _ _ hm
    · have hm := bx_n c3 hm
      refine go_aload_n C dX1_distanceToTurn_69 rfl 0 rfl (n := 70) rfl ?_
      refine go_get C dX1_distanceToTurn_70 (xf1_0 q cI σ hk0) rfl inX1 (by decide) fl_X1_9 (n := 73) rfl ?_
      refine go_iload_n C dX1_distanceToTurn_73 rfl 2 rfl (n := 74) rfl ?_
      obtain ⟨b6, hm⟩ := bx_g hm
      refine go_iald C dX1_distanceToTurn_74 (xal_1 q cI σ hk0) b6 (n := 75) rfl ?_
      refine go_aload_n C dX1_distanceToTurn_75 rfl 0 rfl (n := 76) rfl ?_
      refine go_get C dX1_distanceToTurn_76 (xf1_1 q cI σ hk0) rfl inX1 (by decide) fl_X1_15 (n := 79) rfl ?_
      refine go_iload_n C dX1_distanceToTurn_79 rfl 1 rfl (n := 80) rfl ?_
      obtain ⟨b7, hm⟩ := bx_g hm
      refine go_iald C dX1_distanceToTurn_80 (xal_2 q cI σ hk0) b7 (n := 81) rfl ?_
      refine go_isub C dX1_distanceToTurn_81 (n := 82) rfl ?_
      refine go_goto C 98 dX1_distanceToTurn_82 (by decide) ?_
      refine go_lv (lv' := [(0, .ref (q k0))]) [0] rfl ?_
      exact mX1_distanceToTurn_98_ok C hk0 _ _ _ hm
  · have hm := bx_n c2 hm
    refine go_iload_n C dX1_distanceToTurn_13 rfl 3 rfl (n := 14) rfl ?_
    refine go_if_le C 33 dX1_distanceToTurn_14 (by decide) (n := 17) rfl (fun c8 => ?_) (fun c8 => ?_)
    · have hm := bx_p c8 hm
      refine go_aload_n C dX1_distanceToTurn_33 rfl 0 rfl (n := 34) rfl ?_
      refine go_get C dX1_distanceToTurn_34 (xf1_1 q cI σ hk0) rfl inX1 (by decide) fl_X1_15 (n := 37) rfl ?_
      refine go_iload_n C dX1_distanceToTurn_37 rfl 1 rfl (n := 38) rfl ?_
      obtain ⟨b9, hm⟩ := bx_g hm
      refine go_iald C dX1_distanceToTurn_38 (xal_2 q cI σ hk0) b9 (n := 39) rfl ?_
      refine go_aload_n C dX1_distanceToTurn_39 rfl 0 rfl (n := 40) rfl ?_
      refine go_get C dX1_distanceToTurn_40 (xf1_0 q cI σ hk0) rfl inX1 (by decide) fl_X1_9 (n := 43) rfl ?_
      refine go_iload_n C dX1_distanceToTurn_43 rfl 2 rfl (n := 44) rfl ?_
      obtain ⟨b10, hm⟩ := bx_g hm
      refine go_iald C dX1_distanceToTurn_44 (xal_1 q cI σ hk0) b10 (n := 45) rfl ?_
      refine go_isub C dX1_distanceToTurn_45 (n := 46) rfl ?_
      refine go_lv (lv' := [(0, .ref (q k0))]) [0] rfl ?_
      exact mX1_distanceToTurn_46_ok C hk0 _ _ _ hm
    · have hm := bx_n c8 hm
      refine go_aload_n C dX1_distanceToTurn_17 rfl 0 rfl (n := 18) rfl ?_
      refine go_get C dX1_distanceToTurn_18 (xf1_1 q cI σ hk0) rfl inX1 (by decide) fl_X1_15 (n := 21) rfl ?_
      refine go_iload_n C dX1_distanceToTurn_21 rfl 2 rfl (n := 22) rfl ?_
      obtain ⟨b11, hm⟩ := bx_g hm
      refine go_iald C dX1_distanceToTurn_22 (xal_2 q cI σ hk0) b11 (n := 23) rfl ?_
      refine go_aload_n C dX1_distanceToTurn_23 rfl 0 rfl (n := 24) rfl ?_
      refine go_get C dX1_distanceToTurn_24 (xf1_0 q cI σ hk0) rfl inX1 (by decide) fl_X1_9 (n := 27) rfl ?_
      refine go_iload_n C dX1_distanceToTurn_27 rfl 1 rfl (n := 28) rfl ?_
      obtain ⟨b12, hm⟩ := bx_g hm
      refine go_iald C dX1_distanceToTurn_28 (xal_1 q cI σ hk0) b12 (n := 29) rfl ?_
      refine go_isub C dX1_distanceToTurn_29 (n := 30) rfl ?_
      refine go_goto C 46 dX1_distanceToTurn_30 (by decide) ?_
      refine go_lv (lv' := [(0, .ref (q k0))]) [0] rfl ?_
      exact mX1_distanceToTurn_46_ok C hk0 _ _ _ hm
def mX1_placeOf_2 (k0 : Nat) : Nat → Int32 → Int32 → bx_St → Option Int32
  | 0, _, _, _ => none
  | n + 1, v1, v2, σ => (if ((σ.1 k0 4) - (1 : Int32)) ≤ v2 then (some v2) else (if bx_ok v2 24 then (if (σ.1 (k0 + 3) v2.toNatClampNeg) = v1 then (some v2) else (mX1_placeOf_2 k0 n v1 (v2 + 1) σ)) else none))
set_option maxRecDepth 8000 in
set_option maxHeartbeats 4000000 in
theorem mX1_placeOf_2_ok (C : bx_Cx p s m args meth c 3 A D cI cZ RX1 cX1_placeOf (some .int)) {k0 : Nat} (hk0 : bx_isL k0) : ∀ (n : Nat) (v1 : Int32) (v2 : Int32) (σ : bx_St) (u : Int32), mX1_placeOf_2 k0 n v1 v2 σ = some u → bx_Go p l e (bx_rm 1) s m args below meth c 3 A D (MQ below (bx_Q (some (.int u)) (bx_xw q cI σ) D A) args s 0 0 A) (bx_xw q cI σ) 2 [(0, .ref (q k0)), (1, .int v1), (2, .int v2)] [] := by
  intro n
  induction n with
  | zero =>
    intro v1 v2 σ u hm
    cases hm
  | succ n ih =>
    intro v1 v2 σ u hm
    rw [mX1_placeOf_2] at hm
    refine go_iload_n C dX1_placeOf_2 rfl 2 rfl (n := 3) rfl ?_
    refine go_aload_n C dX1_placeOf_3 rfl 0 rfl (n := 4) rfl ?_
    refine go_get C dX1_placeOf_4 (xf1_4 q cI σ hk0) rfl inX1 (by decide) fl_X1_24 (n := 7) rfl ?_
    refine go_iconst C dX1_placeOf_7 (v := (1 : Int32)) (by decide) (n := 8) rfl ?_
    refine go_isub C dX1_placeOf_8 (n := 9) rfl ?_
    refine go_icmp_ge C 28 dX1_placeOf_9 (by decide) (n := 12) rfl (fun c1 => ?_) (fun c1 => ?_)
    · have hm := bx_p c1 hm
      refine go_iload_n C dX1_placeOf_28 rfl 2 rfl (n := 29) rfl ?_
      cases hm
      exact go_iret C dX1_placeOf_29
    · have hm := bx_n c1 hm
      refine go_aload_n C dX1_placeOf_12 rfl 0 rfl (n := 13) rfl ?_
      refine go_get C dX1_placeOf_13 (xf1_2 q cI σ hk0) rfl inX1 (by decide) fl_X1_18 (n := 16) rfl ?_
      refine go_iload_n C dX1_placeOf_16 rfl 2 rfl (n := 17) rfl ?_
      obtain ⟨b2, hm⟩ := bx_g hm
      refine go_iald C dX1_placeOf_17 (xal_3 q cI σ hk0) b2 (n := 18) rfl ?_
      refine go_iload_n C dX1_placeOf_18 rfl 1 rfl (n := 19) rfl ?_
      refine go_icmp_eq C 28 dX1_placeOf_19 (by decide) (n := 22) rfl (fun c3 => ?_) (fun c3 => ?_)
      · have hm := bx_p c3 hm
        refine go_iload_n C dX1_placeOf_28 rfl 2 rfl (n := 29) rfl ?_
        cases hm
        exact go_iret C dX1_placeOf_29
      · have hm := bx_n c3 hm
        refine go_iinc C (j := 2) dX1_placeOf_22 rfl (v := (v2 + 1)) rfl (by decide) (lv' := [(2, .int (v2 + 1)), (0, .ref (q k0)), (1, .int v1)]) rfl (n := 25) rfl ?_
        refine go_goto C 2 dX1_placeOf_25 (by decide) ?_
        refine go_lv (lv' := [(0, .ref (q k0)), (1, .int v1), (2, .int (v2 + 1))]) [1, 2, 0] rfl ?_
        exact ih _ _ _ _ hm
def mX1_placeOf (k0 : Nat) (v1 : Int32) (σ : bx_St) : Option Int32 := (mX1_placeOf_2 k0 bx_F v1 (0 : Int32) σ)
set_option maxRecDepth 8000 in
set_option maxHeartbeats 4000000 in
theorem ktX1_placeOf {l : Launch} {D : va_G} {cI cZ : ClassId} {q : Nat → Nat} {k0 : Nat} (hk0 : bx_isL k0) {v1 : Int32} {σ : bx_St} {u : Int32} (hm : mX1_placeOf k0 v1 σ = some u) : bx_Mt l D cI cZ yX1_placeOf cX1_placeOf 3 (some .int) 1 [.ref (q k0), .int v1] (bx_xw q cI σ) (some (.int u)) (bx_xw q cI σ) := by
  refine bx_mk (by decide) (Nat.le_of_ble_eq_true rfl) (lv := [(0, .ref (q k0)), (1, .int v1)]) rfl (fun p e s m args below meth c A C => ?_)
  replace C : bx_Cx p s m args meth c 3 A D cI cZ RX1 cX1_placeOf (some .int) := C
  unfold mX1_placeOf at hm
  refine go_iconst C dX1_placeOf_0 (v := (0 : Int32)) (by decide) (n := 1) rfl ?_
  refine go_istore_n C dX1_placeOf_1 rfl (by decide) (lv' := [(2, .int (0 : Int32)), (0, .ref (q k0)), (1, .int v1)]) rfl (n := 2) rfl ?_
  refine go_lv (lv' := [(0, .ref (q k0)), (1, .int v1), (2, .int (0 : Int32))]) [1, 2, 0] rfl ?_
  exact mX1_placeOf_2_ok C hk0 _ _ _ _ _ hm
def mX1_room (k0 : Nat) (v1 : Int32) (v2 : Int32) (σ : bx_St) : Option Int32 := (if v2 ≤ 0 then (if bx_ok v1 12 then (some ((σ.1 (k0 + 1) v1.toNatClampNeg) + (999 : Int32))) else none) else (if bx_ok v1 12 then (some ((999 : Int32) - (σ.1 (k0 + 2) v1.toNatClampNeg))) else none))
set_option maxRecDepth 8000 in
set_option maxHeartbeats 4000000 in
theorem ktX1_room {l : Launch} {D : va_G} {cI cZ : ClassId} {q : Nat → Nat} {k0 : Nat} (hk0 : bx_isL k0) {v1 : Int32} {v2 : Int32} {σ : bx_St} {u : Int32} (hm : mX1_room k0 v1 v2 σ = some u) : bx_Mt l D cI cZ yX1_room cX1_room 3 (some .int) 1 [.ref (q k0), .int v1, .int v2] (bx_xw q cI σ) (some (.int u)) (bx_xw q cI σ) := by
  refine bx_mk (by decide) (Nat.le_of_ble_eq_true rfl) (lv := [(0, .ref (q k0)), (1, .int v1), (2, .int v2)]) rfl (fun p e s m args below meth c A C => ?_)
  replace C : bx_Cx p s m args meth c 3 A D cI cZ RX1 cX1_room (some .int) := C
  unfold mX1_room at hm
  refine go_iload_n C dX1_room_0 rfl 2 rfl (n := 1) rfl ?_
  refine go_if_le C 17 dX1_room_1 (by decide) (n := 4) rfl (fun c1 => ?_) (fun c1 => ?_)
  · have hm := bx_p c1 hm
    refine go_aload_n C dX1_room_17 rfl 0 rfl (n := 18) rfl ?_
    refine go_get C dX1_room_18 (xf1_0 q cI σ hk0) rfl inX1 (by decide) fl_X1_9 (n := 21) rfl ?_
    refine go_iload_n C dX1_room_21 rfl 1 rfl (n := 22) rfl ?_
    obtain ⟨b2, hm⟩ := bx_g hm
    refine go_iald C dX1_room_22 (xal_1 q cI σ hk0) b2 (n := 23) rfl ?_
    refine go_sipush C dX1_room_23 (v := (999 : Int32)) (by decide) (n := 26) rfl ?_
    refine go_iadd C dX1_room_26 (n := 27) rfl ?_
    cases hm
    exact go_iret C dX1_room_27
  · have hm := bx_n c1 hm
    refine go_sipush C dX1_room_4 (v := (999 : Int32)) (by decide) (n := 7) rfl ?_
    refine go_aload_n C dX1_room_7 rfl 0 rfl (n := 8) rfl ?_
    refine go_get C dX1_room_8 (xf1_1 q cI σ hk0) rfl inX1 (by decide) fl_X1_15 (n := 11) rfl ?_
    refine go_iload_n C dX1_room_11 rfl 1 rfl (n := 12) rfl ?_
    obtain ⟨b3, hm⟩ := bx_g hm
    refine go_iald C dX1_room_12 (xal_2 q cI σ hk0) b3 (n := 13) rfl ?_
    refine go_isub C dX1_room_13 (n := 14) rfl ?_
    refine go_goto C 27 dX1_room_14 (by decide) ?_
    cases hm
    exact go_iret C dX1_room_27
def mX1_sideToGo_33 (k0 : Nat) (v1 : Int32) (σ : bx_St) : Option Int32 := (if v1 ≤ 0 then (some (0 : Int32)) else (if bx_ok v1 24 then (if bx_ok (v1 - (1 : Int32)) 24 then (Option.bind (mX1_isAhead k0 (σ.1 (k0 + 3) v1.toNatClampNeg) (σ.1 (k0 + 3) (v1 - (1 : Int32)).toNatClampNeg) σ) fun u4 => (if u4 = 0 then (some (0 : Int32)) else (some (-1 : Int32)))) else none) else none))
set_option maxRecDepth 8000 in
set_option maxHeartbeats 4000000 in
theorem mX1_sideToGo_33_ok (C : bx_Cx p s m args meth c 2 A D cI cZ RX1 cX1_sideToGo (some .int)) {k0 : Nat} (hk0 : bx_isL k0) : ∀ (v1 : Int32) (σ : bx_St) (u : Int32), mX1_sideToGo_33 k0 v1 σ = some u → bx_Go p l e (bx_rm 4) s m args below meth c 2 A D (MQ below (bx_Q (some (.int u)) (bx_xw q cI σ) D A) args s 0 0 A) (bx_xw q cI σ) 33 [(0, .ref (q k0)), (1, .int v1)] [] := by
  intro v1 σ u hm
  unfold mX1_sideToGo_33 at hm
  refine go_iload_n C dX1_sideToGo_33 rfl 1 rfl (n := 34) rfl ?_
  refine go_if_le C 60 dX1_sideToGo_34 (by decide) (n := 37) rfl (fun c1 => ?_) (fun c1 => ?_)
  · have hm := bx_p c1 hm
    refine go_iconst C dX1_sideToGo_60 (v := (0 : Int32)) (by decide) (n := 61) rfl ?_
    cases hm
    exact go_iret C dX1_sideToGo_61
  · have hm := bx_n c1 hm
    refine go_aload_n C dX1_sideToGo_37 rfl 0 rfl (n := 38) rfl ?_
    refine go_aload_n C dX1_sideToGo_38 rfl 0 rfl (n := 39) rfl ?_
    refine go_get C dX1_sideToGo_39 (xf1_2 q cI σ hk0) rfl inX1 (by decide) fl_X1_18 (n := 42) rfl ?_
    refine go_iload_n C dX1_sideToGo_42 rfl 1 rfl (n := 43) rfl ?_
    obtain ⟨b2, hm⟩ := bx_g hm
    refine go_iald C dX1_sideToGo_43 (xal_3 q cI σ hk0) b2 (n := 44) rfl ?_
    refine go_aload_n C dX1_sideToGo_44 rfl 0 rfl (n := 45) rfl ?_
    refine go_get C dX1_sideToGo_45 (xf1_2 q cI σ hk0) rfl inX1 (by decide) fl_X1_18 (n := 48) rfl ?_
    refine go_iload_n C dX1_sideToGo_48 rfl 1 rfl (n := 49) rfl ?_
    refine go_iconst C dX1_sideToGo_49 (v := (1 : Int32)) (by decide) (n := 50) rfl ?_
    refine go_isub C dX1_sideToGo_50 (n := 51) rfl ?_
    obtain ⟨b3, hm⟩ := bx_g hm
    refine go_iald C dX1_sideToGo_51 (xal_3 q cI σ hk0) b3 (n := 52) rfl ?_
    obtain ⟨u4, e5, hm⟩ := bx_b hm
    refine go_callVi C dX1_sideToGo_52 mw_X1_isAhead ml_X1_65 (rest := []) (ktX1_isAhead hk0 e5) (xo1 q cI σ hk0) rfl (by decide) rfl rfl (Nat.le_of_ble_eq_true rfl) (n := 55) rfl ?_
    refine go_if_eq C 60 dX1_sideToGo_55 (by decide) (n := 58) rfl (fun c6 => ?_) (fun c6 => ?_)
    · have hm := bx_p c6 hm
      refine go_iconst C dX1_sideToGo_60 (v := (0 : Int32)) (by decide) (n := 61) rfl ?_
      cases hm
      exact go_iret C dX1_sideToGo_61
    · have hm := bx_n c6 hm
      refine go_iconst C dX1_sideToGo_58 (v := (-1 : Int32)) (by decide) (n := 59) rfl ?_
      cases hm
      exact go_iret C dX1_sideToGo_59
def mX1_sideToGo (k0 : Nat) (v1 : Int32) (σ : bx_St) : Option Int32 := (if (σ.1 k0 4) ≤ (v1 + (1 : Int32)) then (mX1_sideToGo_33 k0 v1 σ) else (if bx_ok (v1 + (1 : Int32)) 24 then (if bx_ok v1 24 then (Option.bind (mX1_isAhead k0 (σ.1 (k0 + 3) (v1 + (1 : Int32)).toNatClampNeg) (σ.1 (k0 + 3) v1.toNatClampNeg) σ) fun u4 => (if u4 = 0 then (mX1_sideToGo_33 k0 v1 σ) else (some (1 : Int32)))) else none) else none))
set_option maxRecDepth 8000 in
set_option maxHeartbeats 4000000 in
theorem ktX1_sideToGo {l : Launch} {D : va_G} {cI cZ : ClassId} {q : Nat → Nat} {k0 : Nat} (hk0 : bx_isL k0) {v1 : Int32} {σ : bx_St} {u : Int32} (hm : mX1_sideToGo k0 v1 σ = some u) : bx_Mt l D cI cZ yX1_sideToGo cX1_sideToGo 2 (some .int) 4 [.ref (q k0), .int v1] (bx_xw q cI σ) (some (.int u)) (bx_xw q cI σ) := by
  refine bx_mk (by decide) (Nat.le_of_ble_eq_true rfl) (lv := [(0, .ref (q k0)), (1, .int v1)]) rfl (fun p e s m args below meth c A C => ?_)
  replace C : bx_Cx p s m args meth c 2 A D cI cZ RX1 cX1_sideToGo (some .int) := C
  unfold mX1_sideToGo at hm
  refine go_iload_n C dX1_sideToGo_0 rfl 1 rfl (n := 1) rfl ?_
  refine go_iconst C dX1_sideToGo_1 (v := (1 : Int32)) (by decide) (n := 2) rfl ?_
  refine go_iadd C dX1_sideToGo_2 (n := 3) rfl ?_
  refine go_aload_n C dX1_sideToGo_3 rfl 0 rfl (n := 4) rfl ?_
  refine go_get C dX1_sideToGo_4 (xf1_4 q cI σ hk0) rfl inX1 (by decide) fl_X1_24 (n := 7) rfl ?_
  refine go_icmp_ge C 33 dX1_sideToGo_7 (by decide) (n := 10) rfl (fun c1 => ?_) (fun c1 => ?_)
  · have hm := bx_p c1 hm
    refine go_lv (lv' := [(0, .ref (q k0)), (1, .int v1)]) [0, 1] rfl ?_
    exact mX1_sideToGo_33_ok C hk0 _ _ _ hm
  · have hm := bx_n c1 hm
    refine go_aload_n C dX1_sideToGo_10 rfl 0 rfl (n := 11) rfl ?_
    refine go_aload_n C dX1_sideToGo_11 rfl 0 rfl (n := 12) rfl ?_
    refine go_get C dX1_sideToGo_12 (xf1_2 q cI σ hk0) rfl inX1 (by decide) fl_X1_18 (n := 15) rfl ?_
    refine go_iload_n C dX1_sideToGo_15 rfl 1 rfl (n := 16) rfl ?_
    refine go_iconst C dX1_sideToGo_16 (v := (1 : Int32)) (by decide) (n := 17) rfl ?_
    refine go_iadd C dX1_sideToGo_17 (n := 18) rfl ?_
    obtain ⟨b2, hm⟩ := bx_g hm
    refine go_iald C dX1_sideToGo_18 (xal_3 q cI σ hk0) b2 (n := 19) rfl ?_
    refine go_aload_n C dX1_sideToGo_19 rfl 0 rfl (n := 20) rfl ?_
    refine go_get C dX1_sideToGo_20 (xf1_2 q cI σ hk0) rfl inX1 (by decide) fl_X1_18 (n := 23) rfl ?_
    refine go_iload_n C dX1_sideToGo_23 rfl 1 rfl (n := 24) rfl ?_
    obtain ⟨b3, hm⟩ := bx_g hm
    refine go_iald C dX1_sideToGo_24 (xal_3 q cI σ hk0) b3 (n := 25) rfl ?_
    obtain ⟨u4, e5, hm⟩ := bx_b hm
    refine go_callVi C dX1_sideToGo_25 mw_X1_isAhead ml_X1_65 (rest := []) (ktX1_isAhead hk0 e5) (xo1 q cI σ hk0) rfl (by decide) rfl rfl (Nat.le_of_ble_eq_true rfl) (n := 28) rfl ?_
    refine go_if_eq C 33 dX1_sideToGo_28 (by decide) (n := 31) rfl (fun c6 => ?_) (fun c6 => ?_)
    · have hm := bx_p c6 hm
      refine go_lv (lv' := [(0, .ref (q k0)), (1, .int v1)]) [0, 1] rfl ?_
      exact mX1_sideToGo_33_ok C hk0 _ _ _ hm
    · have hm := bx_n c6 hm
      refine go_iconst C dX1_sideToGo_31 (v := (1 : Int32)) (by decide) (n := 32) rfl ?_
      cases hm
      exact go_iret C dX1_sideToGo_32
def mX1_swapWithNext (k0 : Nat) (v1 : Int32) (σ : bx_St) : Option bx_St := (if bx_ok v1 24 then (if bx_ok (v1 + (1 : Int32)) 24 then (if bx_ok v1 24 then (bx_let (bx_up σ (k0 + 3) v1.toNatClampNeg (σ.1 (k0 + 3) (v1 + (1 : Int32)).toNatClampNeg)) fun σ4 => (if bx_ok (v1 + (1 : Int32)) 24 then (bx_let (bx_up σ4 (k0 + 3) (v1 + (1 : Int32)).toNatClampNeg (σ.1 (k0 + 3) v1.toNatClampNeg)) fun σ7 => (some σ7)) else none)) else none) else none) else none)
set_option maxRecDepth 8000 in
set_option maxHeartbeats 4000000 in
theorem ktX1_swapWithNext {l : Launch} {D : va_G} {cI cZ : ClassId} {q : Nat → Nat} {k0 : Nat} (hk0 : bx_isL k0) {v1 : Int32} {σ : bx_St} {u : bx_St} (hm : mX1_swapWithNext k0 v1 σ = some u) : bx_Mt l D cI cZ yX1_swapWithNext cX1_swapWithNext 3 none 1 [.ref (q k0), .int v1] (bx_xw q cI σ) none (bx_xw q cI u) := by
  refine bx_mk (by decide) (Nat.le_of_ble_eq_true rfl) (lv := [(0, .ref (q k0)), (1, .int v1)]) rfl (fun p e s m args below meth c A C => ?_)
  replace C : bx_Cx p s m args meth c 3 A D cI cZ RX1 cX1_swapWithNext none := C
  unfold mX1_swapWithNext at hm
  refine go_aload_n C dX1_swapWithNext_0 rfl 0 rfl (n := 1) rfl ?_
  refine go_get C dX1_swapWithNext_1 (xf1_2 q cI σ hk0) rfl inX1 (by decide) fl_X1_18 (n := 4) rfl ?_
  refine go_iload_n C dX1_swapWithNext_4 rfl 1 rfl (n := 5) rfl ?_
  obtain ⟨b1, hm⟩ := bx_g hm
  refine go_iald C dX1_swapWithNext_5 (xal_3 q cI σ hk0) b1 (n := 6) rfl ?_
  refine go_istore_n C dX1_swapWithNext_6 rfl (by decide) (lv' := [(2, .int (σ.1 (k0 + 3) v1.toNatClampNeg)), (0, .ref (q k0)), (1, .int v1)]) rfl (n := 7) rfl ?_
  refine go_aload_n C dX1_swapWithNext_7 rfl 1 rfl (n := 8) rfl ?_
  refine go_get C dX1_swapWithNext_8 (xf1_2 q cI σ hk0) rfl inX1 (by decide) fl_X1_18 (n := 11) rfl ?_
  refine go_iload_n C dX1_swapWithNext_11 rfl 2 rfl (n := 12) rfl ?_
  refine go_aload_n C dX1_swapWithNext_12 rfl 1 rfl (n := 13) rfl ?_
  refine go_get C dX1_swapWithNext_13 (xf1_2 q cI σ hk0) rfl inX1 (by decide) fl_X1_18 (n := 16) rfl ?_
  refine go_iload_n C dX1_swapWithNext_16 rfl 2 rfl (n := 17) rfl ?_
  refine go_iconst C dX1_swapWithNext_17 (v := (1 : Int32)) (by decide) (n := 18) rfl ?_
  refine go_iadd C dX1_swapWithNext_18 (n := 19) rfl ?_
  obtain ⟨b2, hm⟩ := bx_g hm
  refine go_iald C dX1_swapWithNext_19 (xal_3 q cI σ hk0) b2 (n := 20) rfl ?_
  obtain ⟨b3, hm⟩ := bx_g hm
  obtain ⟨σ4, z5, hm⟩ := bx_lt hm
  refine go_iast C dX1_swapWithNext_20 (ws' := (bx_xw q cI σ4)) (by rw [z5]; exact (xul_3 q cI σ hk0 v1 (σ.1 (k0 + 3) (v1 + (1 : Int32)).toNatClampNeg))) b3 (n := 21) rfl ?_
  refine go_aload_n C dX1_swapWithNext_21 rfl 1 rfl (n := 22) rfl ?_
  refine go_get C dX1_swapWithNext_22 (xf1_2 q cI σ4 hk0) rfl inX1 (by decide) fl_X1_18 (n := 25) rfl ?_
  refine go_iload_n C dX1_swapWithNext_25 rfl 2 rfl (n := 26) rfl ?_
  refine go_iconst C dX1_swapWithNext_26 (v := (1 : Int32)) (by decide) (n := 27) rfl ?_
  refine go_iadd C dX1_swapWithNext_27 (n := 28) rfl ?_
  refine go_iload_n C dX1_swapWithNext_28 rfl 0 rfl (n := 29) rfl ?_
  obtain ⟨b6, hm⟩ := bx_g hm
  obtain ⟨σ7, z8, hm⟩ := bx_lt hm
  refine go_iast C dX1_swapWithNext_29 (ws' := (bx_xw q cI σ7)) (by rw [z8]; exact (xul_3 q cI σ4 hk0 (v1 + (1 : Int32)) (σ.1 (k0 + 3) v1.toNatClampNeg))) b6 (n := 30) rfl ?_
  cases hm
  exact go_vret C dX1_swapWithNext_30
def mX1_turnMeeting (k0 : Nat) (v1 : Int32) (v2 : Int32) (σ : bx_St) : Option bx_St := (if bx_ok v1 12 then (if bx_ok v1 12 then (bx_let (bx_up σ (k0 + 4) v1.toNatClampNeg ((σ.1 (k0 + 4) v1.toNatClampNeg) ^^^ (mX3_bit v2))) fun σ3 => (if bx_ok v2 12 then (if bx_ok v2 12 then (bx_let (bx_up σ3 (k0 + 4) v2.toNatClampNeg ((σ3.1 (k0 + 4) v2.toNatClampNeg) ^^^ (mX3_bit v1))) fun σ7 => (some σ7)) else none) else none)) else none) else none)
set_option maxRecDepth 8000 in
set_option maxHeartbeats 4000000 in
theorem ktX1_turnMeeting {l : Launch} {D : va_G} {cI cZ : ClassId} {q : Nat → Nat} {k0 : Nat} (hk0 : bx_isL k0) {v1 : Int32} {v2 : Int32} {σ : bx_St} {u : bx_St} (hm : mX1_turnMeeting k0 v1 v2 σ = some u) : bx_Mt l D cI cZ yX1_turnMeeting cX1_turnMeeting 3 none 2 [.ref (q k0), .int v1, .int v2] (bx_xw q cI σ) none (bx_xw q cI u) := by
  refine bx_mk (by decide) (Nat.le_of_ble_eq_true rfl) (lv := [(0, .ref (q k0)), (1, .int v1), (2, .int v2)]) rfl (fun p e s m args below meth c A C => ?_)
  replace C : bx_Cx p s m args meth c 3 A D cI cZ RX1 cX1_turnMeeting none := C
  unfold mX1_turnMeeting at hm
  refine go_aload_n C dX1_turnMeeting_0 rfl 0 rfl (n := 1) rfl ?_
  refine go_get C dX1_turnMeeting_1 (xf1_3 q cI σ hk0) rfl inX1 (by decide) fl_X1_21 (n := 4) rfl ?_
  refine go_iload_n C dX1_turnMeeting_4 rfl 1 rfl (n := 5) rfl ?_
  refine go_dup2_11 C dX1_turnMeeting_5 rfl rfl (n := 6) rfl ?_
  obtain ⟨b1, hm⟩ := bx_g hm
  refine go_iald C dX1_turnMeeting_6 (xal_4 q cI σ hk0) b1 (n := 7) rfl ?_
  refine go_iload_n C dX1_turnMeeting_7 rfl 2 rfl (n := 8) rfl ?_
  refine go_callNi C dX1_turnMeeting_8 mw_X3_bit (fun h => h.2) (rest := [.int (σ.1 (k0 + 4) v1.toNatClampNeg), .int v1, .ref (q (k0 + 4))]) (ktX3_bit rfl) (by decide) rfl rfl (Nat.le_of_ble_eq_true rfl) (n := 11) rfl ?_
  refine go_ixor C dX1_turnMeeting_11 (n := 12) rfl ?_
  obtain ⟨b2, hm⟩ := bx_g hm
  obtain ⟨σ3, z4, hm⟩ := bx_lt hm
  refine go_iast C dX1_turnMeeting_12 (ws' := (bx_xw q cI σ3)) (by rw [z4]; exact (xul_4 q cI σ hk0 v1 ((σ.1 (k0 + 4) v1.toNatClampNeg) ^^^ (mX3_bit v2)))) b2 (n := 13) rfl ?_
  refine go_aload_n C dX1_turnMeeting_13 rfl 0 rfl (n := 14) rfl ?_
  refine go_get C dX1_turnMeeting_14 (xf1_3 q cI σ3 hk0) rfl inX1 (by decide) fl_X1_21 (n := 17) rfl ?_
  refine go_iload_n C dX1_turnMeeting_17 rfl 2 rfl (n := 18) rfl ?_
  refine go_dup2_11 C dX1_turnMeeting_18 rfl rfl (n := 19) rfl ?_
  obtain ⟨b5, hm⟩ := bx_g hm
  refine go_iald C dX1_turnMeeting_19 (xal_4 q cI σ3 hk0) b5 (n := 20) rfl ?_
  refine go_iload_n C dX1_turnMeeting_20 rfl 1 rfl (n := 21) rfl ?_
  refine go_callNi C dX1_turnMeeting_21 mw_X3_bit (fun h => h.2) (rest := [.int (σ3.1 (k0 + 4) v2.toNatClampNeg), .int v2, .ref (q (k0 + 4))]) (ktX3_bit rfl) (by decide) rfl rfl (Nat.le_of_ble_eq_true rfl) (n := 24) rfl ?_
  refine go_ixor C dX1_turnMeeting_24 (n := 25) rfl ?_
  obtain ⟨b6, hm⟩ := bx_g hm
  obtain ⟨σ7, z8, hm⟩ := bx_lt hm
  refine go_iast C dX1_turnMeeting_25 (ws' := (bx_xw q cI σ7)) (by rw [z8]; exact (xul_4 q cI σ3 hk0 v2 ((σ3.1 (k0 + 4) v2.toNatClampNeg) ^^^ (mX3_bit v1)))) b6 (n := 26) rfl ?_
  cases hm
  exact go_vret C dX1_turnMeeting_26
def mX2_append (v1 : Int32) (σ : bx_St) : Option (Int32 × bx_St) := (if (σ.1 2 1) < (60 : Int32) then (if bx_ok (σ.1 2 1) 60 then (bx_let (bx_up (bx_up σ 3 (σ.1 2 1).toNatClampNeg v1) 2 1 (((bx_up σ 3 (σ.1 2 1).toNatClampNeg v1).1 2 1) + (1 : Int32))) fun σ3 => (some ((1 : Int32), σ3))) else none) else (some ((0 : Int32), σ)))
set_option maxRecDepth 8000 in
set_option maxHeartbeats 4000000 in
theorem ktX2_append {l : Launch} {D : va_G} {cI cZ : ClassId} {q : Nat → Nat} {v1 : Int32} {σ : bx_St} {u : (Int32 × bx_St)} (hm : mX2_append v1 σ = some u) : bx_Mt l D cI cZ yX2_append cX2_append 2 (some .boolean) 1 [.ref (q 2), .int v1] (bx_xw q cI σ) (some (.int u.1)) (bx_xw q cI u.2) := by
  refine bx_mk (by decide) (Nat.le_of_ble_eq_true rfl) (lv := [(0, .ref (q 2)), (1, .int v1)]) rfl (fun p e s m args below meth c A C => ?_)
  replace C : bx_Cx p s m args meth c 2 A D cI cZ RX2 cX2_append (some .boolean) := C
  unfold mX2_append at hm
  refine go_aload_n C dX2_append_0 rfl 0 rfl (n := 1) rfl ?_
  refine go_get C dX2_append_1 (xf2_1 q cI σ) rfl inX2 (by decide) fl_X2_18 (n := 4) rfl ?_
  refine go_bipush C dX2_append_4 (v := (60 : Int32)) (by decide) (n := 6) rfl ?_
  refine go_icmp_lt C 11 dX2_append_6 (by decide) (n := 9) rfl (fun c1 => ?_) (fun c1 => ?_)
  · have hm := bx_p c1 hm
    refine go_aload_n C dX2_append_11 rfl 0 rfl (n := 12) rfl ?_
    refine go_get C dX2_append_12 (xf2_0 q cI σ) rfl inX2 (by decide) fl_X2_11 (n := 15) rfl ?_
    refine go_aload_n C dX2_append_15 rfl 0 rfl (n := 16) rfl ?_
    refine go_get C dX2_append_16 (xf2_1 q cI σ) rfl inX2 (by decide) fl_X2_18 (n := 19) rfl ?_
    refine go_iload_n C dX2_append_19 rfl 1 rfl (n := 20) rfl ?_
    obtain ⟨b2, hm⟩ := bx_g hm
    refine go_iast C dX2_append_20 (xu_3 q cI σ (σ.1 2 1) v1) b2 (n := 21) rfl ?_
    refine go_aload_n C dX2_append_21 rfl 0 rfl (n := 22) rfl ?_
    refine go_dup C dX2_append_22 rfl (n := 23) rfl ?_
    refine go_get C dX2_append_23 (xf2_1 q cI (bx_up σ 3 (σ.1 2 1).toNatClampNeg v1)) rfl inX2 (by decide) fl_X2_18 (n := 26) rfl ?_
    refine go_iconst C dX2_append_26 (v := (1 : Int32)) (by decide) (n := 27) rfl ?_
    refine go_iadd C dX2_append_27 (n := 28) rfl ?_
    obtain ⟨σ3, z4, hm⟩ := bx_lt hm
    refine go_put C dX2_append_28 (ws' := (bx_xw q cI σ3)) (by rw [z4]; exact (xp2_1 q cI (bx_up σ 3 (σ.1 2 1).toNatClampNeg v1) (((bx_up σ 3 (σ.1 2 1).toNatClampNeg v1).1 2 1) + (1 : Int32)))) rfl inX2 tyX2_ok nmX2 (by decide) fl_X2_18 rfl (ty := .int) (by decide +kernel) (by rfl) (by rfl) (n := 31) rfl ?_
    refine go_iconst C dX2_append_31 (v := (1 : Int32)) (by decide) (n := 32) rfl ?_
    cases hm
    exact go_zret C dX2_append_32 (Or.inr rfl)
  · have hm := bx_n c1 hm
    refine go_iconst C dX2_append_9 (v := (0 : Int32)) (by decide) (n := 10) rfl ?_
    cases hm
    exact go_zret C dX2_append_10 (Or.inl rfl)
def mX2_batchSize (σ : bx_St) : Int32 := ((σ.1 2 3) / (6 : Int32))
set_option maxRecDepth 8000 in
set_option maxHeartbeats 4000000 in
theorem ktX2_batchSize {l : Launch} {D : va_G} {cI cZ : ClassId} {q : Nat → Nat} {σ : bx_St} {u : Int32} (hm : mX2_batchSize σ = u) : bx_Mt l D cI cZ yX2_batchSize cX2_batchSize 1 (some .int) 1 [.ref (q 2)] (bx_xw q cI σ) (some (.int u)) (bx_xw q cI σ) := by
  refine bx_mk (by decide) (Nat.le_of_ble_eq_true rfl) (lv := [(0, .ref (q 2))]) rfl (fun p e s m args below meth c A C => ?_)
  replace C : bx_Cx p s m args meth c 1 A D cI cZ RX2 cX2_batchSize (some .int) := C
  unfold mX2_batchSize at hm
  refine go_aload_n C dX2_batchSize_0 rfl 0 rfl (n := 1) rfl ?_
  refine go_get C dX2_batchSize_1 (xf2_3 q cI σ) rfl inX2 (by decide) fl_X2_39 (n := 4) rfl ?_
  refine go_bipush C dX2_batchSize_4 (v := (6 : Int32)) (by decide) (n := 6) rfl ?_
  refine go_idiv C dX2_batchSize_6 (by decide) (n := 7) rfl ?_
  subst hm
  exact go_iret C dX2_batchSize_7
def mX2_beginNumber (σ : bx_St) : bx_St := (bx_let (bx_up (bx_up σ 2 4 (0 : Int32)) 2 5 (0 : Int32)) fun σ1 => (bx_up σ1 2 6 (0 : Int32)))
set_option maxRecDepth 8000 in
set_option maxHeartbeats 4000000 in
theorem ktX2_beginNumber {l : Launch} {D : va_G} {cI cZ : ClassId} {q : Nat → Nat} {σ : bx_St} {u : bx_St} (hm : mX2_beginNumber σ = u) : bx_Mt l D cI cZ yX2_beginNumber cX2_beginNumber 1 none 1 [.ref (q 2)] (bx_xw q cI σ) none (bx_xw q cI u) := by
  refine bx_mk (by decide) (Nat.le_of_ble_eq_true rfl) (lv := [(0, .ref (q 2))]) rfl (fun p e s m args below meth c A C => ?_)
  replace C : bx_Cx p s m args meth c 1 A D cI cZ RX2 cX2_beginNumber none := C
  unfold mX2_beginNumber at hm
  refine go_aload_n C dX2_beginNumber_0 rfl 0 rfl (n := 1) rfl ?_
  refine go_iconst C dX2_beginNumber_1 (v := (0 : Int32)) (by decide) (n := 2) rfl ?_
  refine go_put C dX2_beginNumber_2 (xp2_4 q cI σ (0 : Int32)) rfl inX2 tyX2_ok nmX2 (by decide) fl_X2_33 rfl (ty := .int) (by decide +kernel) (by rfl) (by rfl) (n := 5) rfl ?_
  refine go_aload_n C dX2_beginNumber_5 rfl 0 rfl (n := 6) rfl ?_
  refine go_iconst C dX2_beginNumber_6 (v := (0 : Int32)) (by decide) (n := 7) rfl ?_
  obtain ⟨σ1, z2, hm⟩ := bx_lt hm
  refine go_put C dX2_beginNumber_7 (ws' := (bx_xw q cI σ1)) (by rw [z2]; exact (xp2_5 q cI (bx_up σ 2 4 (0 : Int32)) (0 : Int32))) rfl inX2 tyX2_ok nmX2 (by decide) fl_X2_45 rfl (ty := .int) (by decide +kernel) (by rfl) (by rfl) (n := 10) rfl ?_
  refine go_aload_n C dX2_beginNumber_10 rfl 0 rfl (n := 11) rfl ?_
  refine go_iconst C dX2_beginNumber_11 (v := (0 : Int32)) (by decide) (n := 12) rfl ?_
  refine go_put C dX2_beginNumber_12 (xp2_6 q cI σ1 (0 : Int32)) rfl inX2 tyX2_ok nmX2 (by decide) fl_X2_48 rfl (ty := .boolean) (by decide +kernel) (by rfl) (by rfl) (n := 15) rfl ?_
  subst hm
  exact go_vret C dX2_beginNumber_15
def mX2_beginReading (σ : bx_St) : bx_St := (mX2_beginNumber (bx_up σ 2 3 (0 : Int32)))
set_option maxRecDepth 8000 in
set_option maxHeartbeats 4000000 in
theorem ktX2_beginReading {l : Launch} {D : va_G} {cI cZ : ClassId} {q : Nat → Nat} {σ : bx_St} {u : bx_St} (hm : mX2_beginReading σ = u) : bx_Mt l D cI cZ yX2_beginReading cX2_beginReading 1 none 2 [.ref (q 2)] (bx_xw q cI σ) none (bx_xw q cI u) := by
  refine bx_mk (by decide) (Nat.le_of_ble_eq_true rfl) (lv := [(0, .ref (q 2))]) rfl (fun p e s m args below meth c A C => ?_)
  replace C : bx_Cx p s m args meth c 1 A D cI cZ RX2 cX2_beginReading none := C
  unfold mX2_beginReading at hm
  refine go_aload_n C dX2_beginReading_0 rfl 0 rfl (n := 1) rfl ?_
  refine go_iconst C dX2_beginReading_1 (v := (0 : Int32)) (by decide) (n := 2) rfl ?_
  refine go_put C dX2_beginReading_2 (xp2_3 q cI σ (0 : Int32)) rfl inX2 tyX2_ok nmX2 (by decide) fl_X2_39 rfl (ty := .int) (by decide +kernel) (by rfl) (by rfl) (n := 5) rfl ?_
  refine go_aload_n C dX2_beginReading_5 rfl 0 rfl (n := 6) rfl ?_
  refine go_callVv C dX2_beginReading_6 mw_X2_beginNumber ml_X2_42 (rest := []) (ktX2_beginNumber rfl) (xo2 q cI (bx_up σ 2 3 (0 : Int32))) rfl (by decide) rfl rfl (Nat.le_of_ble_eq_true rfl) (n := 9) rfl ?_
  subst hm
  exact go_vret C dX2_beginReading_9
def mX2_clear (σ : bx_St) : bx_St := (bx_up σ 2 1 (0 : Int32))
set_option maxRecDepth 8000 in
set_option maxHeartbeats 4000000 in
theorem ktX2_clear {l : Launch} {D : va_G} {cI cZ : ClassId} {q : Nat → Nat} {σ : bx_St} {u : bx_St} (hm : mX2_clear σ = u) : bx_Mt l D cI cZ yX2_clear cX2_clear 1 none 1 [.ref (q 2)] (bx_xw q cI σ) none (bx_xw q cI u) := by
  refine bx_mk (by decide) (Nat.le_of_ble_eq_true rfl) (lv := [(0, .ref (q 2))]) rfl (fun p e s m args below meth c A C => ?_)
  replace C : bx_Cx p s m args meth c 1 A D cI cZ RX2 cX2_clear none := C
  unfold mX2_clear at hm
  refine go_aload_n C dX2_clear_0 rfl 0 rfl (n := 1) rfl ?_
  refine go_iconst C dX2_clear_1 (v := (0 : Int32)) (by decide) (n := 2) rfl ?_
  refine go_put C dX2_clear_2 (xp2_1 q cI σ (0 : Int32)) rfl inX2 tyX2_ok nmX2 (by decide) fl_X2_18 rfl (ty := .int) (by decide +kernel) (by rfl) (by rfl) (n := 5) rfl ?_
  subst hm
  exact go_vret C dX2_clear_5
def mX2_endNumber_47 (σ : bx_St) : Option bx_St := (some (mX2_beginNumber σ))
set_option maxRecDepth 8000 in
set_option maxHeartbeats 4000000 in
theorem mX2_endNumber_47_ok (C : bx_Cx p s m args meth c 1 A D cI cZ RX2 cX2_endNumber none) : ∀ (σ : bx_St) (u : bx_St), mX2_endNumber_47 σ = some u → bx_Go p l e (bx_rm 2) s m args below meth c 1 A D (MQ below (bx_Q none (bx_xw q cI u) D A) args s 0 0 A) (bx_xw q cI σ) 47 [(0, .ref (q 2))] [] := by
  intro σ u hm
  unfold mX2_endNumber_47 at hm
  refine go_aload_n C dX2_endNumber_47 rfl 0 rfl (n := 48) rfl ?_
  refine go_callVv C dX2_endNumber_48 mw_X2_beginNumber ml_X2_42 (rest := []) (ktX2_beginNumber rfl) (xo2 q cI σ) rfl (by decide) rfl rfl (Nat.le_of_ble_eq_true rfl) (n := 51) rfl ?_
  cases hm
  exact go_vret C dX2_endNumber_51
def mX2_endNumber_36 (s0 : Int32) (s1 : Int32) (σ : bx_St) : Option bx_St := (if bx_ok s1 24 then (bx_let (bx_up (bx_up σ 4 s1.toNatClampNeg s0) 2 3 (((bx_up σ 4 s1.toNatClampNeg s0).1 2 3) + (1 : Int32))) fun σ2 => (mX2_endNumber_47 σ2)) else none)
set_option maxRecDepth 8000 in
set_option maxHeartbeats 4000000 in
theorem mX2_endNumber_36_ok (C : bx_Cx p s m args meth c 1 A D cI cZ RX2 cX2_endNumber none) : ∀ (s0 : Int32) (s1 : Int32) (σ : bx_St) (u : bx_St), mX2_endNumber_36 s0 s1 σ = some u → bx_Go p l e (bx_rm 2) s m args below meth c 1 A D (MQ below (bx_Q none (bx_xw q cI u) D A) args s 0 0 A) (bx_xw q cI σ) 36 [(0, .ref (q 2))] [.int s0, .int s1, .ref (q 4)] := by
  intro s0 s1 σ u hm
  unfold mX2_endNumber_36 at hm
  obtain ⟨b1, hm⟩ := bx_g hm
  refine go_iast C dX2_endNumber_36 (xu_4 q cI σ s1 s0) b1 (n := 37) rfl ?_
  refine go_aload_n C dX2_endNumber_37 rfl 0 rfl (n := 38) rfl ?_
  refine go_dup C dX2_endNumber_38 rfl (n := 39) rfl ?_
  refine go_get C dX2_endNumber_39 (xf2_3 q cI (bx_up σ 4 s1.toNatClampNeg s0)) rfl inX2 (by decide) fl_X2_39 (n := 42) rfl ?_
  refine go_iconst C dX2_endNumber_42 (v := (1 : Int32)) (by decide) (n := 43) rfl ?_
  refine go_iadd C dX2_endNumber_43 (n := 44) rfl ?_
  obtain ⟨σ2, z3, hm⟩ := bx_lt hm
  refine go_put C dX2_endNumber_44 (ws' := (bx_xw q cI σ2)) (by rw [z3]; exact (xp2_3 q cI (bx_up σ 4 s1.toNatClampNeg s0) (((bx_up σ 4 s1.toNatClampNeg s0).1 2 3) + (1 : Int32)))) rfl inX2 tyX2_ok nmX2 (by decide) fl_X2_39 rfl (ty := .int) (by decide +kernel) (by rfl) (by rfl) (n := 47) rfl ?_
  refine go_lv (lv' := [(0, .ref (q 2))]) [0] rfl ?_
  exact mX2_endNumber_47_ok C _ _ hm
def mX2_endNumber (σ : bx_St) : Option bx_St := (if (24 : Int32) ≤ (σ.1 2 3) then (mX2_endNumber_47 σ) else (if (σ.1 2 6) = 0 then (mX2_endNumber_36 (σ.1 2 5) (σ.1 2 3) σ) else (mX2_endNumber_36 (-(σ.1 2 5)) (σ.1 2 3) σ)))
set_option maxRecDepth 8000 in
set_option maxHeartbeats 4000000 in
theorem ktX2_endNumber {l : Launch} {D : va_G} {cI cZ : ClassId} {q : Nat → Nat} {σ : bx_St} {u : bx_St} (hm : mX2_endNumber σ = some u) : bx_Mt l D cI cZ yX2_endNumber cX2_endNumber 1 none 2 [.ref (q 2)] (bx_xw q cI σ) none (bx_xw q cI u) := by
  refine bx_mk (by decide) (Nat.le_of_ble_eq_true rfl) (lv := [(0, .ref (q 2))]) rfl (fun p e s m args below meth c A C => ?_)
  replace C : bx_Cx p s m args meth c 1 A D cI cZ RX2 cX2_endNumber none := C
  unfold mX2_endNumber at hm
  refine go_aload_n C dX2_endNumber_0 rfl 0 rfl (n := 1) rfl ?_
  refine go_get C dX2_endNumber_1 (xf2_3 q cI σ) rfl inX2 (by decide) fl_X2_39 (n := 4) rfl ?_
  refine go_bipush C dX2_endNumber_4 (v := (24 : Int32)) (by decide) (n := 6) rfl ?_
  refine go_icmp_ge C 47 dX2_endNumber_6 (by decide) (n := 9) rfl (fun c1 => ?_) (fun c1 => ?_)
  · have hm := bx_p c1 hm
    refine go_lv (lv' := [(0, .ref (q 2))]) [0] rfl ?_
    exact mX2_endNumber_47_ok C _ _ hm
  · have hm := bx_n c1 hm
    refine go_aload_n C dX2_endNumber_9 rfl 0 rfl (n := 10) rfl ?_
    refine go_get C dX2_endNumber_10 (xf2_2 q cI σ) rfl inX2 (by decide) fl_X2_15 (n := 13) rfl ?_
    refine go_aload_n C dX2_endNumber_13 rfl 0 rfl (n := 14) rfl ?_
    refine go_get C dX2_endNumber_14 (xf2_3 q cI σ) rfl inX2 (by decide) fl_X2_39 (n := 17) rfl ?_
    refine go_aload_n C dX2_endNumber_17 rfl 0 rfl (n := 18) rfl ?_
    refine go_get C dX2_endNumber_18 (xf2_6 q cI σ) rfl inX2 (by decide) fl_X2_48 (n := 21) rfl ?_
    refine go_if_eq C 32 dX2_endNumber_21 (by decide) (n := 24) rfl (fun c2 => ?_) (fun c2 => ?_)
    · have hm := bx_p c2 hm
      refine go_aload_n C dX2_endNumber_32 rfl 0 rfl (n := 33) rfl ?_
      refine go_get C dX2_endNumber_33 (xf2_5 q cI σ) rfl inX2 (by decide) fl_X2_45 (n := 36) rfl ?_
      refine go_lv (lv' := [(0, .ref (q 2))]) [0] rfl ?_
      exact mX2_endNumber_36_ok C _ _ _ _ hm
    · have hm := bx_n c2 hm
      refine go_aload_n C dX2_endNumber_24 rfl 0 rfl (n := 25) rfl ?_
      refine go_get C dX2_endNumber_25 (xf2_5 q cI σ) rfl inX2 (by decide) fl_X2_45 (n := 28) rfl ?_
      refine go_ineg C dX2_endNumber_28 (n := 29) rfl ?_
      refine go_goto C 36 dX2_endNumber_29 (by decide) ?_
      refine go_lv (lv' := [(0, .ref (q 2))]) [0] rfl ?_
      exact mX2_endNumber_36_ok C _ _ _ _ hm
def mX2_takesFigure_43 (v1 : Int32) (v2 : Int32) (s0 : Int32) (σ : bx_St) : Option (Int32 × bx_St) := (if v2 = 0 then (if s0 = 0 then (if (((10 : Int32) * (σ.1 2 5)) + v1) ≤ (999 : Int32) then (bx_let (bx_up σ 2 5 (((10 : Int32) * (σ.1 2 5)) + v1)) fun σ4 => (some ((1 : Int32), (bx_up σ4 2 4 ((σ4.1 2 4) + (1 : Int32)))))) else (some ((0 : Int32), σ))) else (some ((0 : Int32), σ))) else (some ((0 : Int32), σ)))
set_option maxRecDepth 8000 in
set_option maxHeartbeats 4000000 in
theorem mX2_takesFigure_43_ok (C : bx_Cx p s m args meth c 5 A D cI cZ RX2 cX2_takesFigure (some .boolean)) : ∀ (v1 : Int32) (v2 : Int32) (s0 : Int32) (σ : bx_St) (u : (Int32 × bx_St)), mX2_takesFigure_43 v1 v2 s0 σ = some u → bx_Go p l e (bx_rm 1) s m args below meth c 5 A D (MQ below (bx_Q (some (.int u.1)) (bx_xw q cI u.2) D A) args s 0 0 A) (bx_xw q cI σ) 43 [(0, .ref (q 2)), (1, .int v1), (2, .int v2)] [.int s0] := by
  intro v1 v2 s0 σ u hm
  unfold mX2_takesFigure_43 at hm
  refine go_istore_n C dX2_takesFigure_43 rfl (by decide) (lv' := [(3, .int s0), (0, .ref (q 2)), (1, .int v1), (2, .int v2)]) rfl (n := 44) rfl ?_
  refine go_bipush C dX2_takesFigure_44 (v := (10 : Int32)) (by decide) (n := 46) rfl ?_
  refine go_aload_n C dX2_takesFigure_46 rfl 1 rfl (n := 47) rfl ?_
  refine go_get C dX2_takesFigure_47 (xf2_5 q cI σ) rfl inX2 (by decide) fl_X2_45 (n := 50) rfl ?_
  refine go_imul C dX2_takesFigure_50 (n := 51) rfl ?_
  refine go_iload_n C dX2_takesFigure_51 rfl 2 rfl (n := 52) rfl ?_
  refine go_iadd C dX2_takesFigure_52 (n := 53) rfl ?_
  refine go_istore C dX2_takesFigure_53 (by decide) (lv' := [(4, .int (((10 : Int32) * (σ.1 2 5)) + v1)), (3, .int s0), (0, .ref (q 2)), (1, .int v1), (2, .int v2)]) rfl (n := 55) rfl ?_
  refine go_iload_n C dX2_takesFigure_55 rfl 4 rfl (n := 56) rfl ?_
  refine go_if_ne C 71 dX2_takesFigure_56 (by decide) (n := 59) rfl (fun c1 => ?_) (fun c1 => ?_)
  · have hm := bx_n c1 hm
    refine go_iconst C dX2_takesFigure_71 (v := (0 : Int32)) (by decide) (n := 72) rfl ?_
    cases hm
    exact go_zret C dX2_takesFigure_72 (Or.inl rfl)
  · have hm := bx_p c1 hm
    refine go_iload_n C dX2_takesFigure_59 rfl 1 rfl (n := 60) rfl ?_
    refine go_if_ne C 71 dX2_takesFigure_60 (by decide) (n := 63) rfl (fun c2 => ?_) (fun c2 => ?_)
    · have hm := bx_n c2 hm
      refine go_iconst C dX2_takesFigure_71 (v := (0 : Int32)) (by decide) (n := 72) rfl ?_
      cases hm
      exact go_zret C dX2_takesFigure_72 (Or.inl rfl)
    · have hm := bx_p c2 hm
      refine go_iload C dX2_takesFigure_63 0 rfl (n := 65) rfl ?_
      refine go_sipush C dX2_takesFigure_65 (v := (999 : Int32)) (by decide) (n := 68) rfl ?_
      refine go_icmp_le C 73 dX2_takesFigure_68 (by decide) (n := 71) rfl (fun c3 => ?_) (fun c3 => ?_)
      · have hm := bx_p c3 hm
        refine go_aload_n C dX2_takesFigure_73 rfl 2 rfl (n := 74) rfl ?_
        refine go_iload C dX2_takesFigure_74 0 rfl (n := 76) rfl ?_
        obtain ⟨σ4, z5, hm⟩ := bx_lt hm
        refine go_put C dX2_takesFigure_76 (ws' := (bx_xw q cI σ4)) (by rw [z5]; exact (xp2_5 q cI σ (((10 : Int32) * (σ.1 2 5)) + v1))) rfl inX2 tyX2_ok nmX2 (by decide) fl_X2_45 rfl (ty := .int) (by decide +kernel) (by rfl) (by rfl) (n := 79) rfl ?_
        refine go_aload_n C dX2_takesFigure_79 rfl 2 rfl (n := 80) rfl ?_
        refine go_dup C dX2_takesFigure_80 rfl (n := 81) rfl ?_
        refine go_get C dX2_takesFigure_81 (xf2_4 q cI σ4) rfl inX2 (by decide) fl_X2_33 (n := 84) rfl ?_
        refine go_iconst C dX2_takesFigure_84 (v := (1 : Int32)) (by decide) (n := 85) rfl ?_
        refine go_iadd C dX2_takesFigure_85 (n := 86) rfl ?_
        refine go_put C dX2_takesFigure_86 (xp2_4 q cI σ4 ((σ4.1 2 4) + (1 : Int32))) rfl inX2 tyX2_ok nmX2 (by decide) fl_X2_33 rfl (ty := .int) (by decide +kernel) (by rfl) (by rfl) (n := 89) rfl ?_
        refine go_iconst C dX2_takesFigure_89 (v := (1 : Int32)) (by decide) (n := 90) rfl ?_
        cases hm
        exact go_zret C dX2_takesFigure_90 (Or.inr rfl)
      · have hm := bx_n c3 hm
        refine go_iconst C dX2_takesFigure_71 (v := (0 : Int32)) (by decide) (n := 72) rfl ?_
        cases hm
        exact go_zret C dX2_takesFigure_72 (Or.inl rfl)
def mX2_takesFigure_42 (v1 : Int32) (v2 : Int32) (σ : bx_St) : Option (Int32 × bx_St) := (mX2_takesFigure_43 v1 v2 (0 : Int32) σ)
set_option maxRecDepth 8000 in
set_option maxHeartbeats 4000000 in
theorem mX2_takesFigure_42_ok (C : bx_Cx p s m args meth c 5 A D cI cZ RX2 cX2_takesFigure (some .boolean)) : ∀ (v1 : Int32) (v2 : Int32) (σ : bx_St) (u : (Int32 × bx_St)), mX2_takesFigure_42 v1 v2 σ = some u → bx_Go p l e (bx_rm 1) s m args below meth c 5 A D (MQ below (bx_Q (some (.int u.1)) (bx_xw q cI u.2) D A) args s 0 0 A) (bx_xw q cI σ) 42 [(0, .ref (q 2)), (1, .int v1), (2, .int v2)] [] := by
  intro v1 v2 σ u hm
  unfold mX2_takesFigure_42 at hm
  refine go_iconst C dX2_takesFigure_42 (v := (0 : Int32)) (by decide) (n := 43) rfl ?_
  refine go_lv (lv' := [(0, .ref (q 2)), (1, .int v1), (2, .int v2)]) [0, 1, 2] rfl ?_
  exact mX2_takesFigure_43_ok C _ _ _ _ _ hm
def mX2_takesFigure_19 (v1 : Int32) (s0 : Int32) (σ : bx_St) : Option (Int32 × bx_St) := (if (σ.1 2 6) = 0 then (mX2_takesFigure_42 v1 s0 σ) else (if (σ.1 2 4) = 0 then (if v1 = 0 then (mX2_takesFigure_43 v1 s0 (1 : Int32) σ) else (mX2_takesFigure_42 v1 s0 σ)) else (mX2_takesFigure_42 v1 s0 σ)))
set_option maxRecDepth 8000 in
set_option maxHeartbeats 4000000 in
theorem mX2_takesFigure_19_ok (C : bx_Cx p s m args meth c 5 A D cI cZ RX2 cX2_takesFigure (some .boolean)) : ∀ (v1 : Int32) (s0 : Int32) (σ : bx_St) (u : (Int32 × bx_St)), mX2_takesFigure_19 v1 s0 σ = some u → bx_Go p l e (bx_rm 1) s m args below meth c 5 A D (MQ below (bx_Q (some (.int u.1)) (bx_xw q cI u.2) D A) args s 0 0 A) (bx_xw q cI σ) 19 [(0, .ref (q 2)), (1, .int v1)] [.int s0] := by
  intro v1 s0 σ u hm
  unfold mX2_takesFigure_19 at hm
  refine go_istore_n C dX2_takesFigure_19 rfl (by decide) (lv' := [(2, .int s0), (0, .ref (q 2)), (1, .int v1)]) rfl (n := 20) rfl ?_
  refine go_aload_n C dX2_takesFigure_20 rfl 1 rfl (n := 21) rfl ?_
  refine go_get C dX2_takesFigure_21 (xf2_6 q cI σ) rfl inX2 (by decide) fl_X2_48 (n := 24) rfl ?_
  refine go_if_eq C 42 dX2_takesFigure_24 (by decide) (n := 27) rfl (fun c1 => ?_) (fun c1 => ?_)
  · have hm := bx_p c1 hm
    refine go_lv (lv' := [(0, .ref (q 2)), (1, .int v1), (2, .int s0)]) [1, 2, 0] rfl ?_
    exact mX2_takesFigure_42_ok C _ _ _ _ hm
  · have hm := bx_n c1 hm
    refine go_aload_n C dX2_takesFigure_27 rfl 1 rfl (n := 28) rfl ?_
    refine go_get C dX2_takesFigure_28 (xf2_4 q cI σ) rfl inX2 (by decide) fl_X2_33 (n := 31) rfl ?_
    refine go_if_ne C 42 dX2_takesFigure_31 (by decide) (n := 34) rfl (fun c2 => ?_) (fun c2 => ?_)
    · have hm := bx_n c2 hm
      refine go_lv (lv' := [(0, .ref (q 2)), (1, .int v1), (2, .int s0)]) [1, 2, 0] rfl ?_
      exact mX2_takesFigure_42_ok C _ _ _ _ hm
    · have hm := bx_p c2 hm
      refine go_iload_n C dX2_takesFigure_34 rfl 2 rfl (n := 35) rfl ?_
      refine go_if_ne C 42 dX2_takesFigure_35 (by decide) (n := 38) rfl (fun c3 => ?_) (fun c3 => ?_)
      · have hm := bx_n c3 hm
        refine go_lv (lv' := [(0, .ref (q 2)), (1, .int v1), (2, .int s0)]) [1, 2, 0] rfl ?_
        exact mX2_takesFigure_42_ok C _ _ _ _ hm
      · have hm := bx_p c3 hm
        refine go_iconst C dX2_takesFigure_38 (v := (1 : Int32)) (by decide) (n := 39) rfl ?_
        refine go_goto C 43 dX2_takesFigure_39 (by decide) ?_
        refine go_lv (lv' := [(0, .ref (q 2)), (1, .int v1), (2, .int s0)]) [1, 2, 0] rfl ?_
        exact mX2_takesFigure_43_ok C _ _ _ _ _ hm
def mX2_takesFigure_18 (v1 : Int32) (σ : bx_St) : Option (Int32 × bx_St) := (mX2_takesFigure_19 v1 (0 : Int32) σ)
set_option maxRecDepth 8000 in
set_option maxHeartbeats 4000000 in
theorem mX2_takesFigure_18_ok (C : bx_Cx p s m args meth c 5 A D cI cZ RX2 cX2_takesFigure (some .boolean)) : ∀ (v1 : Int32) (σ : bx_St) (u : (Int32 × bx_St)), mX2_takesFigure_18 v1 σ = some u → bx_Go p l e (bx_rm 1) s m args below meth c 5 A D (MQ below (bx_Q (some (.int u.1)) (bx_xw q cI u.2) D A) args s 0 0 A) (bx_xw q cI σ) 18 [(0, .ref (q 2)), (1, .int v1)] [] := by
  intro v1 σ u hm
  unfold mX2_takesFigure_18 at hm
  refine go_iconst C dX2_takesFigure_18 (v := (0 : Int32)) (by decide) (n := 19) rfl ?_
  refine go_lv (lv' := [(0, .ref (q 2)), (1, .int v1)]) [0, 1] rfl ?_
  exact mX2_takesFigure_19_ok C _ _ _ _ hm
def mX2_takesFigure (v1 : Int32) (σ : bx_St) : Option (Int32 × bx_St) := (if (σ.1 2 4) ≤ 0 then (mX2_takesFigure_18 v1 σ) else (if (σ.1 2 5) = 0 then (mX2_takesFigure_19 v1 (1 : Int32) σ) else (mX2_takesFigure_18 v1 σ)))
set_option maxRecDepth 8000 in
set_option maxHeartbeats 4000000 in
theorem ktX2_takesFigure {l : Launch} {D : va_G} {cI cZ : ClassId} {q : Nat → Nat} {v1 : Int32} {σ : bx_St} {u : (Int32 × bx_St)} (hm : mX2_takesFigure v1 σ = some u) : bx_Mt l D cI cZ yX2_takesFigure cX2_takesFigure 5 (some .boolean) 1 [.ref (q 2), .int v1] (bx_xw q cI σ) (some (.int u.1)) (bx_xw q cI u.2) := by
  refine bx_mk (by decide) (Nat.le_of_ble_eq_true rfl) (lv := [(0, .ref (q 2)), (1, .int v1)]) rfl (fun p e s m args below meth c A C => ?_)
  replace C : bx_Cx p s m args meth c 5 A D cI cZ RX2 cX2_takesFigure (some .boolean) := C
  unfold mX2_takesFigure at hm
  refine go_aload_n C dX2_takesFigure_0 rfl 0 rfl (n := 1) rfl ?_
  refine go_get C dX2_takesFigure_1 (xf2_4 q cI σ) rfl inX2 (by decide) fl_X2_33 (n := 4) rfl ?_
  refine go_if_le C 18 dX2_takesFigure_4 (by decide) (n := 7) rfl (fun c1 => ?_) (fun c1 => ?_)
  · have hm := bx_p c1 hm
    refine go_lv (lv' := [(0, .ref (q 2)), (1, .int v1)]) [0, 1] rfl ?_
    exact mX2_takesFigure_18_ok C _ _ _ hm
  · have hm := bx_n c1 hm
    refine go_aload_n C dX2_takesFigure_7 rfl 0 rfl (n := 8) rfl ?_
    refine go_get C dX2_takesFigure_8 (xf2_5 q cI σ) rfl inX2 (by decide) fl_X2_45 (n := 11) rfl ?_
    refine go_if_ne C 18 dX2_takesFigure_11 (by decide) (n := 14) rfl (fun c2 => ?_) (fun c2 => ?_)
    · have hm := bx_n c2 hm
      refine go_lv (lv' := [(0, .ref (q 2)), (1, .int v1)]) [0, 1] rfl ?_
      exact mX2_takesFigure_18_ok C _ _ _ hm
    · have hm := bx_p c2 hm
      refine go_iconst C dX2_takesFigure_14 (v := (1 : Int32)) (by decide) (n := 15) rfl ?_
      refine go_goto C 19 dX2_takesFigure_15 (by decide) ?_
      refine go_lv (lv' := [(0, .ref (q 2)), (1, .int v1)]) [0, 1] rfl ?_
      exact mX2_takesFigure_19_ok C _ _ _ _ hm
def mX2_markDue (σ : bx_St) : Int32 := (if (bx_rem (σ.1 2 3) (2 : Int32)) = 0 then (58 : Int32) else (if (bx_rem ((σ.1 2 3) + (1 : Int32)) (6 : Int32)) = 0 then (if (24 : Int32) ≤ ((σ.1 2 3) + (1 : Int32)) then (0 : Int32) else (59 : Int32)) else (44 : Int32)))
set_option maxRecDepth 8000 in
set_option maxHeartbeats 4000000 in
theorem ktX2_markDue {l : Launch} {D : va_G} {cI cZ : ClassId} {q : Nat → Nat} {σ : bx_St} {u : Int32} (hm : mX2_markDue σ = u) : bx_Mt l D cI cZ yX2_markDue cX2_markDue 1 (some .int) 1 [.ref (q 2)] (bx_xw q cI σ) (some (.int u)) (bx_xw q cI σ) := by
  refine bx_mk (by decide) (Nat.le_of_ble_eq_true rfl) (lv := [(0, .ref (q 2))]) rfl (fun p e s m args below meth c A C => ?_)
  replace C : bx_Cx p s m args meth c 1 A D cI cZ RX2 cX2_markDue (some .int) := C
  unfold mX2_markDue at hm
  refine go_aload_n C dX2_markDue_0 rfl 0 rfl (n := 1) rfl ?_
  refine go_get C dX2_markDue_1 (xf2_3 q cI σ) rfl inX2 (by decide) fl_X2_39 (n := 4) rfl ?_
  refine go_iconst C dX2_markDue_4 (v := (2 : Int32)) (by decide) (n := 5) rfl ?_
  refine go_irem C dX2_markDue_5 (by decide) (n := 6) rfl ?_
  refine go_if_ne C 12 dX2_markDue_6 (by decide) (n := 9) rfl (fun c1 => ?_) (fun c1 => ?_)
  · have hm := bx_n c1 hm
    refine go_aload_n C dX2_markDue_12 rfl 0 rfl (n := 13) rfl ?_
    refine go_get C dX2_markDue_13 (xf2_3 q cI σ) rfl inX2 (by decide) fl_X2_39 (n := 16) rfl ?_
    refine go_iconst C dX2_markDue_16 (v := (1 : Int32)) (by decide) (n := 17) rfl ?_
    refine go_iadd C dX2_markDue_17 (n := 18) rfl ?_
    refine go_bipush C dX2_markDue_18 (v := (6 : Int32)) (by decide) (n := 20) rfl ?_
    refine go_irem C dX2_markDue_20 (by decide) (n := 21) rfl ?_
    refine go_if_eq C 27 dX2_markDue_21 (by decide) (n := 24) rfl (fun c2 => ?_) (fun c2 => ?_)
    · have hm := bx_p c2 hm
      refine go_aload_n C dX2_markDue_27 rfl 0 rfl (n := 28) rfl ?_
      refine go_get C dX2_markDue_28 (xf2_3 q cI σ) rfl inX2 (by decide) fl_X2_39 (n := 31) rfl ?_
      refine go_iconst C dX2_markDue_31 (v := (1 : Int32)) (by decide) (n := 32) rfl ?_
      refine go_iadd C dX2_markDue_32 (n := 33) rfl ?_
      refine go_bipush C dX2_markDue_33 (v := (24 : Int32)) (by decide) (n := 35) rfl ?_
      refine go_icmp_ge C 43 dX2_markDue_35 (by decide) (n := 38) rfl (fun c3 => ?_) (fun c3 => ?_)
      · have hm := bx_p c3 hm
        refine go_iconst C dX2_markDue_43 (v := (0 : Int32)) (by decide) (n := 44) rfl ?_
        subst hm
        exact go_iret C dX2_markDue_44
      · have hm := bx_n c3 hm
        refine go_bipush C dX2_markDue_38 (v := (59 : Int32)) (by decide) (n := 40) rfl ?_
        refine go_goto C 44 dX2_markDue_40 (by decide) ?_
        subst hm
        exact go_iret C dX2_markDue_44
    · have hm := bx_n c2 hm
      refine go_bipush C dX2_markDue_24 (v := (44 : Int32)) (by decide) (n := 26) rfl ?_
      subst hm
      exact go_iret C dX2_markDue_26
  · have hm := bx_p c1 hm
    refine go_bipush C dX2_markDue_9 (v := (58 : Int32)) (by decide) (n := 11) rfl ?_
    subst hm
    exact go_iret C dX2_markDue_11
def mX2_takesMark (v1 : Int32) (σ : bx_St) : Option (Int32 × bx_St) := (if (σ.1 2 4) = 0 then (some ((0 : Int32), σ)) else (if v1 = (mX2_markDue σ) then (Option.bind (mX2_endNumber σ) fun u3 => (some ((1 : Int32), u3))) else (some ((0 : Int32), σ))))
set_option maxRecDepth 8000 in
set_option maxHeartbeats 4000000 in
theorem ktX2_takesMark {l : Launch} {D : va_G} {cI cZ : ClassId} {q : Nat → Nat} {v1 : Int32} {σ : bx_St} {u : (Int32 × bx_St)} (hm : mX2_takesMark v1 σ = some u) : bx_Mt l D cI cZ yX2_takesMark cX2_takesMark 2 (some .boolean) 3 [.ref (q 2), .int v1] (bx_xw q cI σ) (some (.int u.1)) (bx_xw q cI u.2) := by
  refine bx_mk (by decide) (Nat.le_of_ble_eq_true rfl) (lv := [(0, .ref (q 2)), (1, .int v1)]) rfl (fun p e s m args below meth c A C => ?_)
  replace C : bx_Cx p s m args meth c 2 A D cI cZ RX2 cX2_takesMark (some .boolean) := C
  unfold mX2_takesMark at hm
  refine go_aload_n C dX2_takesMark_0 rfl 0 rfl (n := 1) rfl ?_
  refine go_get C dX2_takesMark_1 (xf2_4 q cI σ) rfl inX2 (by decide) fl_X2_33 (n := 4) rfl ?_
  refine go_if_eq C 15 dX2_takesMark_4 (by decide) (n := 7) rfl (fun c1 => ?_) (fun c1 => ?_)
  · have hm := bx_p c1 hm
    refine go_iconst C dX2_takesMark_15 (v := (0 : Int32)) (by decide) (n := 16) rfl ?_
    cases hm
    exact go_zret C dX2_takesMark_16 (Or.inl rfl)
  · have hm := bx_n c1 hm
    refine go_iload_n C dX2_takesMark_7 rfl 1 rfl (n := 8) rfl ?_
    refine go_aload_n C dX2_takesMark_8 rfl 0 rfl (n := 9) rfl ?_
    refine go_callVi C dX2_takesMark_9 mw_X2_markDue ml_X2_62 (rest := [.int v1]) (ktX2_markDue rfl) (xo2 q cI σ) rfl (by decide) rfl rfl (Nat.le_of_ble_eq_true rfl) (n := 12) rfl ?_
    refine go_icmp_eq C 17 dX2_takesMark_12 (by decide) (n := 15) rfl (fun c2 => ?_) (fun c2 => ?_)
    · have hm := bx_p c2 hm
      refine go_aload_n C dX2_takesMark_17 rfl 0 rfl (n := 18) rfl ?_
      obtain ⟨u3, e4, hm⟩ := bx_b hm
      refine go_callVv C dX2_takesMark_18 mw_X2_endNumber ml_X2_36 (rest := []) (ktX2_endNumber e4) (xo2 q cI σ) rfl (by decide) rfl rfl (Nat.le_of_ble_eq_true rfl) (n := 21) rfl ?_
      refine go_iconst C dX2_takesMark_21 (v := (1 : Int32)) (by decide) (n := 22) rfl ?_
      cases hm
      exact go_zret C dX2_takesMark_22 (Or.inr rfl)
    · have hm := bx_n c2 hm
      refine go_iconst C dX2_takesMark_15 (v := (0 : Int32)) (by decide) (n := 16) rfl ?_
      cases hm
      exact go_zret C dX2_takesMark_16 (Or.inl rfl)
def mX2_takesMinus (σ : bx_St) : Option (Int32 × bx_St) := (if (σ.1 2 6) = 0 then (if (σ.1 2 4) ≤ 0 then (some ((1 : Int32), (bx_up σ 2 6 (1 : Int32)))) else (some ((0 : Int32), σ))) else (some ((0 : Int32), σ)))
set_option maxRecDepth 8000 in
set_option maxHeartbeats 4000000 in
theorem ktX2_takesMinus {l : Launch} {D : va_G} {cI cZ : ClassId} {q : Nat → Nat} {σ : bx_St} {u : (Int32 × bx_St)} (hm : mX2_takesMinus σ = some u) : bx_Mt l D cI cZ yX2_takesMinus cX2_takesMinus 1 (some .boolean) 1 [.ref (q 2)] (bx_xw q cI σ) (some (.int u.1)) (bx_xw q cI u.2) := by
  refine bx_mk (by decide) (Nat.le_of_ble_eq_true rfl) (lv := [(0, .ref (q 2))]) rfl (fun p e s m args below meth c A C => ?_)
  replace C : bx_Cx p s m args meth c 1 A D cI cZ RX2 cX2_takesMinus (some .boolean) := C
  unfold mX2_takesMinus at hm
  refine go_aload_n C dX2_takesMinus_0 rfl 0 rfl (n := 1) rfl ?_
  refine go_get C dX2_takesMinus_1 (xf2_6 q cI σ) rfl inX2 (by decide) fl_X2_48 (n := 4) rfl ?_
  refine go_if_ne C 14 dX2_takesMinus_4 (by decide) (n := 7) rfl (fun c1 => ?_) (fun c1 => ?_)
  · have hm := bx_n c1 hm
    refine go_iconst C dX2_takesMinus_14 (v := (0 : Int32)) (by decide) (n := 15) rfl ?_
    cases hm
    exact go_zret C dX2_takesMinus_15 (Or.inl rfl)
  · have hm := bx_p c1 hm
    refine go_aload_n C dX2_takesMinus_7 rfl 0 rfl (n := 8) rfl ?_
    refine go_get C dX2_takesMinus_8 (xf2_4 q cI σ) rfl inX2 (by decide) fl_X2_33 (n := 11) rfl ?_
    refine go_if_le C 16 dX2_takesMinus_11 (by decide) (n := 14) rfl (fun c2 => ?_) (fun c2 => ?_)
    · have hm := bx_p c2 hm
      refine go_aload_n C dX2_takesMinus_16 rfl 0 rfl (n := 17) rfl ?_
      refine go_iconst C dX2_takesMinus_17 (v := (1 : Int32)) (by decide) (n := 18) rfl ?_
      refine go_put C dX2_takesMinus_18 (xp2_6 q cI σ (1 : Int32)) rfl inX2 tyX2_ok nmX2 (by decide) fl_X2_48 rfl (ty := .boolean) (by decide +kernel) (by rfl) (by rfl) (n := 21) rfl ?_
      refine go_iconst C dX2_takesMinus_21 (v := (1 : Int32)) (by decide) (n := 22) rfl ?_
      cases hm
      exact go_zret C dX2_takesMinus_22 (Or.inr rfl)
    · have hm := bx_n c2 hm
      refine go_iconst C dX2_takesMinus_14 (v := (0 : Int32)) (by decide) (n := 15) rfl ?_
      cases hm
      exact go_zret C dX2_takesMinus_15 (Or.inl rfl)
def mX2_takes_32 (v1 : Int32) (σ : bx_St) : Option (Int32 × bx_St) := (Option.bind (mX2_takesMark v1 σ) fun u1 => (if bx_bo u1.1 then (some (u1.1, u1.2)) else none))
set_option maxRecDepth 8000 in
set_option maxHeartbeats 4000000 in
theorem mX2_takes_32_ok (C : bx_Cx p s m args meth c 2 A D cI cZ RX2 cX2_takes (some .boolean)) : ∀ (v1 : Int32) (σ : bx_St) (u : (Int32 × bx_St)), mX2_takes_32 v1 σ = some u → bx_Go p l e (bx_rm 4) s m args below meth c 2 A D (MQ below (bx_Q (some (.int u.1)) (bx_xw q cI u.2) D A) args s 0 0 A) (bx_xw q cI σ) 32 [(0, .ref (q 2)), (1, .int v1)] [] := by
  intro v1 σ u hm
  unfold mX2_takes_32 at hm
  refine go_aload_n C dX2_takes_32 rfl 0 rfl (n := 33) rfl ?_
  refine go_iload_n C dX2_takes_33 rfl 1 rfl (n := 34) rfl ?_
  obtain ⟨u1, e2, hm⟩ := bx_b hm
  refine go_callVi C dX2_takes_34 mw_X2_takesMark ml_X2_59 (rest := []) (ktX2_takesMark e2) (xo2 q cI σ) rfl (by decide) rfl rfl (Nat.le_of_ble_eq_true rfl) (n := 37) rfl ?_
  obtain ⟨b3, hm⟩ := bx_g hm
  cases hm
  exact go_zret C dX2_takes_37 b3
def mX2_takes (v1 : Int32) (σ : bx_St) : Option (Int32 × bx_St) := (if v1 = (45 : Int32) then (Option.bind (mX2_takesMinus σ) fun u7 => (if bx_bo u7.1 then (some (u7.1, u7.2)) else none)) else (if v1 < (48 : Int32) then (mX2_takes_32 v1 σ) else (if (57 : Int32) < v1 then (mX2_takes_32 v1 σ) else (Option.bind (mX2_takesFigure (v1 - (48 : Int32)) σ) fun u4 => (if bx_bo u4.1 then (some (u4.1, u4.2)) else none)))))
set_option maxRecDepth 8000 in
set_option maxHeartbeats 4000000 in
theorem ktX2_takes {l : Launch} {D : va_G} {cI cZ : ClassId} {q : Nat → Nat} {v1 : Int32} {σ : bx_St} {u : (Int32 × bx_St)} (hm : mX2_takes v1 σ = some u) : bx_Mt l D cI cZ yX2_takes cX2_takes 2 (some .boolean) 4 [.ref (q 2), .int v1] (bx_xw q cI σ) (some (.int u.1)) (bx_xw q cI u.2) := by
  refine bx_mk (by decide) (Nat.le_of_ble_eq_true rfl) (lv := [(0, .ref (q 2)), (1, .int v1)]) rfl (fun p e s m args below meth c A C => ?_)
  replace C : bx_Cx p s m args meth c 2 A D cI cZ RX2 cX2_takes (some .boolean) := C
  unfold mX2_takes at hm
  refine go_iload_n C dX2_takes_0 rfl 1 rfl (n := 1) rfl ?_
  refine go_bipush C dX2_takes_1 (v := (45 : Int32)) (by decide) (n := 3) rfl ?_
  refine go_icmp_ne C 11 dX2_takes_3 (by decide) (n := 6) rfl (fun c1 => ?_) (fun c1 => ?_)
  · have hm := bx_n c1 hm
    refine go_iload_n C dX2_takes_11 rfl 1 rfl (n := 12) rfl ?_
    refine go_bipush C dX2_takes_12 (v := (48 : Int32)) (by decide) (n := 14) rfl ?_
    refine go_icmp_lt C 32 dX2_takes_14 (by decide) (n := 17) rfl (fun c2 => ?_) (fun c2 => ?_)
    · have hm := bx_p c2 hm
      refine go_lv (lv' := [(0, .ref (q 2)), (1, .int v1)]) [0, 1] rfl ?_
      exact mX2_takes_32_ok C _ _ _ hm
    · have hm := bx_n c2 hm
      refine go_iload_n C dX2_takes_17 rfl 1 rfl (n := 18) rfl ?_
      refine go_bipush C dX2_takes_18 (v := (57 : Int32)) (by decide) (n := 20) rfl ?_
      refine go_icmp_gt C 32 dX2_takes_20 (by decide) (n := 23) rfl (fun c3 => ?_) (fun c3 => ?_)
      · have hm := bx_p c3 hm
        refine go_lv (lv' := [(0, .ref (q 2)), (1, .int v1)]) [0, 1] rfl ?_
        exact mX2_takes_32_ok C _ _ _ hm
      · have hm := bx_n c3 hm
        refine go_aload_n C dX2_takes_23 rfl 0 rfl (n := 24) rfl ?_
        refine go_iload_n C dX2_takes_24 rfl 1 rfl (n := 25) rfl ?_
        refine go_bipush C dX2_takes_25 (v := (48 : Int32)) (by decide) (n := 27) rfl ?_
        refine go_isub C dX2_takes_27 (n := 28) rfl ?_
        obtain ⟨u4, e5, hm⟩ := bx_b hm
        refine go_callVi C dX2_takes_28 mw_X2_takesFigure ml_X2_56 (rest := []) (ktX2_takesFigure e5) (xo2 q cI σ) rfl (by decide) rfl rfl (Nat.le_of_ble_eq_true rfl) (n := 31) rfl ?_
        obtain ⟨b6, hm⟩ := bx_g hm
        cases hm
        exact go_zret C dX2_takes_31 b6
  · have hm := bx_p c1 hm
    refine go_aload_n C dX2_takes_6 rfl 0 rfl (n := 7) rfl ?_
    obtain ⟨u7, e8, hm⟩ := bx_b hm
    refine go_callVi C dX2_takes_7 mw_X2_takesMinus ml_X2_52 (rest := []) (ktX2_takesMinus e8) (xo2 q cI σ) rfl (by decide) rfl rfl (Nat.le_of_ble_eq_true rfl) (n := 10) rfl ?_
    obtain ⟨b9, hm⟩ := bx_g hm
    cases hm
    exact go_zret C dX2_takes_10 b9
end
