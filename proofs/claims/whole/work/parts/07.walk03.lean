section
variable {p : Program} {l : Launch} {e : Env} {s : State} {m : MethodId} {args : Array Value} {below : List Frame} {meth : Method} {c : Code} {A : Nat → Prop} {D : va_G} {cI cZ : ClassId} {q : Nat → Nat} {ws : va_W}
def mX3_boxes_85 (v1 : Int32) (σ : bx_St) : Option (Int32 × bx_St) := (Option.bind (mX3_rearrange (mX2_clear σ)) fun u1 => (some (v1, u1)))
set_option maxRecDepth 8000 in
set_option maxHeartbeats 4000000 in
theorem mX3_boxes_85_ok (C : bx_Cx p s m args meth c 4 A D cI cZ RX3 cX3_boxes (some .int)) : ∀ (v1 : Int32) (σ : bx_St) (u : (Int32 × bx_St)), mX3_boxes_85 v1 σ = some u → bx_Go p l e (bx_rm 7) s m args below meth c 4 A D (MQ below (bx_Q (some (.int u.1)) (bx_xw q cI u.2) D A) args s 0 0 A) (bx_xw q cI σ) 85 [(0, .ref (q 0)), (1, .int v1)] [] := by
  intro v1 σ u hm
  unfold mX3_boxes_85 at hm
  refine go_aload_n C dX3_boxes_85 rfl 0 rfl (n := 86) rfl ?_
  refine go_get C dX3_boxes_86 (xf3_0 q cI σ) rfl inX3 (by decide) fl_X3_10 (n := 89) rfl ?_
  refine go_callVv C dX3_boxes_89 mw_X2_clear ml_X3_55 (rest := []) (ktX2_clear rfl) (xo2 q cI σ) rfl (by decide) rfl rfl (Nat.le_of_ble_eq_true rfl) (n := 92) rfl ?_
  refine go_aload_n C dX3_boxes_92 rfl 0 rfl (n := 93) rfl ?_
  obtain ⟨u1, e2, hm⟩ := bx_b hm
  refine go_callVv C dX3_boxes_93 mw_X3_rearrange ml_X3_85 (rest := []) (ktX3_rearrange e2) (xo3 q cI (mX2_clear σ)) rfl (by decide) rfl rfl (Nat.le_of_ble_eq_true rfl) (n := 96) rfl ?_
  refine go_iload_n C dX3_boxes_96 rfl 1 rfl (n := 97) rfl ?_
  cases hm
  exact go_iret C dX3_boxes_97
def mX3_boxes_79 (K51 : Int32 → Int32 → Int32 → bx_St → Option (Int32 × bx_St)) (v1 : Int32) (v2 : Int32) (v3 : Int32) (σ : bx_St) : Option (Int32 × bx_St) := (K51 v1 v2 (v3 + 1) σ)
set_option maxRecDepth 8000 in
set_option maxHeartbeats 4000000 in
theorem mX3_boxes_79_ok (C : bx_Cx p s m args meth c 4 A D cI cZ RX3 cX3_boxes (some .int)) (K51 : Int32 → Int32 → Int32 → bx_St → Option (Int32 × bx_St)) (HK51 : ∀ (v1 : Int32) (v2 : Int32) (v3 : Int32) (σ : bx_St) (u : (Int32 × bx_St)), K51 v1 v2 v3 σ = some u → bx_Go p l e (bx_rm 7) s m args below meth c 4 A D (MQ below (bx_Q (some (.int u.1)) (bx_xw q cI u.2) D A) args s 0 0 A) (bx_xw q cI σ) 51 [(0, .ref (q 0)), (1, .int v1), (2, .int v2), (3, .int v3)] []) : ∀ (v1 : Int32) (v2 : Int32) (v3 : Int32) (σ : bx_St) (u : (Int32 × bx_St)), mX3_boxes_79 K51 v1 v2 v3 σ = some u → bx_Go p l e (bx_rm 7) s m args below meth c 4 A D (MQ below (bx_Q (some (.int u.1)) (bx_xw q cI u.2) D A) args s 0 0 A) (bx_xw q cI σ) 79 [(0, .ref (q 0)), (1, .int v1), (2, .int v2), (3, .int v3)] [] := by
  intro v1 v2 v3 σ u hm
  unfold mX3_boxes_79 at hm
  refine go_iinc C (j := 3) dX3_boxes_79 rfl (v := (v3 + 1)) rfl (by decide) (lv' := [(3, .int (v3 + 1)), (0, .ref (q 0)), (1, .int v1), (2, .int v2)]) rfl (n := 82) rfl ?_
  refine go_goto C 51 dX3_boxes_82 (by decide) ?_
  refine go_lv (lv' := [(0, .ref (q 0)), (1, .int v1), (2, .int v2), (3, .int (v3 + 1))]) [1, 2, 3, 0] rfl ?_
  exact HK51 _ _ _ _ _ hm
def mX3_boxes_51 : Nat → Int32 → Int32 → Int32 → bx_St → Option (Int32 × bx_St)
  | 0, _, _, _, _ => none
  | n + 1, v1, v2, v3, σ => (if (12 : Int32) ≤ v3 then (mX3_boxes_85 v1 σ) else (if v1 ≤ v2 then (mX3_boxes_85 v1 σ) else (if (mX3_isThere v3 σ) = 0 then (Option.bind (mX3_settle v3 v2 σ) fun u4 => (mX3_boxes_79 (mX3_boxes_51 n) v1 (v2 + 1) v3 u4)) else (mX3_boxes_79 (mX3_boxes_51 n) v1 v2 v3 σ))))
set_option maxRecDepth 8000 in
set_option maxHeartbeats 4000000 in
theorem mX3_boxes_51_ok (C : bx_Cx p s m args meth c 4 A D cI cZ RX3 cX3_boxes (some .int)) : ∀ (n : Nat) (v1 : Int32) (v2 : Int32) (v3 : Int32) (σ : bx_St) (u : (Int32 × bx_St)), mX3_boxes_51 n v1 v2 v3 σ = some u → bx_Go p l e (bx_rm 7) s m args below meth c 4 A D (MQ below (bx_Q (some (.int u.1)) (bx_xw q cI u.2) D A) args s 0 0 A) (bx_xw q cI σ) 51 [(0, .ref (q 0)), (1, .int v1), (2, .int v2), (3, .int v3)] [] := by
  intro n
  induction n with
  | zero =>
    intro v1 v2 v3 σ u hm
    cases hm
  | succ n ih =>
    intro v1 v2 v3 σ u hm
    rw [mX3_boxes_51] at hm
    refine go_iload_n C dX3_boxes_51 rfl 3 rfl (n := 52) rfl ?_
    refine go_bipush C dX3_boxes_52 (v := (12 : Int32)) (by decide) (n := 54) rfl ?_
    refine go_icmp_ge C 85 dX3_boxes_54 (by decide) (n := 57) rfl (fun c1 => ?_) (fun c1 => ?_)
    · have hm := bx_p c1 hm
      refine go_lv (lv' := [(0, .ref (q 0)), (1, .int v1)]) [0, 1] rfl ?_
      exact mX3_boxes_85_ok C _ _ _ hm
    · have hm := bx_n c1 hm
      refine go_iload_n C dX3_boxes_57 rfl 2 rfl (n := 58) rfl ?_
      refine go_iload_n C dX3_boxes_58 rfl 1 rfl (n := 59) rfl ?_
      refine go_icmp_ge C 85 dX3_boxes_59 (by decide) (n := 62) rfl (fun c2 => ?_) (fun c2 => ?_)
      · have hm := bx_p c2 hm
        refine go_lv (lv' := [(0, .ref (q 0)), (1, .int v1)]) [0, 1] rfl ?_
        exact mX3_boxes_85_ok C _ _ _ hm
      · have hm := bx_n c2 hm
        refine go_aload_n C dX3_boxes_62 rfl 0 rfl (n := 63) rfl ?_
        refine go_iload_n C dX3_boxes_63 rfl 3 rfl (n := 64) rfl ?_
        refine go_callVi C dX3_boxes_64 mw_X3_isThere ml_X3_78 (rest := []) (ktX3_isThere rfl) (xo3 q cI σ) rfl (by decide) rfl rfl (Nat.le_of_ble_eq_true rfl) (n := 67) rfl ?_
        refine go_if_ne C 79 dX3_boxes_67 (by decide) (n := 70) rfl (fun c3 => ?_) (fun c3 => ?_)
        · have hm := bx_n c3 hm
          refine go_lv (lv' := [(0, .ref (q 0)), (1, .int v1), (2, .int v2), (3, .int v3)]) [0, 1, 2, 3] rfl ?_
          exact mX3_boxes_79_ok C _ ih _ _ _ _ _ hm
        · have hm := bx_p c3 hm
          refine go_aload_n C dX3_boxes_70 rfl 0 rfl (n := 71) rfl ?_
          refine go_iload_n C dX3_boxes_71 rfl 3 rfl (n := 72) rfl ?_
          refine go_iload_n C dX3_boxes_72 rfl 2 rfl (n := 73) rfl ?_
          obtain ⟨u4, e5, hm⟩ := bx_b hm
          refine go_callVv C dX3_boxes_73 mw_X3_settle ml_X3_81 (rest := []) (ktX3_settle e5) (xo3 q cI σ) rfl (by decide) rfl rfl (Nat.le_of_ble_eq_true rfl) (n := 76) rfl ?_
          refine go_iinc C (j := 2) dX3_boxes_76 rfl (v := (v2 + 1)) rfl (by decide) (lv' := [(2, .int (v2 + 1)), (0, .ref (q 0)), (1, .int v1), (3, .int v3)]) rfl (n := 79) rfl ?_
          refine go_lv (lv' := [(0, .ref (q 0)), (1, .int v1), (2, .int (v2 + 1)), (3, .int v3)]) [1, 2, 0, 3] rfl ?_
          exact mX3_boxes_79_ok C _ ih _ _ _ _ _ hm
def mX3_boxes (σ : bx_St) : Option (Int32 × bx_St) := (Option.bind (mX2_isBatch σ) fun u1 => (if u1.1 = 0 then (some ((-10004 : Int32), u1.2)) else (if ((mJ6_bitCount_0f7a4 (u1.2.1 0 6)) + (mX2_batchSize u1.2)) ≤ (12 : Int32) then (Option.bind (mX0_open u1.2) fun u5 => (mX3_boxes_51 bx_F (mX2_batchSize u1.2) (0 : Int32) (0 : Int32) u5)) else (some ((-10005 : Int32), u1.2)))))
set_option maxRecDepth 8000 in
set_option maxHeartbeats 4000000 in
theorem ktX3_boxes {l : Launch} {D : va_G} {cI cZ : ClassId} {q : Nat → Nat} {σ : bx_St} {u : (Int32 × bx_St)} (hm : mX3_boxes σ = some u) : bx_Mt l D cI cZ yX3_boxes cX3_boxes 4 (some .int) 7 [.ref (q 0)] (bx_xw q cI σ) (some (.int u.1)) (bx_xw q cI u.2) := by
  refine bx_mk (by decide) (Nat.le_of_ble_eq_true rfl) (lv := [(0, .ref (q 0))]) rfl (fun p e s m args below meth c A C => ?_)
  replace C : bx_Cx p s m args meth c 4 A D cI cZ RX3 cX3_boxes (some .int) := C
  unfold mX3_boxes at hm
  refine go_aload_n C dX3_boxes_0 rfl 0 rfl (n := 1) rfl ?_
  refine go_get C dX3_boxes_1 (xf3_0 q cI σ) rfl inX3 (by decide) fl_X3_10 (n := 4) rfl ?_
  obtain ⟨u1, e2, hm⟩ := bx_b hm
  refine go_callVi C dX3_boxes_4 mw_X2_isBatch ml_X3_62 (rest := []) (ktX2_isBatch e2) (xo2 q cI σ) rfl (by decide) rfl rfl (Nat.le_of_ble_eq_true rfl) (n := 7) rfl ?_
  refine go_if_ne C 14 dX3_boxes_7 (by decide) (n := 10) rfl (fun c3 => ?_) (fun c3 => ?_)
  · have hm := bx_n c3 hm
    refine go_aload_n C dX3_boxes_14 rfl 0 rfl (n := 15) rfl ?_
    refine go_get C dX3_boxes_15 (xf3_0 q cI u1.2) rfl inX3 (by decide) fl_X3_10 (n := 18) rfl ?_
    refine go_callVi C dX3_boxes_18 mw_X2_batchSize ml_X3_66 (rest := []) (ktX2_batchSize rfl) (xo2 q cI u1.2) rfl (by decide) rfl rfl (Nat.le_of_ble_eq_true rfl) (n := 21) rfl ?_
    refine go_istore_n C dX3_boxes_21 rfl (by decide) (lv' := [(1, .int (mX2_batchSize u1.2)), (0, .ref (q 0))]) rfl (n := 22) rfl ?_
    refine go_aload_n C dX3_boxes_22 rfl 1 rfl (n := 23) rfl ?_
    refine go_get C dX3_boxes_23 (xf3_6 q cI u1.2) rfl inX3 (by decide) fl_X3_40 (n := 26) rfl ?_
    refine go_callSi C dX3_boxes_26 mw_J6_bitCount_0f7a4 ml_X3_69 (rest := []) (ktJ6_bitCount_0f7a4 rfl) (by decide) rfl rfl (Nat.le_of_ble_eq_true rfl) (n := 29) rfl ?_
    refine go_iload_n C dX3_boxes_29 rfl 0 rfl (n := 30) rfl ?_
    refine go_iadd C dX3_boxes_30 (n := 31) rfl ?_
    refine go_bipush C dX3_boxes_31 (v := (12 : Int32)) (by decide) (n := 33) rfl ?_
    refine go_icmp_le C 40 dX3_boxes_33 (by decide) (n := 36) rfl (fun c4 => ?_) (fun c4 => ?_)
    · have hm := bx_p c4 hm
      refine go_aload_n C dX3_boxes_40 rfl 1 rfl (n := 41) rfl ?_
      refine go_get C dX3_boxes_41 (xf3_4 q cI u1.2) rfl inX3 (by decide) fl_X3_32 (n := 44) rfl ?_
      obtain ⟨u5, e6, hm⟩ := bx_b hm
      refine go_callVv C dX3_boxes_44 mw_X0_open ml_X3_75 (rest := []) (ktX0_open e6) (xo0 q cI u1.2) rfl (by decide) rfl rfl (Nat.le_of_ble_eq_true rfl) (n := 47) rfl ?_
      refine go_iconst C dX3_boxes_47 (v := (0 : Int32)) (by decide) (n := 48) rfl ?_
      refine go_istore_n C dX3_boxes_48 rfl (by decide) (lv' := [(2, .int (0 : Int32)), (1, .int (mX2_batchSize u1.2)), (0, .ref (q 0))]) rfl (n := 49) rfl ?_
      refine go_iconst C dX3_boxes_49 (v := (0 : Int32)) (by decide) (n := 50) rfl ?_
      refine go_istore_n C dX3_boxes_50 rfl (by decide) (lv' := [(3, .int (0 : Int32)), (2, .int (0 : Int32)), (1, .int (mX2_batchSize u1.2)), (0, .ref (q 0))]) rfl (n := 51) rfl ?_
      refine go_lv (lv' := [(0, .ref (q 0)), (1, .int (mX2_batchSize u1.2)), (2, .int (0 : Int32)), (3, .int (0 : Int32))]) [3, 2, 1, 0] rfl ?_
      exact mX3_boxes_51_ok C _ _ _ _ _ _ hm
    · have hm := bx_n c4 hm
      refine go_sipush C dX3_boxes_36 (v := (-10005 : Int32)) (by decide) (n := 39) rfl ?_
      cases hm
      exact go_iret C dX3_boxes_39
  · have hm := bx_p c3 hm
    refine go_sipush C dX3_boxes_10 (v := (-10004 : Int32)) (by decide) (n := 13) rfl ?_
    cases hm
    exact go_iret C dX3_boxes_13
def mX3_pairCount_4 : Nat → Int32 → Int32 → bx_St → Option Int32
  | 0, _, _, _ => none
  | n + 1, v1, v2, σ => (if (12 : Int32) ≤ v2 then (some (v1 / (2 : Int32))) else (if bx_ok v2 12 then (mX3_pairCount_4 n (v1 + (mJ6_bitCount_0f7a4 (σ.1 1 v2.toNatClampNeg))) (v2 + 1) σ) else none))
set_option maxRecDepth 8000 in
set_option maxHeartbeats 4000000 in
theorem mX3_pairCount_4_ok (C : bx_Cx p s m args meth c 3 A D cI cZ RX3 cX3_pairCount (some .int)) : ∀ (n : Nat) (v1 : Int32) (v2 : Int32) (σ : bx_St) (u : Int32), mX3_pairCount_4 n v1 v2 σ = some u → bx_Go p l e (bx_rm 2) s m args below meth c 3 A D (MQ below (bx_Q (some (.int u)) (bx_xw q cI σ) D A) args s 0 0 A) (bx_xw q cI σ) 4 [(0, .ref (q 0)), (1, .int v1), (2, .int v2)] [] := by
  intro n
  induction n with
  | zero =>
    intro v1 v2 σ u hm
    cases hm
  | succ n ih =>
    intro v1 v2 σ u hm
    rw [mX3_pairCount_4] at hm
    refine go_iload_n C dX3_pairCount_4 rfl 2 rfl (n := 5) rfl ?_
    refine go_bipush C dX3_pairCount_5 (v := (12 : Int32)) (by decide) (n := 7) rfl ?_
    refine go_icmp_ge C 28 dX3_pairCount_7 (by decide) (n := 10) rfl (fun c1 => ?_) (fun c1 => ?_)
    · have hm := bx_p c1 hm
      refine go_iload_n C dX3_pairCount_28 rfl 1 rfl (n := 29) rfl ?_
      refine go_iconst C dX3_pairCount_29 (v := (2 : Int32)) (by decide) (n := 30) rfl ?_
      refine go_idiv C dX3_pairCount_30 (by decide) (n := 31) rfl ?_
      cases hm
      exact go_iret C dX3_pairCount_31
    · have hm := bx_n c1 hm
      refine go_iload_n C dX3_pairCount_10 rfl 1 rfl (n := 11) rfl ?_
      refine go_aload_n C dX3_pairCount_11 rfl 0 rfl (n := 12) rfl ?_
      refine go_get C dX3_pairCount_12 (xf3_5 q cI σ) rfl inX3 (by decide) fl_X3_36 (n := 15) rfl ?_
      refine go_iload_n C dX3_pairCount_15 rfl 2 rfl (n := 16) rfl ?_
      obtain ⟨b2, hm⟩ := bx_g hm
      refine go_iald C dX3_pairCount_16 (xa_1 q cI σ) b2 (n := 17) rfl ?_
      refine go_callSi C dX3_pairCount_17 mw_J6_bitCount_0f7a4 ml_X3_69 (rest := [.int v1]) (ktJ6_bitCount_0f7a4 rfl) (by decide) rfl rfl (Nat.le_of_ble_eq_true rfl) (n := 20) rfl ?_
      refine go_iadd C dX3_pairCount_20 (n := 21) rfl ?_
      refine go_istore_n C dX3_pairCount_21 rfl (by decide) (lv' := [(1, .int (v1 + (mJ6_bitCount_0f7a4 (σ.1 1 v2.toNatClampNeg)))), (0, .ref (q 0)), (2, .int v2)]) rfl (n := 22) rfl ?_
      refine go_iinc C (j := 2) dX3_pairCount_22 rfl (v := (v2 + 1)) rfl (by decide) (lv' := [(2, .int (v2 + 1)), (1, .int (v1 + (mJ6_bitCount_0f7a4 (σ.1 1 v2.toNatClampNeg)))), (0, .ref (q 0))]) rfl (n := 25) rfl ?_
      refine go_goto C 4 dX3_pairCount_25 (by decide) ?_
      refine go_lv (lv' := [(0, .ref (q 0)), (1, .int (v1 + (mJ6_bitCount_0f7a4 (σ.1 1 v2.toNatClampNeg)))), (2, .int (v2 + 1))]) [2, 1, 0] rfl ?_
      exact ih _ _ _ _ hm
def mX3_pairCount (σ : bx_St) : Option Int32 := (mX3_pairCount_4 bx_F (0 : Int32) (0 : Int32) σ)
set_option maxRecDepth 8000 in
set_option maxHeartbeats 4000000 in
theorem ktX3_pairCount {l : Launch} {D : va_G} {cI cZ : ClassId} {q : Nat → Nat} {σ : bx_St} {u : Int32} (hm : mX3_pairCount σ = some u) : bx_Mt l D cI cZ yX3_pairCount cX3_pairCount 3 (some .int) 2 [.ref (q 0)] (bx_xw q cI σ) (some (.int u)) (bx_xw q cI σ) := by
  refine bx_mk (by decide) (Nat.le_of_ble_eq_true rfl) (lv := [(0, .ref (q 0))]) rfl (fun p e s m args below meth c A C => ?_)
  replace C : bx_Cx p s m args meth c 3 A D cI cZ RX3 cX3_pairCount (some .int) := C
  unfold mX3_pairCount at hm
  refine go_iconst C dX3_pairCount_0 (v := (0 : Int32)) (by decide) (n := 1) rfl ?_
  refine go_istore_n C dX3_pairCount_1 rfl (by decide) (lv' := [(1, .int (0 : Int32)), (0, .ref (q 0))]) rfl (n := 2) rfl ?_
  refine go_iconst C dX3_pairCount_2 (v := (0 : Int32)) (by decide) (n := 3) rfl ?_
  refine go_istore_n C dX3_pairCount_3 rfl (by decide) (lv' := [(2, .int (0 : Int32)), (1, .int (0 : Int32)), (0, .ref (q 0))]) rfl (n := 4) rfl ?_
  refine go_lv (lv' := [(0, .ref (q 0)), (1, .int (0 : Int32)), (2, .int (0 : Int32))]) [2, 1, 0] rfl ?_
  exact mX3_pairCount_4_ok C _ _ _ _ _ hm
def mX3_count (v1 : Int32) (σ : bx_St) : Option Int32 := (if v1 = (0 : Int32) then (some (σ.1 2 1)) else (if v1 = (1 : Int32) then (some (mJ6_bitCount_0f7a4 (σ.1 0 6))) else (if v1 = (2 : Int32) then (Option.bind (mX3_pairCount σ) fun u4 => (some u4)) else (if v1 = (3 : Int32) then (some (σ.1 5 5)) else (if v1 = (4 : Int32) then (some (σ.1 5 6)) else (if v1 = (5 : Int32) then (some (σ.1 5 7)) else (if v1 = (6 : Int32) then (some (σ.1 5 8)) else (if v1 = (7 : Int32) then (some (σ.1 5 9)) else (if v1 = (8 : Int32) then (if (σ.1 0 7) = 0 then (some (0 : Int32)) else (some (1 : Int32))) else (if v1 = (9 : Int32) then (some (σ.1 0 6)) else (some (-10003 : Int32))))))))))))
set_option maxRecDepth 8000 in
set_option maxHeartbeats 4000000 in
theorem ktX3_count {l : Launch} {D : va_G} {cI cZ : ClassId} {q : Nat → Nat} {v1 : Int32} {σ : bx_St} {u : Int32} (hm : mX3_count v1 σ = some u) : bx_Mt l D cI cZ yX3_count cX3_count 2 (some .int) 3 [.ref (q 0), .int v1] (bx_xw q cI σ) (some (.int u)) (bx_xw q cI σ) := by
  refine bx_mk (by decide) (Nat.le_of_ble_eq_true rfl) (lv := [(0, .ref (q 0)), (1, .int v1)]) rfl (fun p e s m args below meth c A C => ?_)
  replace C : bx_Cx p s m args meth c 2 A D cI cZ RX3 cX3_count (some .int) := C
  unfold mX3_count at hm
  refine go_iload_n C dX3_count_0 rfl 1 rfl (n := 1) rfl ?_
  by_cases c1 : v1 = (0 : Int32)
  · have hm := bx_p c1 hm
    refine go_tableIn C 56 dX3_count_1 (off := 55) (by rw [c1]; decide) (by rw [c1]; decide) (by rw [c1]; decide) (by decide) ?_
    refine go_aload_n C dX3_count_56 rfl 0 rfl (n := 57) rfl ?_
    refine go_get C dX3_count_57 (xf3_0 q cI σ) rfl inX3 (by decide) fl_X3_10 (n := 60) rfl ?_
    refine go_get C dX3_count_60 (xf2_1 q cI σ) rfl inX2 (by decide) fl_X3_52 (n := 63) rfl ?_
    cases hm
    exact go_iret C dX3_count_63
  have hm := bx_n c1 hm
  by_cases c2 : v1 = (1 : Int32)
  · have hm := bx_p c2 hm
    refine go_tableIn C 64 dX3_count_1 (off := 63) (by rw [c2]; decide) (by rw [c2]; decide) (by rw [c2]; decide) (by decide) ?_
    refine go_aload_n C dX3_count_64 rfl 0 rfl (n := 65) rfl ?_
    refine go_get C dX3_count_65 (xf3_6 q cI σ) rfl inX3 (by decide) fl_X3_40 (n := 68) rfl ?_
    refine go_callSi C dX3_count_68 mw_J6_bitCount_0f7a4 ml_X3_69 (rest := []) (ktJ6_bitCount_0f7a4 rfl) (by decide) rfl rfl (Nat.le_of_ble_eq_true rfl) (n := 71) rfl ?_
    cases hm
    exact go_iret C dX3_count_71
  have hm := bx_n c2 hm
  by_cases c3 : v1 = (2 : Int32)
  · have hm := bx_p c3 hm
    refine go_tableIn C 72 dX3_count_1 (off := 71) (by rw [c3]; decide) (by rw [c3]; decide) (by rw [c3]; decide) (by decide) ?_
    refine go_aload_n C dX3_count_72 rfl 0 rfl (n := 73) rfl ?_
    obtain ⟨u4, e5, hm⟩ := bx_b hm
    refine go_callVi C dX3_count_73 mw_X3_pairCount ml_X3_196 (rest := []) (ktX3_pairCount e5) (xo3 q cI σ) rfl (by decide) rfl rfl (Nat.le_of_ble_eq_true rfl) (n := 76) rfl ?_
    cases hm
    exact go_iret C dX3_count_76
  have hm := bx_n c3 hm
  by_cases c6 : v1 = (3 : Int32)
  · have hm := bx_p c6 hm
    refine go_tableIn C 77 dX3_count_1 (off := 76) (by rw [c6]; decide) (by rw [c6]; decide) (by rw [c6]; decide) (by decide) ?_
    refine go_aload_n C dX3_count_77 rfl 0 rfl (n := 78) rfl ?_
    refine go_get C dX3_count_78 (xf3_4 q cI σ) rfl inX3 (by decide) fl_X3_32 (n := 81) rfl ?_
    refine go_get C dX3_count_81 (xf0_5 q cI σ) rfl inX0 (by decide) fl_X3_199 (n := 84) rfl ?_
    cases hm
    exact go_iret C dX3_count_84
  have hm := bx_n c6 hm
  by_cases c7 : v1 = (4 : Int32)
  · have hm := bx_p c7 hm
    refine go_tableIn C 85 dX3_count_1 (off := 84) (by rw [c7]; decide) (by rw [c7]; decide) (by rw [c7]; decide) (by decide) ?_
    refine go_aload_n C dX3_count_85 rfl 0 rfl (n := 86) rfl ?_
    refine go_get C dX3_count_86 (xf3_4 q cI σ) rfl inX3 (by decide) fl_X3_32 (n := 89) rfl ?_
    refine go_get C dX3_count_89 (xf0_6 q cI σ) rfl inX0 (by decide) fl_X3_202 (n := 92) rfl ?_
    cases hm
    exact go_iret C dX3_count_92
  have hm := bx_n c7 hm
  by_cases c8 : v1 = (5 : Int32)
  · have hm := bx_p c8 hm
    refine go_tableIn C 93 dX3_count_1 (off := 92) (by rw [c8]; decide) (by rw [c8]; decide) (by rw [c8]; decide) (by decide) ?_
    refine go_aload_n C dX3_count_93 rfl 0 rfl (n := 94) rfl ?_
    refine go_get C dX3_count_94 (xf3_4 q cI σ) rfl inX3 (by decide) fl_X3_32 (n := 97) rfl ?_
    refine go_get C dX3_count_97 (xf0_7 q cI σ) rfl inX0 (by decide) fl_X3_205 (n := 100) rfl ?_
    cases hm
    exact go_iret C dX3_count_100
  have hm := bx_n c8 hm
  by_cases c9 : v1 = (6 : Int32)
  · have hm := bx_p c9 hm
    refine go_tableIn C 101 dX3_count_1 (off := 100) (by rw [c9]; decide) (by rw [c9]; decide) (by rw [c9]; decide) (by decide) ?_
    refine go_aload_n C dX3_count_101 rfl 0 rfl (n := 102) rfl ?_
    refine go_get C dX3_count_102 (xf3_4 q cI σ) rfl inX3 (by decide) fl_X3_32 (n := 105) rfl ?_
    refine go_get C dX3_count_105 (xf0_8 q cI σ) rfl inX0 (by decide) fl_X3_208 (n := 108) rfl ?_
    cases hm
    exact go_iret C dX3_count_108
  have hm := bx_n c9 hm
  by_cases c10 : v1 = (7 : Int32)
  · have hm := bx_p c10 hm
    refine go_tableIn C 109 dX3_count_1 (off := 108) (by rw [c10]; decide) (by rw [c10]; decide) (by rw [c10]; decide) (by decide) ?_
    refine go_aload_n C dX3_count_109 rfl 0 rfl (n := 110) rfl ?_
    refine go_get C dX3_count_110 (xf3_4 q cI σ) rfl inX3 (by decide) fl_X3_32 (n := 113) rfl ?_
    refine go_get C dX3_count_113 (xf0_9 q cI σ) rfl inX0 (by decide) fl_X3_211 (n := 116) rfl ?_
    cases hm
    exact go_iret C dX3_count_116
  have hm := bx_n c10 hm
  by_cases c11 : v1 = (8 : Int32)
  · have hm := bx_p c11 hm
    refine go_tableIn C 117 dX3_count_1 (off := 116) (by rw [c11]; decide) (by rw [c11]; decide) (by rw [c11]; decide) (by decide) ?_
    refine go_aload_n C dX3_count_117 rfl 0 rfl (n := 118) rfl ?_
    refine go_get C dX3_count_118 (xf3_7 q cI σ) rfl inX3 (by decide) fl_X3_44 (n := 121) rfl ?_
    refine go_if_eq C 128 dX3_count_121 (by decide) (n := 124) rfl (fun c12 => ?_) (fun c12 => ?_)
    · have hm := bx_p c12 hm
      refine go_iconst C dX3_count_128 (v := (0 : Int32)) (by decide) (n := 129) rfl ?_
      cases hm
      exact go_iret C dX3_count_129
    · have hm := bx_n c12 hm
      refine go_iconst C dX3_count_124 (v := (1 : Int32)) (by decide) (n := 125) rfl ?_
      refine go_goto C 129 dX3_count_125 (by decide) ?_
      cases hm
      exact go_iret C dX3_count_129
  have hm := bx_n c11 hm
  by_cases c13 : v1 = (9 : Int32)
  · have hm := bx_p c13 hm
    refine go_tableIn C 130 dX3_count_1 (off := 129) (by rw [c13]; decide) (by rw [c13]; decide) (by rw [c13]; decide) (by decide) ?_
    refine go_aload_n C dX3_count_130 rfl 0 rfl (n := 131) rfl ?_
    refine go_get C dX3_count_131 (xf3_6 q cI σ) rfl inX3 (by decide) fl_X3_40 (n := 134) rfl ?_
    cases hm
    exact go_iret C dX3_count_134
  have hm := bx_n c13 hm
  have nc1 := bx_ne (n := 0) (0 : Int32) (by decide) c1
  have nc2 := bx_ne (n := 1) (1 : Int32) (by decide) c2
  have nc3 := bx_ne (n := 2) (2 : Int32) (by decide) c3
  have nc6 := bx_ne (n := 3) (3 : Int32) (by decide) c6
  have nc7 := bx_ne (n := 4) (4 : Int32) (by decide) c7
  have nc8 := bx_ne (n := 5) (5 : Int32) (by decide) c8
  have nc9 := bx_ne (n := 6) (6 : Int32) (by decide) c9
  have nc10 := bx_ne (n := 7) (7 : Int32) (by decide) c10
  have nc11 := bx_ne (n := 8) (8 : Int32) (by decide) c11
  have nc13 := bx_ne (n := 9) (9 : Int32) (by decide) c13
  refine go_tableOut C 135 dX3_count_1 (by omega) (by decide) ?_
  refine go_sipush C dX3_count_135 (v := (-10003 : Int32)) (by decide) (n := 138) rfl ?_
  cases hm
  exact go_iret C dX3_count_138
def mX3_deepestFrom : Nat → Int32 → Int32 → Int32 → Int32 → bx_St → Option Int32
  | 0, _, _, _, _, _ => none
  | n + 1, v1, v2, v3, v4, σ => (if (mJ6_bitCount_0f7a4 v4) < (mJ6_bitCount_0f7a4 (v2 ||| v3)) then (if v1 < 0 then (some v2) else (if v1 < (12 : Int32) then (Option.bind (mX3_deepestFrom n (v1 - (1 : Int32)) v2 (v3 &&& ((mX3_bit v1) ^^^ (-1 : Int32))) v4 σ) fun u4 => (if (mX3_holds v3 v1) = 0 then (some u4) else (if bx_ok v1 12 then (Option.bind (mX3_deepestFrom n (v1 - (1 : Int32)) (v2 ||| (mX3_bit v1)) ((v3 &&& ((mX3_bit v1) ^^^ (-1 : Int32))) &&& (σ.1 1 v1.toNatClampNeg)) u4 σ) fun u8 => (some u8)) else none))) else (some v2))) else (some v4))
set_option maxRecDepth 8000 in
set_option maxHeartbeats 4000000 in
theorem ktX3_deepestFrom_n {l : Launch} {D : va_G} {cI cZ : ClassId} {q : Nat → Nat} : ∀ (n : Nat) {v1 : Int32} {v2 : Int32} {v3 : Int32} {v4 : Int32} {σ : bx_St} {u : Int32} (hm : mX3_deepestFrom n v1 v2 v3 v4 σ = some u), bx_Mt l D cI cZ yX3_deepestFrom cX3_deepestFrom 7 (some .int) (3 + n) [.ref (q 1), .int v1, .int v2, .int v3, .int v4] (bx_xw q cI σ) (some (.int u)) (bx_xw q cI σ) := by
  intro n
  induction n with
  | zero =>
    intro v1 v2 v3 v4 σ u hm
    cases hm
  | succ n ih =>
    intro v1 v2 v3 v4 σ u hm
    rw [mX3_deepestFrom] at hm
    refine bx_mk (by decide) (Nat.le_of_ble_eq_true rfl) (lv := [(0, .ref (q 1)), (1, .int v1), (2, .int v2), (3, .int v3), (4, .int v4)]) rfl (fun p e s m args below meth c A C => ?_)
    replace C : bx_Cx p s m args meth c 7 A D cI cZ RX3 cX3_deepestFrom (some .int) := C
    refine go_iload_n C dX3_deepestFrom_0 rfl 2 rfl (n := 1) rfl ?_
    refine go_iload_n C dX3_deepestFrom_1 rfl 3 rfl (n := 2) rfl ?_
    refine go_ior C dX3_deepestFrom_2 (n := 3) rfl ?_
    refine go_callSi C dX3_deepestFrom_3 mw_J6_bitCount_0f7a4 ml_X3_69 (rest := []) (ktJ6_bitCount_0f7a4 rfl) (by omega) rfl rfl (Nat.le_of_ble_eq_true rfl) (n := 6) rfl ?_
    refine go_iload C dX3_deepestFrom_6 4 rfl (n := 8) rfl ?_
    refine go_callSi C dX3_deepestFrom_8 mw_J6_bitCount_0f7a4 ml_X3_69 (rest := [.int (mJ6_bitCount_0f7a4 (v2 ||| v3))]) (ktJ6_bitCount_0f7a4 rfl) (by omega) rfl rfl (Nat.le_of_ble_eq_true rfl) (n := 11) rfl ?_
    refine go_icmp_gt C 17 dX3_deepestFrom_11 (by decide) (n := 14) rfl (fun c1 => ?_) (fun c1 => ?_)
    · have hm := bx_p c1 hm
      refine go_iload_n C dX3_deepestFrom_17 rfl 1 rfl (n := 18) rfl ?_
      refine go_if_lt C 27 dX3_deepestFrom_18 (by decide) (n := 21) rfl (fun c2 => ?_) (fun c2 => ?_)
      · have hm := bx_p c2 hm
        refine go_iload_n C dX3_deepestFrom_27 rfl 2 rfl (n := 28) rfl ?_
        cases hm
        exact go_iret C dX3_deepestFrom_28
      · have hm := bx_n c2 hm
        refine go_iload_n C dX3_deepestFrom_21 rfl 1 rfl (n := 22) rfl ?_
        refine go_aload_n C dX3_deepestFrom_22 rfl 0 rfl (n := 23) rfl ?_
        refine go_alen C dX3_deepestFrom_23 (xa_1 q cI σ) (v := (12 : Int32)) rfl (n := 24) rfl ?_
        refine go_icmp_lt C 29 dX3_deepestFrom_24 (by decide) (n := 27) rfl (fun c3 => ?_) (fun c3 => ?_)
        · have hm := bx_p c3 hm
          refine go_iload_n C dX3_deepestFrom_29 rfl 3 rfl (n := 30) rfl ?_
          refine go_iload_n C dX3_deepestFrom_30 rfl 1 rfl (n := 31) rfl ?_
          refine go_callSi C dX3_deepestFrom_31 mw_X3_bit ml_X3_193 (rest := [.int v3]) (ktX3_bit rfl) (by omega) rfl rfl (Nat.le_of_ble_eq_true rfl) (n := 34) rfl ?_
          refine go_iconst C dX3_deepestFrom_34 (v := (-1 : Int32)) (by decide) (n := 35) rfl ?_
          refine go_ixor C dX3_deepestFrom_35 (n := 36) rfl ?_
          refine go_iand C dX3_deepestFrom_36 (n := 37) rfl ?_
          refine go_istore C dX3_deepestFrom_37 (by decide) (lv' := [(5, .int (v3 &&& ((mX3_bit v1) ^^^ (-1 : Int32)))), (0, .ref (q 1)), (1, .int v1), (2, .int v2), (3, .int v3), (4, .int v4)]) rfl (n := 39) rfl ?_
          refine go_aload_n C dX3_deepestFrom_39 rfl 1 rfl (n := 40) rfl ?_
          refine go_iload_n C dX3_deepestFrom_40 rfl 2 rfl (n := 41) rfl ?_
          refine go_iconst C dX3_deepestFrom_41 (v := (1 : Int32)) (by decide) (n := 42) rfl ?_
          refine go_isub C dX3_deepestFrom_42 (n := 43) rfl ?_
          refine go_iload_n C dX3_deepestFrom_43 rfl 3 rfl (n := 44) rfl ?_
          refine go_iload C dX3_deepestFrom_44 0 rfl (n := 46) rfl ?_
          refine go_iload C dX3_deepestFrom_46 5 rfl (n := 48) rfl ?_
          obtain ⟨u4, e5, hm⟩ := bx_b hm
          refine go_callSi C dX3_deepestFrom_48 mw_X3_deepestFrom ml_X3_316 (rest := []) (ih e5) (by omega) rfl rfl (Nat.le_of_ble_eq_true rfl) (n := 51) rfl ?_
          refine go_istore C dX3_deepestFrom_51 (by decide) (lv' := [(6, .int u4), (5, .int (v3 &&& ((mX3_bit v1) ^^^ (-1 : Int32)))), (0, .ref (q 1)), (1, .int v1), (2, .int v2), (3, .int v3), (4, .int v4)]) rfl (n := 53) rfl ?_
          refine go_iload_n C dX3_deepestFrom_53 rfl 5 rfl (n := 54) rfl ?_
          refine go_iload_n C dX3_deepestFrom_54 rfl 3 rfl (n := 55) rfl ?_
          refine go_callSi C dX3_deepestFrom_55 mw_X3_holds ml_X3_142 (rest := []) (ktX3_holds rfl) (by omega) rfl rfl (Nat.le_of_ble_eq_true rfl) (n := 58) rfl ?_
          refine go_if_ne C 64 dX3_deepestFrom_58 (by decide) (n := 61) rfl (fun c6 => ?_) (fun c6 => ?_)
          · have hm := bx_n c6 hm
            refine go_aload_n C dX3_deepestFrom_64 rfl 2 rfl (n := 65) rfl ?_
            refine go_iload_n C dX3_deepestFrom_65 rfl 3 rfl (n := 66) rfl ?_
            refine go_iconst C dX3_deepestFrom_66 (v := (1 : Int32)) (by decide) (n := 67) rfl ?_
            refine go_isub C dX3_deepestFrom_67 (n := 68) rfl ?_
            refine go_iload_n C dX3_deepestFrom_68 rfl 4 rfl (n := 69) rfl ?_
            refine go_iload_n C dX3_deepestFrom_69 rfl 3 rfl (n := 70) rfl ?_
            refine go_callSi C dX3_deepestFrom_70 mw_X3_bit ml_X3_193 (rest := [.int v2, .int (v1 - (1 : Int32)), .ref (q 1)]) (ktX3_bit rfl) (by omega) rfl rfl (Nat.le_of_ble_eq_true rfl) (n := 73) rfl ?_
            refine go_ior C dX3_deepestFrom_73 (n := 74) rfl ?_
            refine go_iload C dX3_deepestFrom_74 1 rfl (n := 76) rfl ?_
            refine go_aload_n C dX3_deepestFrom_76 rfl 2 rfl (n := 77) rfl ?_
            refine go_iload_n C dX3_deepestFrom_77 rfl 3 rfl (n := 78) rfl ?_
            obtain ⟨b7, hm⟩ := bx_g hm
            refine go_iald C dX3_deepestFrom_78 (xa_1 q cI σ) b7 (n := 79) rfl ?_
            refine go_iand C dX3_deepestFrom_79 (n := 80) rfl ?_
            refine go_iload C dX3_deepestFrom_80 0 rfl (n := 82) rfl ?_
            obtain ⟨u8, e9, hm⟩ := bx_b hm
            refine go_callSi C dX3_deepestFrom_82 mw_X3_deepestFrom ml_X3_316 (rest := []) (ih e9) (by omega) rfl rfl (Nat.le_of_ble_eq_true rfl) (n := 85) rfl ?_
            cases hm
            exact go_iret C dX3_deepestFrom_85
          · have hm := bx_p c6 hm
            refine go_iload C dX3_deepestFrom_61 0 rfl (n := 63) rfl ?_
            cases hm
            exact go_iret C dX3_deepestFrom_63
        · have hm := bx_n c3 hm
          refine go_iload_n C dX3_deepestFrom_27 rfl 2 rfl (n := 28) rfl ?_
          cases hm
          exact go_iret C dX3_deepestFrom_28
    · have hm := bx_n c1 hm
      refine go_iload C dX3_deepestFrom_14 4 rfl (n := 16) rfl ?_
      cases hm
      exact go_iret C dX3_deepestFrom_16
theorem ktX3_deepestFrom {l : Launch} {D : va_G} {cI cZ : ClassId} {q : Nat → Nat} {v1 : Int32} {v2 : Int32} {v3 : Int32} {v4 : Int32} {σ : bx_St} {u : Int32} (hm : mX3_deepestFrom 16 v1 v2 v3 v4 σ = some u) : bx_Mt l D cI cZ yX3_deepestFrom cX3_deepestFrom 7 (some .int) 19 [.ref (q 1), .int v1, .int v2, .int v3, .int v4] (bx_xw q cI σ) (some (.int u)) (bx_xw q cI σ) := ktX3_deepestFrom_n 16 hm
def mX3_deepest (σ : bx_St) : Option Int32 := (Option.bind (mX3_deepestFrom 16 (11 : Int32) (0 : Int32) (σ.1 0 6) (0 : Int32) σ) fun u1 => (some u1))
set_option maxRecDepth 8000 in
set_option maxHeartbeats 4000000 in
theorem ktX3_deepest {l : Launch} {D : va_G} {cI cZ : ClassId} {q : Nat → Nat} {σ : bx_St} {u : Int32} (hm : mX3_deepest σ = some u) : bx_Mt l D cI cZ yX3_deepest cX3_deepest 1 (some .int) 20 [.ref (q 0)] (bx_xw q cI σ) (some (.int u)) (bx_xw q cI σ) := by
  refine bx_mk (by decide) (Nat.le_of_ble_eq_true rfl) (lv := [(0, .ref (q 0))]) rfl (fun p e s m args below meth c A C => ?_)
  replace C : bx_Cx p s m args meth c 1 A D cI cZ RX3 cX3_deepest (some .int) := C
  unfold mX3_deepest at hm
  refine go_aload_n C dX3_deepest_0 rfl 0 rfl (n := 1) rfl ?_
  refine go_get C dX3_deepest_1 (xf3_5 q cI σ) rfl inX3 (by decide) fl_X3_36 (n := 4) rfl ?_
  refine go_bipush C dX3_deepest_4 (v := (11 : Int32)) (by decide) (n := 6) rfl ?_
  refine go_iconst C dX3_deepest_6 (v := (0 : Int32)) (by decide) (n := 7) rfl ?_
  refine go_aload_n C dX3_deepest_7 rfl 0 rfl (n := 8) rfl ?_
  refine go_get C dX3_deepest_8 (xf3_6 q cI σ) rfl inX3 (by decide) fl_X3_40 (n := 11) rfl ?_
  refine go_iconst C dX3_deepest_11 (v := (0 : Int32)) (by decide) (n := 12) rfl ?_
  obtain ⟨u1, e2, hm⟩ := bx_b hm
  refine go_callSi C dX3_deepest_12 mw_X3_deepestFrom ml_X3_316 (rest := []) (ktX3_deepestFrom e2) (by decide) rfl rfl (Nat.le_of_ble_eq_true rfl) (n := 15) rfl ?_
  cases hm
  exact go_iret C dX3_deepest_15
def mX3_greatestGroup_47 (K9 : Int32 → Int32 → Int32 → bx_St → Option Int32) (v1 : Int32) (v2 : Int32) (v3 : Int32) (σ : bx_St) : Option Int32 := (K9 v1 v2 (v3 + 1) σ)
set_option maxRecDepth 8000 in
set_option maxHeartbeats 4000000 in
theorem mX3_greatestGroup_47_ok (C : bx_Cx p s m args meth c 5 A D cI cZ RX3 cX3_greatestGroup (some .int)) (K9 : Int32 → Int32 → Int32 → bx_St → Option Int32) (HK9 : ∀ (v1 : Int32) (v2 : Int32) (v3 : Int32) (σ : bx_St) (u : Int32), K9 v1 v2 v3 σ = some u → bx_Go p l e (bx_rm 4) s m args below meth c 5 A D (MQ below (bx_Q (some (.int u)) (bx_xw q cI σ) D A) args s 0 0 A) (bx_xw q cI σ) 9 [(0, .ref (q 0)), (1, .int v1), (2, .int v2), (3, .int v3)] []) : ∀ (v1 : Int32) (v2 : Int32) (v3 : Int32) (σ : bx_St) (u : Int32), mX3_greatestGroup_47 K9 v1 v2 v3 σ = some u → bx_Go p l e (bx_rm 4) s m args below meth c 5 A D (MQ below (bx_Q (some (.int u)) (bx_xw q cI σ) D A) args s 0 0 A) (bx_xw q cI σ) 47 [(0, .ref (q 0)), (1, .int v1), (2, .int v2), (3, .int v3)] [] := by
  intro v1 v2 v3 σ u hm
  unfold mX3_greatestGroup_47 at hm
  refine go_iinc C (j := 3) dX3_greatestGroup_47 rfl (v := (v3 + 1)) rfl (by decide) (lv' := [(3, .int (v3 + 1)), (0, .ref (q 0)), (1, .int v1), (2, .int v2)]) rfl (n := 50) rfl ?_
  refine go_goto C 9 dX3_greatestGroup_50 (by decide) ?_
  refine go_lv (lv' := [(0, .ref (q 0)), (1, .int v1), (2, .int v2), (3, .int (v3 + 1))]) [1, 2, 3, 0] rfl ?_
  exact HK9 _ _ _ _ _ hm
def mX3_greatestGroup_9 : Nat → Int32 → Int32 → Int32 → bx_St → Option Int32
  | 0, _, _, _, _ => none
  | n + 1, v1, v2, v3, σ => (if (12 : Int32) ≤ v3 then (some v1) else (if (mX3_holds v2 v3) = 0 then (mX3_greatestGroup_47 (mX3_greatestGroup_9 n) v1 v2 v3 σ) else (Option.bind (mX3_groupOf v3 σ) fun u3 => (mX3_greatestGroup_47 (mX3_greatestGroup_9 n) (mJ9_max_7cf53 v1 (mJ6_bitCount_0f7a4 u3)) (v2 &&& (u3 ^^^ (-1 : Int32))) v3 σ))))
set_option maxRecDepth 8000 in
set_option maxHeartbeats 4000000 in
theorem mX3_greatestGroup_9_ok (C : bx_Cx p s m args meth c 5 A D cI cZ RX3 cX3_greatestGroup (some .int)) : ∀ (n : Nat) (v1 : Int32) (v2 : Int32) (v3 : Int32) (σ : bx_St) (u : Int32), mX3_greatestGroup_9 n v1 v2 v3 σ = some u → bx_Go p l e (bx_rm 4) s m args below meth c 5 A D (MQ below (bx_Q (some (.int u)) (bx_xw q cI σ) D A) args s 0 0 A) (bx_xw q cI σ) 9 [(0, .ref (q 0)), (1, .int v1), (2, .int v2), (3, .int v3)] [] := by
  intro n
  induction n with
  | zero =>
    intro v1 v2 v3 σ u hm
    cases hm
  | succ n ih =>
    intro v1 v2 v3 σ u hm
    rw [mX3_greatestGroup_9] at hm
    refine go_iload_n C dX3_greatestGroup_9 rfl 3 rfl (n := 10) rfl ?_
    refine go_bipush C dX3_greatestGroup_10 (v := (12 : Int32)) (by decide) (n := 12) rfl ?_
    refine go_icmp_ge C 53 dX3_greatestGroup_12 (by decide) (n := 15) rfl (fun c1 => ?_) (fun c1 => ?_)
    · have hm := bx_p c1 hm
      refine go_iload_n C dX3_greatestGroup_53 rfl 1 rfl (n := 54) rfl ?_
      cases hm
      exact go_iret C dX3_greatestGroup_54
    · have hm := bx_n c1 hm
      refine go_iload_n C dX3_greatestGroup_15 rfl 2 rfl (n := 16) rfl ?_
      refine go_iload_n C dX3_greatestGroup_16 rfl 3 rfl (n := 17) rfl ?_
      refine go_callSi C dX3_greatestGroup_17 mw_X3_holds ml_X3_142 (rest := []) (ktX3_holds rfl) (by decide) rfl rfl (Nat.le_of_ble_eq_true rfl) (n := 20) rfl ?_
      refine go_if_eq C 47 dX3_greatestGroup_20 (by decide) (n := 23) rfl (fun c2 => ?_) (fun c2 => ?_)
      · have hm := bx_p c2 hm
        refine go_lv (lv' := [(0, .ref (q 0)), (1, .int v1), (2, .int v2), (3, .int v3)]) [0, 1, 2, 3] rfl ?_
        exact mX3_greatestGroup_47_ok C _ ih _ _ _ _ _ hm
      · have hm := bx_n c2 hm
        refine go_aload_n C dX3_greatestGroup_23 rfl 0 rfl (n := 24) rfl ?_
        refine go_iload_n C dX3_greatestGroup_24 rfl 3 rfl (n := 25) rfl ?_
        obtain ⟨u3, e4, hm⟩ := bx_b hm
        refine go_callVi C dX3_greatestGroup_25 mw_X3_groupOf ml_X3_114 (rest := []) (ktX3_groupOf e4) (xo3 q cI σ) rfl (by decide) rfl rfl (Nat.le_of_ble_eq_true rfl) (n := 28) rfl ?_
        refine go_istore C dX3_greatestGroup_28 (by decide) (lv' := [(4, .int u3), (0, .ref (q 0)), (1, .int v1), (2, .int v2), (3, .int v3)]) rfl (n := 30) rfl ?_
        refine go_iload_n C dX3_greatestGroup_30 rfl 3 rfl (n := 31) rfl ?_
        refine go_iload C dX3_greatestGroup_31 0 rfl (n := 33) rfl ?_
        refine go_iconst C dX3_greatestGroup_33 (v := (-1 : Int32)) (by decide) (n := 34) rfl ?_
        refine go_ixor C dX3_greatestGroup_34 (n := 35) rfl ?_
        refine go_iand C dX3_greatestGroup_35 (n := 36) rfl ?_
        refine go_istore_n C dX3_greatestGroup_36 rfl (by decide) (lv' := [(2, .int (v2 &&& (u3 ^^^ (-1 : Int32)))), (4, .int u3), (0, .ref (q 0)), (1, .int v1), (3, .int v3)]) rfl (n := 37) rfl ?_
        refine go_iload_n C dX3_greatestGroup_37 rfl 3 rfl (n := 38) rfl ?_
        refine go_iload C dX3_greatestGroup_38 1 rfl (n := 40) rfl ?_
        refine go_callSi C dX3_greatestGroup_40 mw_J6_bitCount_0f7a4 ml_X3_69 (rest := [.int v1]) (ktJ6_bitCount_0f7a4 rfl) (by decide) rfl rfl (Nat.le_of_ble_eq_true rfl) (n := 43) rfl ?_
        refine go_mmax C dX3_greatestGroup_43 ml_X3_311 (by decide) (Nat.le_of_ble_eq_true rfl) (n := 46) rfl ?_
        refine go_istore_n C dX3_greatestGroup_46 rfl (by decide) (lv' := [(1, .int (mJ9_max_7cf53 v1 (mJ6_bitCount_0f7a4 u3))), (2, .int (v2 &&& (u3 ^^^ (-1 : Int32)))), (4, .int u3), (0, .ref (q 0)), (3, .int v3)]) rfl (n := 47) rfl ?_
        refine go_lv (lv' := [(0, .ref (q 0)), (1, .int (mJ9_max_7cf53 v1 (mJ6_bitCount_0f7a4 u3))), (2, .int (v2 &&& (u3 ^^^ (-1 : Int32)))), (3, .int v3)]) [3, 0, 1, 4] rfl ?_
        exact mX3_greatestGroup_47_ok C _ ih _ _ _ _ _ hm
def mX3_greatestGroup (σ : bx_St) : Option Int32 := (mX3_greatestGroup_9 bx_F (0 : Int32) (σ.1 0 6) (0 : Int32) σ)
set_option maxRecDepth 8000 in
set_option maxHeartbeats 4000000 in
theorem ktX3_greatestGroup {l : Launch} {D : va_G} {cI cZ : ClassId} {q : Nat → Nat} {σ : bx_St} {u : Int32} (hm : mX3_greatestGroup σ = some u) : bx_Mt l D cI cZ yX3_greatestGroup cX3_greatestGroup 5 (some .int) 4 [.ref (q 0)] (bx_xw q cI σ) (some (.int u)) (bx_xw q cI σ) := by
  refine bx_mk (by decide) (Nat.le_of_ble_eq_true rfl) (lv := [(0, .ref (q 0))]) rfl (fun p e s m args below meth c A C => ?_)
  replace C : bx_Cx p s m args meth c 5 A D cI cZ RX3 cX3_greatestGroup (some .int) := C
  unfold mX3_greatestGroup at hm
  refine go_iconst C dX3_greatestGroup_0 (v := (0 : Int32)) (by decide) (n := 1) rfl ?_
  refine go_istore_n C dX3_greatestGroup_1 rfl (by decide) (lv' := [(1, .int (0 : Int32)), (0, .ref (q 0))]) rfl (n := 2) rfl ?_
  refine go_aload_n C dX3_greatestGroup_2 rfl 1 rfl (n := 3) rfl ?_
  refine go_get C dX3_greatestGroup_3 (xf3_6 q cI σ) rfl inX3 (by decide) fl_X3_40 (n := 6) rfl ?_
  refine go_istore_n C dX3_greatestGroup_6 rfl (by decide) (lv' := [(2, .int (σ.1 0 6)), (1, .int (0 : Int32)), (0, .ref (q 0))]) rfl (n := 7) rfl ?_
  refine go_iconst C dX3_greatestGroup_7 (v := (0 : Int32)) (by decide) (n := 8) rfl ?_
  refine go_istore_n C dX3_greatestGroup_8 rfl (by decide) (lv' := [(3, .int (0 : Int32)), (2, .int (σ.1 0 6)), (1, .int (0 : Int32)), (0, .ref (q 0))]) rfl (n := 9) rfl ?_
  refine go_lv (lv' := [(0, .ref (q 0)), (1, .int (0 : Int32)), (2, .int (σ.1 0 6)), (3, .int (0 : Int32))]) [3, 2, 1, 0] rfl ?_
  exact mX3_greatestGroup_9_ok C _ _ _ _ _ _ hm
def mX3_groupCount_36 (K9 : Int32 → Int32 → Int32 → bx_St → Option Int32) (v1 : Int32) (v2 : Int32) (v3 : Int32) (σ : bx_St) : Option Int32 := (K9 v1 v2 (v3 + 1) σ)
set_option maxRecDepth 8000 in
set_option maxHeartbeats 4000000 in
theorem mX3_groupCount_36_ok (C : bx_Cx p s m args meth c 4 A D cI cZ RX3 cX3_groupCount (some .int)) (K9 : Int32 → Int32 → Int32 → bx_St → Option Int32) (HK9 : ∀ (v1 : Int32) (v2 : Int32) (v3 : Int32) (σ : bx_St) (u : Int32), K9 v1 v2 v3 σ = some u → bx_Go p l e (bx_rm 4) s m args below meth c 4 A D (MQ below (bx_Q (some (.int u)) (bx_xw q cI σ) D A) args s 0 0 A) (bx_xw q cI σ) 9 [(0, .ref (q 0)), (1, .int v1), (2, .int v2), (3, .int v3)] []) : ∀ (v1 : Int32) (v2 : Int32) (v3 : Int32) (σ : bx_St) (u : Int32), mX3_groupCount_36 K9 v1 v2 v3 σ = some u → bx_Go p l e (bx_rm 4) s m args below meth c 4 A D (MQ below (bx_Q (some (.int u)) (bx_xw q cI σ) D A) args s 0 0 A) (bx_xw q cI σ) 36 [(0, .ref (q 0)), (1, .int v1), (2, .int v2), (3, .int v3)] [] := by
  intro v1 v2 v3 σ u hm
  unfold mX3_groupCount_36 at hm
  refine go_iinc C (j := 3) dX3_groupCount_36 rfl (v := (v3 + 1)) rfl (by decide) (lv' := [(3, .int (v3 + 1)), (0, .ref (q 0)), (1, .int v1), (2, .int v2)]) rfl (n := 39) rfl ?_
  refine go_goto C 9 dX3_groupCount_39 (by decide) ?_
  refine go_lv (lv' := [(0, .ref (q 0)), (1, .int v1), (2, .int v2), (3, .int (v3 + 1))]) [1, 2, 3, 0] rfl ?_
  exact HK9 _ _ _ _ _ hm
def mX3_groupCount_9 : Nat → Int32 → Int32 → Int32 → bx_St → Option Int32
  | 0, _, _, _, _ => none
  | n + 1, v1, v2, v3, σ => (if (12 : Int32) ≤ v3 then (some v1) else (if (mX3_holds v2 v3) = 0 then (mX3_groupCount_36 (mX3_groupCount_9 n) v1 v2 v3 σ) else (Option.bind (mX3_groupOf v3 σ) fun u3 => (mX3_groupCount_36 (mX3_groupCount_9 n) (v1 + 1) (v2 &&& (u3 ^^^ (-1 : Int32))) v3 σ))))
set_option maxRecDepth 8000 in
set_option maxHeartbeats 4000000 in
theorem mX3_groupCount_9_ok (C : bx_Cx p s m args meth c 4 A D cI cZ RX3 cX3_groupCount (some .int)) : ∀ (n : Nat) (v1 : Int32) (v2 : Int32) (v3 : Int32) (σ : bx_St) (u : Int32), mX3_groupCount_9 n v1 v2 v3 σ = some u → bx_Go p l e (bx_rm 4) s m args below meth c 4 A D (MQ below (bx_Q (some (.int u)) (bx_xw q cI σ) D A) args s 0 0 A) (bx_xw q cI σ) 9 [(0, .ref (q 0)), (1, .int v1), (2, .int v2), (3, .int v3)] [] := by
  intro n
  induction n with
  | zero =>
    intro v1 v2 v3 σ u hm
    cases hm
  | succ n ih =>
    intro v1 v2 v3 σ u hm
    rw [mX3_groupCount_9] at hm
    refine go_iload_n C dX3_groupCount_9 rfl 3 rfl (n := 10) rfl ?_
    refine go_bipush C dX3_groupCount_10 (v := (12 : Int32)) (by decide) (n := 12) rfl ?_
    refine go_icmp_ge C 42 dX3_groupCount_12 (by decide) (n := 15) rfl (fun c1 => ?_) (fun c1 => ?_)
    · have hm := bx_p c1 hm
      refine go_iload_n C dX3_groupCount_42 rfl 1 rfl (n := 43) rfl ?_
      cases hm
      exact go_iret C dX3_groupCount_43
    · have hm := bx_n c1 hm
      refine go_iload_n C dX3_groupCount_15 rfl 2 rfl (n := 16) rfl ?_
      refine go_iload_n C dX3_groupCount_16 rfl 3 rfl (n := 17) rfl ?_
      refine go_callSi C dX3_groupCount_17 mw_X3_holds ml_X3_142 (rest := []) (ktX3_holds rfl) (by decide) rfl rfl (Nat.le_of_ble_eq_true rfl) (n := 20) rfl ?_
      refine go_if_eq C 36 dX3_groupCount_20 (by decide) (n := 23) rfl (fun c2 => ?_) (fun c2 => ?_)
      · have hm := bx_p c2 hm
        refine go_lv (lv' := [(0, .ref (q 0)), (1, .int v1), (2, .int v2), (3, .int v3)]) [0, 1, 2, 3] rfl ?_
        exact mX3_groupCount_36_ok C _ ih _ _ _ _ _ hm
      · have hm := bx_n c2 hm
        refine go_iload_n C dX3_groupCount_23 rfl 2 rfl (n := 24) rfl ?_
        refine go_aload_n C dX3_groupCount_24 rfl 0 rfl (n := 25) rfl ?_
        refine go_iload_n C dX3_groupCount_25 rfl 3 rfl (n := 26) rfl ?_
        obtain ⟨u3, e4, hm⟩ := bx_b hm
        refine go_callVi C dX3_groupCount_26 mw_X3_groupOf ml_X3_114 (rest := [.int v2]) (ktX3_groupOf e4) (xo3 q cI σ) rfl (by decide) rfl rfl (Nat.le_of_ble_eq_true rfl) (n := 29) rfl ?_
        refine go_iconst C dX3_groupCount_29 (v := (-1 : Int32)) (by decide) (n := 30) rfl ?_
        refine go_ixor C dX3_groupCount_30 (n := 31) rfl ?_
        refine go_iand C dX3_groupCount_31 (n := 32) rfl ?_
        refine go_istore_n C dX3_groupCount_32 rfl (by decide) (lv' := [(2, .int (v2 &&& (u3 ^^^ (-1 : Int32)))), (0, .ref (q 0)), (1, .int v1), (3, .int v3)]) rfl (n := 33) rfl ?_
        refine go_iinc C (j := 2) dX3_groupCount_33 rfl (v := (v1 + 1)) rfl (by decide) (lv' := [(1, .int (v1 + 1)), (2, .int (v2 &&& (u3 ^^^ (-1 : Int32)))), (0, .ref (q 0)), (3, .int v3)]) rfl (n := 36) rfl ?_
        refine go_lv (lv' := [(0, .ref (q 0)), (1, .int (v1 + 1)), (2, .int (v2 &&& (u3 ^^^ (-1 : Int32)))), (3, .int v3)]) [2, 0, 1, 3] rfl ?_
        exact mX3_groupCount_36_ok C _ ih _ _ _ _ _ hm
def mX3_groupCount (σ : bx_St) : Option Int32 := (mX3_groupCount_9 bx_F (0 : Int32) (σ.1 0 6) (0 : Int32) σ)
set_option maxRecDepth 8000 in
set_option maxHeartbeats 4000000 in
theorem ktX3_groupCount {l : Launch} {D : va_G} {cI cZ : ClassId} {q : Nat → Nat} {σ : bx_St} {u : Int32} (hm : mX3_groupCount σ = some u) : bx_Mt l D cI cZ yX3_groupCount cX3_groupCount 4 (some .int) 4 [.ref (q 0)] (bx_xw q cI σ) (some (.int u)) (bx_xw q cI σ) := by
  refine bx_mk (by decide) (Nat.le_of_ble_eq_true rfl) (lv := [(0, .ref (q 0))]) rfl (fun p e s m args below meth c A C => ?_)
  replace C : bx_Cx p s m args meth c 4 A D cI cZ RX3 cX3_groupCount (some .int) := C
  unfold mX3_groupCount at hm
  refine go_iconst C dX3_groupCount_0 (v := (0 : Int32)) (by decide) (n := 1) rfl ?_
  refine go_istore_n C dX3_groupCount_1 rfl (by decide) (lv' := [(1, .int (0 : Int32)), (0, .ref (q 0))]) rfl (n := 2) rfl ?_
  refine go_aload_n C dX3_groupCount_2 rfl 1 rfl (n := 3) rfl ?_
  refine go_get C dX3_groupCount_3 (xf3_6 q cI σ) rfl inX3 (by decide) fl_X3_40 (n := 6) rfl ?_
  refine go_istore_n C dX3_groupCount_6 rfl (by decide) (lv' := [(2, .int (σ.1 0 6)), (1, .int (0 : Int32)), (0, .ref (q 0))]) rfl (n := 7) rfl ?_
  refine go_iconst C dX3_groupCount_7 (v := (0 : Int32)) (by decide) (n := 8) rfl ?_
  refine go_istore_n C dX3_groupCount_8 rfl (by decide) (lv' := [(3, .int (0 : Int32)), (2, .int (σ.1 0 6)), (1, .int (0 : Int32)), (0, .ref (q 0))]) rfl (n := 9) rfl ?_
  refine go_lv (lv' := [(0, .ref (q 0)), (1, .int (0 : Int32)), (2, .int (σ.1 0 6)), (3, .int (0 : Int32))]) [3, 2, 1, 0] rfl ?_
  exact mX3_groupCount_9_ok C _ _ _ _ _ _ hm
def mX3_heap (v1 : Int32) (σ : bx_St) : Option Int32 := (if v1 = (0 : Int32) then (Option.bind (mX3_groupCount σ) fun u2 => (some u2)) else (if v1 = (1 : Int32) then (Option.bind (mX3_greatestGroup σ) fun u5 => (some u5)) else (if v1 = (2 : Int32) then (Option.bind (mX3_deepest σ) fun u8 => (some u8)) else (if v1 = (3 : Int32) then (Option.bind (mX3_deepest σ) fun u11 => (some (mJ6_bitCount_0f7a4 u11))) else (some (-10003 : Int32))))))
set_option maxRecDepth 8000 in
set_option maxHeartbeats 4000000 in
theorem ktX3_heap {l : Launch} {D : va_G} {cI cZ : ClassId} {q : Nat → Nat} {v1 : Int32} {σ : bx_St} {u : Int32} (hm : mX3_heap v1 σ = some u) : bx_Mt l D cI cZ yX3_heap cX3_heap 2 (some .int) 21 [.ref (q 0), .int v1] (bx_xw q cI σ) (some (.int u)) (bx_xw q cI σ) := by
  refine bx_mk (by decide) (Nat.le_of_ble_eq_true rfl) (lv := [(0, .ref (q 0)), (1, .int v1)]) rfl (fun p e s m args below meth c A C => ?_)
  replace C : bx_Cx p s m args meth c 2 A D cI cZ RX3 cX3_heap (some .int) := C
  unfold mX3_heap at hm
  refine go_iload_n C dX3_heap_0 rfl 1 rfl (n := 1) rfl ?_
  by_cases c1 : v1 = (0 : Int32)
  · have hm := bx_p c1 hm
    refine go_tableIn C 32 dX3_heap_1 (off := 31) (by rw [c1]; decide) (by rw [c1]; decide) (by rw [c1]; decide) (by decide) ?_
    refine go_aload_n C dX3_heap_32 rfl 0 rfl (n := 33) rfl ?_
    obtain ⟨u2, e3, hm⟩ := bx_b hm
    refine go_callVi C dX3_heap_33 mw_X3_groupCount ml_X3_180 (rest := []) (ktX3_groupCount e3) (xo3 q cI σ) rfl (by decide) rfl rfl (Nat.le_of_ble_eq_true rfl) (n := 36) rfl ?_
    cases hm
    exact go_iret C dX3_heap_36
  have hm := bx_n c1 hm
  by_cases c4 : v1 = (1 : Int32)
  · have hm := bx_p c4 hm
    refine go_tableIn C 37 dX3_heap_1 (off := 36) (by rw [c4]; decide) (by rw [c4]; decide) (by rw [c4]; decide) (by decide) ?_
    refine go_aload_n C dX3_heap_37 rfl 0 rfl (n := 38) rfl ?_
    obtain ⟨u5, e6, hm⟩ := bx_b hm
    refine go_callVi C dX3_heap_38 mw_X3_greatestGroup ml_X3_183 (rest := []) (ktX3_greatestGroup e6) (xo3 q cI σ) rfl (by decide) rfl rfl (Nat.le_of_ble_eq_true rfl) (n := 41) rfl ?_
    cases hm
    exact go_iret C dX3_heap_41
  have hm := bx_n c4 hm
  by_cases c7 : v1 = (2 : Int32)
  · have hm := bx_p c7 hm
    refine go_tableIn C 42 dX3_heap_1 (off := 41) (by rw [c7]; decide) (by rw [c7]; decide) (by rw [c7]; decide) (by decide) ?_
    refine go_aload_n C dX3_heap_42 rfl 0 rfl (n := 43) rfl ?_
    obtain ⟨u8, e9, hm⟩ := bx_b hm
    refine go_callVi C dX3_heap_43 mw_X3_deepest ml_X3_186 (rest := []) (ktX3_deepest e9) (xo3 q cI σ) rfl (by decide) rfl rfl (Nat.le_of_ble_eq_true rfl) (n := 46) rfl ?_
    cases hm
    exact go_iret C dX3_heap_46
  have hm := bx_n c7 hm
  by_cases c10 : v1 = (3 : Int32)
  · have hm := bx_p c10 hm
    refine go_tableIn C 47 dX3_heap_1 (off := 46) (by rw [c10]; decide) (by rw [c10]; decide) (by rw [c10]; decide) (by decide) ?_
    refine go_aload_n C dX3_heap_47 rfl 0 rfl (n := 48) rfl ?_
    obtain ⟨u11, e12, hm⟩ := bx_b hm
    refine go_callVi C dX3_heap_48 mw_X3_deepest ml_X3_186 (rest := []) (ktX3_deepest e12) (xo3 q cI σ) rfl (by decide) rfl rfl (Nat.le_of_ble_eq_true rfl) (n := 51) rfl ?_
    refine go_callSi C dX3_heap_51 mw_J6_bitCount_0f7a4 ml_X3_69 (rest := []) (ktJ6_bitCount_0f7a4 rfl) (by decide) rfl rfl (Nat.le_of_ble_eq_true rfl) (n := 54) rfl ?_
    cases hm
    exact go_iret C dX3_heap_54
  have hm := bx_n c10 hm
  have nc1 := bx_ne (n := 0) (0 : Int32) (by decide) c1
  have nc4 := bx_ne (n := 1) (1 : Int32) (by decide) c4
  have nc7 := bx_ne (n := 2) (2 : Int32) (by decide) c7
  have nc10 := bx_ne (n := 3) (3 : Int32) (by decide) c10
  refine go_tableOut C 55 dX3_heap_1 (by omega) (by decide) ?_
  refine go_sipush C dX3_heap_55 (v := (-10003 : Int32)) (by decide) (n := 58) rfl ?_
  cases hm
  exact go_iret C dX3_heap_58
def mX3_with (w0 : Int64) (w2 : Int64) : Int64 := (((31 : Int64) * w0) + w2)
set_option maxRecDepth 8000 in
set_option maxHeartbeats 4000000 in
theorem ktX3_with {l : Launch} {D : va_G} {cI cZ : ClassId} {ws : va_W} {w0 : Int64} {w2 : Int64} {u : Int64} (hm : mX3_with w0 w2 = u) : bx_Mt l D cI cZ yX3_with cX3_with 4 (some .long) 1 [.long w0, .long w2] ws (some (.long u)) ws := by
  refine bx_mk (by decide) (Nat.le_of_ble_eq_true rfl) (lv := [(0, .long w0), (2, .long w2)]) rfl (fun p e s m args below meth c A C => ?_)
  replace C : bx_Cx p s m args meth c 4 A D cI cZ RX3 cX3_with (some .long) := C
  unfold mX3_with at hm
  refine go_ldc2 C dX3_with_0 (v := (31 : Int64)) kc_X3_243 (n := 3) rfl ?_
  refine go_lload_n C dX3_with_3 rfl 0 rfl (n := 4) rfl ?_
  refine go_lmul C dX3_with_4 (n := 5) rfl ?_
  refine go_lload_n C dX3_with_5 rfl 1 rfl (n := 6) rfl ?_
  refine go_ladd C dX3_with_6 (n := 7) rfl ?_
  subst hm
  exact go_lret C dX3_with_7
def mX3_isAxis (v0 : Int32) : Int32 := (if v0 < 0 then (0 : Int32) else (if (3 : Int32) ≤ v0 then (0 : Int32) else (1 : Int32)))
set_option maxRecDepth 8000 in
set_option maxHeartbeats 4000000 in
theorem ktX3_isAxis {l : Launch} {D : va_G} {cI cZ : ClassId} {ws : va_W} {v0 : Int32} {u : Int32} (hm : mX3_isAxis v0 = u) : bx_Mt l D cI cZ yX3_isAxis cX3_isAxis 1 (some .boolean) 1 [.int v0] ws (some (.int u)) ws := by
  refine bx_mk (by decide) (Nat.le_of_ble_eq_true rfl) (lv := [(0, .int v0)]) rfl (fun p e s m args below meth c A C => ?_)
  replace C : bx_Cx p s m args meth c 1 A D cI cZ RX3 cX3_isAxis (some .boolean) := C
  unfold mX3_isAxis at hm
  refine go_iload_n C dX3_isAxis_0 rfl 0 rfl (n := 1) rfl ?_
  refine go_if_lt C 13 dX3_isAxis_1 (by decide) (n := 4) rfl (fun c1 => ?_) (fun c1 => ?_)
  · have hm := bx_p c1 hm
    refine go_iconst C dX3_isAxis_13 (v := (0 : Int32)) (by decide) (n := 14) rfl ?_
    subst hm
    exact go_zret C dX3_isAxis_14 (Or.inl rfl)
  · have hm := bx_n c1 hm
    refine go_iload_n C dX3_isAxis_4 rfl 0 rfl (n := 5) rfl ?_
    refine go_iconst C dX3_isAxis_5 (v := (3 : Int32)) (by decide) (n := 6) rfl ?_
    refine go_icmp_ge C 13 dX3_isAxis_6 (by decide) (n := 9) rfl (fun c2 => ?_) (fun c2 => ?_)
    · have hm := bx_p c2 hm
      refine go_iconst C dX3_isAxis_13 (v := (0 : Int32)) (by decide) (n := 14) rfl ?_
      subst hm
      exact go_zret C dX3_isAxis_14 (Or.inl rfl)
    · have hm := bx_n c2 hm
      refine go_iconst C dX3_isAxis_9 (v := (1 : Int32)) (by decide) (n := 10) rfl ?_
      refine go_goto C 14 dX3_isAxis_10 (by decide) ?_
      subst hm
      exact go_zret C dX3_isAxis_14 (Or.inr rfl)
def mX3_meetsOnOthers_34 (K8 : Int32 → Int32 → Int32 → Int32 → bx_St → Option Int32) (v1 : Int32) (v2 : Int32) (v3 : Int32) (v4 : Int32) (σ : bx_St) : Option Int32 := (K8 v1 v2 v3 (v4 + 1) σ)
set_option maxRecDepth 8000 in
set_option maxHeartbeats 4000000 in
theorem mX3_meetsOnOthers_34_ok (C : bx_Cx p s m args meth c 5 A D cI cZ RX3 cX3_meetsOnOthers (some .int)) (K8 : Int32 → Int32 → Int32 → Int32 → bx_St → Option Int32) (HK8 : ∀ (v1 : Int32) (v2 : Int32) (v3 : Int32) (v4 : Int32) (σ : bx_St) (u : Int32), K8 v1 v2 v3 v4 σ = some u → bx_Go p l e (bx_rm 2) s m args below meth c 5 A D (MQ below (bx_Q (some (.int u)) (bx_xw q cI σ) D A) args s 0 0 A) (bx_xw q cI σ) 8 [(0, .ref (q 0)), (1, .int v1), (2, .int v2), (3, .int v3), (4, .int v4)] []) : ∀ (v1 : Int32) (v2 : Int32) (v3 : Int32) (v4 : Int32) (σ : bx_St) (u : Int32), mX3_meetsOnOthers_34 K8 v1 v2 v3 v4 σ = some u → bx_Go p l e (bx_rm 2) s m args below meth c 5 A D (MQ below (bx_Q (some (.int u)) (bx_xw q cI σ) D A) args s 0 0 A) (bx_xw q cI σ) 34 [(0, .ref (q 0)), (1, .int v1), (2, .int v2), (3, .int v3), (4, .int v4)] [] := by
  intro v1 v2 v3 v4 σ u hm
  unfold mX3_meetsOnOthers_34 at hm
  refine go_iinc C (j := 4) dX3_meetsOnOthers_34 rfl (v := (v4 + 1)) rfl (by decide) (lv' := [(4, .int (v4 + 1)), (0, .ref (q 0)), (1, .int v1), (2, .int v2), (3, .int v3)]) rfl (n := 37) rfl ?_
  refine go_goto C 8 dX3_meetsOnOthers_37 (by decide) ?_
  refine go_lv (lv' := [(0, .ref (q 0)), (1, .int v1), (2, .int v2), (3, .int v3), (4, .int (v4 + 1))]) [1, 2, 3, 4, 0] rfl ?_
  exact HK8 _ _ _ _ _ _ hm
def mX3_meetsOnOthers_8 : Nat → Int32 → Int32 → Int32 → Int32 → bx_St → Option Int32
  | 0, _, _, _, _, _ => none
  | n + 1, v1, v2, v3, v4, σ => (if (3 : Int32) ≤ v4 then (some v3) else (if v4 = v1 then (mX3_meetsOnOthers_34 (mX3_meetsOnOthers_8 n) v1 v2 v3 v4 σ) else (if bx_ok v2 12 then (mX3_meetsOnOthers_34 (mX3_meetsOnOthers_8 n) v1 v2 (v3 &&& (σ.1 ((mX3_lineOf v4) + 4) v2.toNatClampNeg)) v4 σ) else none)))
set_option maxRecDepth 8000 in
set_option maxHeartbeats 4000000 in
theorem mX3_meetsOnOthers_8_ok (C : bx_Cx p s m args meth c 5 A D cI cZ RX3 cX3_meetsOnOthers (some .int)) : ∀ (n : Nat) (v1 : Int32) (v2 : Int32) (v3 : Int32) (v4 : Int32) (σ : bx_St) (u : Int32), mX3_meetsOnOthers_8 n v1 v2 v3 v4 σ = some u → bx_Go p l e (bx_rm 2) s m args below meth c 5 A D (MQ below (bx_Q (some (.int u)) (bx_xw q cI σ) D A) args s 0 0 A) (bx_xw q cI σ) 8 [(0, .ref (q 0)), (1, .int v1), (2, .int v2), (3, .int v3), (4, .int v4)] [] := by
  intro n
  induction n with
  | zero =>
    intro v1 v2 v3 v4 σ u hm
    cases hm
  | succ n ih =>
    intro v1 v2 v3 v4 σ u hm
    rw [mX3_meetsOnOthers_8] at hm
    refine go_iload C dX3_meetsOnOthers_8 4 rfl (n := 10) rfl ?_
    refine go_iconst C dX3_meetsOnOthers_10 (v := (3 : Int32)) (by decide) (n := 11) rfl ?_
    refine go_icmp_ge C 40 dX3_meetsOnOthers_11 (by decide) (n := 14) rfl (fun c1 => ?_) (fun c1 => ?_)
    · have hm := bx_p c1 hm
      refine go_iload_n C dX3_meetsOnOthers_40 rfl 3 rfl (n := 41) rfl ?_
      cases hm
      exact go_iret C dX3_meetsOnOthers_41
    · have hm := bx_n c1 hm
      refine go_iload C dX3_meetsOnOthers_14 4 rfl (n := 16) rfl ?_
      refine go_iload_n C dX3_meetsOnOthers_16 rfl 1 rfl (n := 17) rfl ?_
      refine go_icmp_eq C 34 dX3_meetsOnOthers_17 (by decide) (n := 20) rfl (fun c2 => ?_) (fun c2 => ?_)
      · have hm := bx_p c2 hm
        refine go_lv (lv' := [(0, .ref (q 0)), (1, .int v1), (2, .int v2), (3, .int v3), (4, .int v4)]) [0, 1, 2, 3, 4] rfl ?_
        exact mX3_meetsOnOthers_34_ok C _ ih _ _ _ _ _ _ hm
      · have hm := bx_n c2 hm
        refine go_iload_n C dX3_meetsOnOthers_20 rfl 3 rfl (n := 21) rfl ?_
        refine go_aload_n C dX3_meetsOnOthers_21 rfl 0 rfl (n := 22) rfl ?_
        refine go_iload C dX3_meetsOnOthers_22 4 rfl (n := 24) rfl ?_
        refine go_callVa C dX3_meetsOnOthers_24 mw_X3_lineOf ml_X3_120 (rest := [.int v3]) (ktX3_lineOf rfl) (xo3 q cI σ) rfl (by decide) rfl rfl (Nat.le_of_ble_eq_true rfl) (n := 27) rfl ?_
        refine go_get C dX3_meetsOnOthers_27 (xf1_3 q cI σ (mX3_lineOf_isL _)) rfl inX1 (by decide) fl_X3_139 (n := 30) rfl ?_
        refine go_iload_n C dX3_meetsOnOthers_30 rfl 2 rfl (n := 31) rfl ?_
        obtain ⟨b3, hm⟩ := bx_g hm
        refine go_iald C dX3_meetsOnOthers_31 (xal_4 q cI σ (mX3_lineOf_isL _)) b3 (n := 32) rfl ?_
        refine go_iand C dX3_meetsOnOthers_32 (n := 33) rfl ?_
        refine go_istore_n C dX3_meetsOnOthers_33 rfl (by decide) (lv' := [(3, .int (v3 &&& (σ.1 ((mX3_lineOf v4) + 4) v2.toNatClampNeg))), (0, .ref (q 0)), (1, .int v1), (2, .int v2), (4, .int v4)]) rfl (n := 34) rfl ?_
        refine go_lv (lv' := [(0, .ref (q 0)), (1, .int v1), (2, .int v2), (3, .int (v3 &&& (σ.1 ((mX3_lineOf v4) + 4) v2.toNatClampNeg))), (4, .int v4)]) [1, 2, 3, 0, 4] rfl ?_
        exact mX3_meetsOnOthers_34_ok C _ ih _ _ _ _ _ _ hm
def mX3_meetsOnOthers (v1 : Int32) (v2 : Int32) (σ : bx_St) : Option Int32 := (mX3_meetsOnOthers_8 bx_F v1 v2 (σ.1 0 6) (0 : Int32) σ)
set_option maxRecDepth 8000 in
set_option maxHeartbeats 4000000 in
theorem ktX3_meetsOnOthers {l : Launch} {D : va_G} {cI cZ : ClassId} {q : Nat → Nat} {v1 : Int32} {v2 : Int32} {σ : bx_St} {u : Int32} (hm : mX3_meetsOnOthers v1 v2 σ = some u) : bx_Mt l D cI cZ yX3_meetsOnOthers cX3_meetsOnOthers 5 (some .int) 2 [.ref (q 0), .int v1, .int v2] (bx_xw q cI σ) (some (.int u)) (bx_xw q cI σ) := by
  refine bx_mk (by decide) (Nat.le_of_ble_eq_true rfl) (lv := [(0, .ref (q 0)), (1, .int v1), (2, .int v2)]) rfl (fun p e s m args below meth c A C => ?_)
  replace C : bx_Cx p s m args meth c 5 A D cI cZ RX3 cX3_meetsOnOthers (some .int) := C
  unfold mX3_meetsOnOthers at hm
  refine go_aload_n C dX3_meetsOnOthers_0 rfl 0 rfl (n := 1) rfl ?_
  refine go_get C dX3_meetsOnOthers_1 (xf3_6 q cI σ) rfl inX3 (by decide) fl_X3_40 (n := 4) rfl ?_
  refine go_istore_n C dX3_meetsOnOthers_4 rfl (by decide) (lv' := [(3, .int (σ.1 0 6)), (0, .ref (q 0)), (1, .int v1), (2, .int v2)]) rfl (n := 5) rfl ?_
  refine go_iconst C dX3_meetsOnOthers_5 (v := (0 : Int32)) (by decide) (n := 6) rfl ?_
  refine go_istore C dX3_meetsOnOthers_6 (by decide) (lv' := [(4, .int (0 : Int32)), (3, .int (σ.1 0 6)), (0, .ref (q 0)), (1, .int v1), (2, .int v2)]) rfl (n := 8) rfl ?_
  refine go_lv (lv' := [(0, .ref (q 0)), (1, .int v1), (2, .int v2), (3, .int (σ.1 0 6)), (4, .int (0 : Int32))]) [2, 3, 4, 1, 0] rfl ?_
  exact mX3_meetsOnOthers_8_ok C _ _ _ _ _ _ _ hm
def mX3_let_112 (K65 : Int32 → Int32 → Nat → Int32 → Int32 → Int32 → Int32 → bx_St → Option Int32) (v1 : Int32) (v3 : Int32) (k4 : Nat) (v5 : Int32) (v6 : Int32) (v7 : Int32) (v8 : Int32) (σ : bx_St) : Option Int32 := (K65 v1 v3 k4 v5 v6 v7 (v8 + 1) σ)
set_option maxRecDepth 8000 in
set_option maxHeartbeats 4000000 in
theorem mX3_let_112_ok (C : bx_Cx p s m args meth c 10 A D cI cZ RX3 cX3_let (some .int)) (K65 : Int32 → Int32 → Nat → Int32 → Int32 → Int32 → Int32 → bx_St → Option Int32) (HK65 : ∀ (v1 : Int32) (v3 : Int32) (k4 : Nat) (v5 : Int32) (v6 : Int32) (v7 : Int32) (v8 : Int32) (σ : bx_St) (hk4 : bx_isL k4) (u : Int32), K65 v1 v3 k4 v5 v6 v7 v8 σ = some u → bx_Go p l e (bx_rm 4) s m args below meth c 10 A D (MQ below (bx_Q (some (.int u)) (bx_xw q cI σ) D A) args s 0 0 A) (bx_xw q cI σ) 65 [(1, .int v1), (3, .int v3), (4, .ref (q k4)), (5, .int v5), (6, .int v6), (7, .int v7), (8, .int v8)] []) : ∀ (v1 : Int32) (v3 : Int32) (k4 : Nat) (v5 : Int32) (v6 : Int32) (v7 : Int32) (v8 : Int32) (σ : bx_St) (hk4 : bx_isL k4) (u : Int32), mX3_let_112 K65 v1 v3 k4 v5 v6 v7 v8 σ = some u → bx_Go p l e (bx_rm 4) s m args below meth c 10 A D (MQ below (bx_Q (some (.int u)) (bx_xw q cI σ) D A) args s 0 0 A) (bx_xw q cI σ) 112 [(1, .int v1), (3, .int v3), (4, .ref (q k4)), (5, .int v5), (6, .int v6), (7, .int v7), (8, .int v8)] [] := by
  intro v1 v3 k4 v5 v6 v7 v8 σ hk4 u hm
  unfold mX3_let_112 at hm
  refine go_iinc C (j := 6) dX3_let_112 rfl (v := (v8 + 1)) rfl (by decide) (lv' := [(8, .int (v8 + 1)), (1, .int v1), (3, .int v3), (4, .ref (q k4)), (5, .int v5), (6, .int v6), (7, .int v7)]) rfl (n := 115) rfl ?_
  refine go_goto C 65 dX3_let_115 (by decide) ?_
  refine go_lv (lv' := [(1, .int v1), (3, .int v3), (4, .ref (q k4)), (5, .int v5), (6, .int v6), (7, .int v7), (8, .int (v8 + 1))]) [1, 2, 3, 4, 5, 6, 0] rfl ?_
  exact HK65 _ _ _ _ _ _ _ _ hk4 _ hm
def mX3_let_65 : Nat → Int32 → Int32 → Nat → Int32 → Int32 → Int32 → Int32 → bx_St → Option Int32
  | 0, _, _, _, _, _, _, _, _ => none
  | n + 1, v1, v3, k4, v5, v6, v7, v8, σ => (if (12 : Int32) ≤ v8 then (if v7 = 0 then (some (-10001 : Int32)) else (some v6)) else (if (mX3_holds v5 v8) = 0 then (mX3_let_112 (mX3_let_65 n) v1 v3 k4 v5 v6 v7 v8 σ) else (Option.bind (mX1_distanceToTurn k4 v1 v8 v3 σ) fun u4 => (if u4 ≤ 0 then (mX3_let_112 (mX3_let_65 n) v1 v3 k4 v5 v6 v7 v8 σ) else (if v6 ≤ u4 then (mX3_let_112 (mX3_let_65 n) v1 v3 k4 v5 v6 v7 v8 σ) else (mX3_let_112 (mX3_let_65 n) v1 v3 k4 v5 u4 (1 : Int32) v8 σ))))))
set_option maxRecDepth 8000 in
set_option maxHeartbeats 4000000 in
theorem mX3_let_65_ok (C : bx_Cx p s m args meth c 10 A D cI cZ RX3 cX3_let (some .int)) : ∀ (n : Nat) (v1 : Int32) (v3 : Int32) (k4 : Nat) (v5 : Int32) (v6 : Int32) (v7 : Int32) (v8 : Int32) (σ : bx_St) (hk4 : bx_isL k4) (u : Int32), mX3_let_65 n v1 v3 k4 v5 v6 v7 v8 σ = some u → bx_Go p l e (bx_rm 4) s m args below meth c 10 A D (MQ below (bx_Q (some (.int u)) (bx_xw q cI σ) D A) args s 0 0 A) (bx_xw q cI σ) 65 [(1, .int v1), (3, .int v3), (4, .ref (q k4)), (5, .int v5), (6, .int v6), (7, .int v7), (8, .int v8)] [] := by
  intro n
  induction n with
  | zero =>
    intro v1 v3 k4 v5 v6 v7 v8 σ hk4 u hm
    cases hm
  | succ n ih =>
    intro v1 v3 k4 v5 v6 v7 v8 σ hk4 u hm
    rw [mX3_let_65] at hm
    refine go_iload C dX3_let_65 6 rfl (n := 67) rfl ?_
    refine go_bipush C dX3_let_67 (v := (12 : Int32)) (by decide) (n := 69) rfl ?_
    refine go_icmp_ge C 118 dX3_let_69 (by decide) (n := 72) rfl (fun c1 => ?_) (fun c1 => ?_)
    · have hm := bx_p c1 hm
      refine go_iload C dX3_let_118 5 rfl (n := 120) rfl ?_
      refine go_if_eq C 128 dX3_let_120 (by decide) (n := 123) rfl (fun c2 => ?_) (fun c2 => ?_)
      · have hm := bx_p c2 hm
        refine go_sipush C dX3_let_128 (v := (-10001 : Int32)) (by decide) (n := 131) rfl ?_
        cases hm
        exact go_iret C dX3_let_131
      · have hm := bx_n c2 hm
        refine go_iload C dX3_let_123 4 rfl (n := 125) rfl ?_
        refine go_goto C 131 dX3_let_125 (by decide) ?_
        cases hm
        exact go_iret C dX3_let_131
    · have hm := bx_n c1 hm
      refine go_iload C dX3_let_72 3 rfl (n := 74) rfl ?_
      refine go_iload C dX3_let_74 6 rfl (n := 76) rfl ?_
      refine go_callSi C dX3_let_76 mw_X3_holds ml_X3_142 (rest := []) (ktX3_holds rfl) (by decide) rfl rfl (Nat.le_of_ble_eq_true rfl) (n := 79) rfl ?_
      refine go_if_eq C 112 dX3_let_79 (by decide) (n := 82) rfl (fun c3 => ?_) (fun c3 => ?_)
      · have hm := bx_p c3 hm
        refine go_lv (lv' := [(1, .int v1), (3, .int v3), (4, .ref (q k4)), (5, .int v5), (6, .int v6), (7, .int v7), (8, .int v8)]) [0, 1, 2, 3, 4, 5, 6] rfl ?_
        exact mX3_let_112_ok C _ ih _ _ _ _ _ _ _ _ hk4 _ hm
      · have hm := bx_n c3 hm
        refine go_aload C dX3_let_82 2 rfl (n := 84) rfl ?_
        refine go_iload_n C dX3_let_84 rfl 0 rfl (n := 85) rfl ?_
        refine go_iload C dX3_let_85 6 rfl (n := 87) rfl ?_
        refine go_iload_n C dX3_let_87 rfl 1 rfl (n := 88) rfl ?_
        obtain ⟨u4, e5, hm⟩ := bx_b hm
        refine go_callVi C dX3_let_88 mw_X1_distanceToTurn ml_X3_176 (rest := []) (ktX1_distanceToTurn hk4 e5) (xo1 q cI σ hk4) rfl (by decide) rfl rfl (Nat.le_of_ble_eq_true rfl) (n := 91) rfl ?_
        refine go_istore C dX3_let_91 (by decide) (lv' := [(9, .int u4), (1, .int v1), (3, .int v3), (4, .ref (q k4)), (5, .int v5), (6, .int v6), (7, .int v7), (8, .int v8)]) rfl (n := 93) rfl ?_
        refine go_iload C dX3_let_93 0 rfl (n := 95) rfl ?_
        refine go_if_le C 112 dX3_let_95 (by decide) (n := 98) rfl (fun c6 => ?_) (fun c6 => ?_)
        · have hm := bx_p c6 hm
          refine go_lv (lv' := [(1, .int v1), (3, .int v3), (4, .ref (q k4)), (5, .int v5), (6, .int v6), (7, .int v7), (8, .int v8)]) [1, 2, 3, 4, 5, 6, 7] rfl ?_
          exact mX3_let_112_ok C _ ih _ _ _ _ _ _ _ _ hk4 _ hm
        · have hm := bx_n c6 hm
          refine go_iload C dX3_let_98 0 rfl (n := 100) rfl ?_
          refine go_iload C dX3_let_100 5 rfl (n := 102) rfl ?_
          refine go_icmp_ge C 112 dX3_let_102 (by decide) (n := 105) rfl (fun c7 => ?_) (fun c7 => ?_)
          · have hm := bx_p c7 hm
            refine go_lv (lv' := [(1, .int v1), (3, .int v3), (4, .ref (q k4)), (5, .int v5), (6, .int v6), (7, .int v7), (8, .int v8)]) [1, 2, 3, 4, 5, 6, 7] rfl ?_
            exact mX3_let_112_ok C _ ih _ _ _ _ _ _ _ _ hk4 _ hm
          · have hm := bx_n c7 hm
            refine go_iload C dX3_let_105 0 rfl (n := 107) rfl ?_
            refine go_istore C dX3_let_107 (by decide) (lv' := [(6, .int u4), (9, .int u4), (1, .int v1), (3, .int v3), (4, .ref (q k4)), (5, .int v5), (7, .int v7), (8, .int v8)]) rfl (n := 109) rfl ?_
            refine go_iconst C dX3_let_109 (v := (1 : Int32)) (by decide) (n := 110) rfl ?_
            refine go_istore C dX3_let_110 (by decide) (lv' := [(7, .int (1 : Int32)), (6, .int u4), (9, .int u4), (1, .int v1), (3, .int v3), (4, .ref (q k4)), (5, .int v5), (8, .int v8)]) rfl (n := 112) rfl ?_
            refine go_lv (lv' := [(1, .int v1), (3, .int v3), (4, .ref (q k4)), (5, .int v5), (6, .int u4), (7, .int (1 : Int32)), (8, .int v8)]) [3, 4, 5, 6, 1, 0, 7] rfl ?_
            exact mX3_let_112_ok C _ ih _ _ _ _ _ _ _ _ hk4 _ hm
def mX3_let_33 (v1 : Int32) (v2 : Int32) (v3 : Int32) (σ : bx_St) : Option Int32 := (Option.bind (mX3_meetsOnOthers v2 v1 σ) fun u1 => (Option.bind (mX1_room (mX3_lineOf v2) v1 v3 σ) fun u3 => (mX3_let_65 bx_F v1 v3 (mX3_lineOf v2) u1 (u3 + (1 : Int32)) (0 : Int32) (0 : Int32) σ)))
set_option maxRecDepth 8000 in
set_option maxHeartbeats 4000000 in
theorem mX3_let_33_ok (C : bx_Cx p s m args meth c 10 A D cI cZ RX3 cX3_let (some .int)) : ∀ (v1 : Int32) (v2 : Int32) (v3 : Int32) (σ : bx_St) (u : Int32), mX3_let_33 v1 v2 v3 σ = some u → bx_Go p l e (bx_rm 4) s m args below meth c 10 A D (MQ below (bx_Q (some (.int u)) (bx_xw q cI σ) D A) args s 0 0 A) (bx_xw q cI σ) 33 [(0, .ref (q 0)), (1, .int v1), (2, .int v2), (3, .int v3)] [] := by
  intro v1 v2 v3 σ u hm
  unfold mX3_let_33 at hm
  refine go_aload_n C dX3_let_33 rfl 0 rfl (n := 34) rfl ?_
  refine go_iload_n C dX3_let_34 rfl 2 rfl (n := 35) rfl ?_
  refine go_callVa C dX3_let_35 mw_X3_lineOf ml_X3_120 (rest := []) (ktX3_lineOf rfl) (xo3 q cI σ) rfl (by decide) rfl rfl (Nat.le_of_ble_eq_true rfl) (n := 38) rfl ?_
  refine go_astore C dX3_let_38 (by decide) (lv' := [(4, .ref (q (mX3_lineOf v2))), (0, .ref (q 0)), (1, .int v1), (2, .int v2), (3, .int v3)]) rfl (n := 40) rfl ?_
  refine go_aload_n C dX3_let_40 rfl 1 rfl (n := 41) rfl ?_
  refine go_iload_n C dX3_let_41 rfl 3 rfl (n := 42) rfl ?_
  refine go_iload_n C dX3_let_42 rfl 2 rfl (n := 43) rfl ?_
  obtain ⟨u1, e2, hm⟩ := bx_b hm
  refine go_callVi C dX3_let_43 mw_X3_meetsOnOthers ml_X3_170 (rest := []) (ktX3_meetsOnOthers e2) (xo3 q cI σ) rfl (by decide) rfl rfl (Nat.le_of_ble_eq_true rfl) (n := 46) rfl ?_
  refine go_istore C dX3_let_46 (by decide) (lv' := [(5, .int u1), (4, .ref (q (mX3_lineOf v2))), (0, .ref (q 0)), (1, .int v1), (2, .int v2), (3, .int v3)]) rfl (n := 48) rfl ?_
  refine go_aload C dX3_let_48 1 rfl (n := 50) rfl ?_
  refine go_iload_n C dX3_let_50 rfl 3 rfl (n := 51) rfl ?_
  refine go_iload_n C dX3_let_51 rfl 5 rfl (n := 52) rfl ?_
  obtain ⟨u3, e4, hm⟩ := bx_b hm
  refine go_callVi C dX3_let_52 mw_X1_room ml_X3_173 (rest := []) (ktX1_room (mX3_lineOf_isL _) e4) (xo1 q cI σ (mX3_lineOf_isL _)) rfl (by decide) rfl rfl (Nat.le_of_ble_eq_true rfl) (n := 55) rfl ?_
  refine go_iconst C dX3_let_55 (v := (1 : Int32)) (by decide) (n := 56) rfl ?_
  refine go_iadd C dX3_let_56 (n := 57) rfl ?_
  refine go_istore C dX3_let_57 (by decide) (lv' := [(6, .int (u3 + (1 : Int32))), (5, .int u1), (4, .ref (q (mX3_lineOf v2))), (0, .ref (q 0)), (1, .int v1), (2, .int v2), (3, .int v3)]) rfl (n := 59) rfl ?_
  refine go_iconst C dX3_let_59 (v := (0 : Int32)) (by decide) (n := 60) rfl ?_
  refine go_istore C dX3_let_60 (by decide) (lv' := [(7, .int (0 : Int32)), (6, .int (u3 + (1 : Int32))), (5, .int u1), (4, .ref (q (mX3_lineOf v2))), (0, .ref (q 0)), (1, .int v1), (2, .int v2), (3, .int v3)]) rfl (n := 62) rfl ?_
  refine go_iconst C dX3_let_62 (v := (0 : Int32)) (by decide) (n := 63) rfl ?_
  refine go_istore C dX3_let_63 (by decide) (lv' := [(8, .int (0 : Int32)), (7, .int (0 : Int32)), (6, .int (u3 + (1 : Int32))), (5, .int u1), (4, .ref (q (mX3_lineOf v2))), (0, .ref (q 0)), (1, .int v1), (2, .int v2), (3, .int v3)]) rfl (n := 65) rfl ?_
  refine go_lv (lv' := [(1, .int v1), (3, .int v3), (4, .ref (q (mX3_lineOf v2))), (5, .int u1), (6, .int (u3 + (1 : Int32))), (7, .int (0 : Int32)), (8, .int (0 : Int32))]) [6, 8, 4, 3, 2, 1, 0] rfl ?_
  exact mX3_let_65_ok C _ _ _ _ _ _ _ _ _ (mX3_lineOf_isL _) _ hm
def mX3_let (v1 : Int32) (v2 : Int32) (v3 : Int32) (σ : bx_St) : Option Int32 := (if (mX3_isThere v1 σ) = 0 then (some (-10002 : Int32)) else (if (mX3_isAxis v2) = 0 then (some (-10002 : Int32)) else (if v3 = (1 : Int32) then (mX3_let_33 v1 v2 v3 σ) else (if v3 = (-1 : Int32) then (mX3_let_33 v1 v2 v3 σ) else (some (-10003 : Int32))))))
set_option maxRecDepth 8000 in
set_option maxHeartbeats 4000000 in
theorem ktX3_let {l : Launch} {D : va_G} {cI cZ : ClassId} {q : Nat → Nat} {v1 : Int32} {v2 : Int32} {v3 : Int32} {σ : bx_St} {u : Int32} (hm : mX3_let v1 v2 v3 σ = some u) : bx_Mt l D cI cZ yX3_let cX3_let 10 (some .int) 4 [.ref (q 0), .int v1, .int v2, .int v3] (bx_xw q cI σ) (some (.int u)) (bx_xw q cI σ) := by
  refine bx_mk (by decide) (Nat.le_of_ble_eq_true rfl) (lv := [(0, .ref (q 0)), (1, .int v1), (2, .int v2), (3, .int v3)]) rfl (fun p e s m args below meth c A C => ?_)
  replace C : bx_Cx p s m args meth c 10 A D cI cZ RX3 cX3_let (some .int) := C
  unfold mX3_let at hm
  refine go_aload_n C dX3_let_0 rfl 0 rfl (n := 1) rfl ?_
  refine go_iload_n C dX3_let_1 rfl 1 rfl (n := 2) rfl ?_
  refine go_callVi C dX3_let_2 mw_X3_isThere ml_X3_78 (rest := []) (ktX3_isThere rfl) (xo3 q cI σ) rfl (by decide) rfl rfl (Nat.le_of_ble_eq_true rfl) (n := 5) rfl ?_
  refine go_if_eq C 15 dX3_let_5 (by decide) (n := 8) rfl (fun c1 => ?_) (fun c1 => ?_)
  · have hm := bx_p c1 hm
    refine go_sipush C dX3_let_15 (v := (-10002 : Int32)) (by decide) (n := 18) rfl ?_
    cases hm
    exact go_iret C dX3_let_18
  · have hm := bx_n c1 hm
    refine go_iload_n C dX3_let_8 rfl 2 rfl (n := 9) rfl ?_
    refine go_callSi C dX3_let_9 mw_X3_isAxis ml_X3_108 (rest := []) (ktX3_isAxis rfl) (by decide) rfl rfl (Nat.le_of_ble_eq_true rfl) (n := 12) rfl ?_
    refine go_if_ne C 19 dX3_let_12 (by decide) (n := 15) rfl (fun c2 => ?_) (fun c2 => ?_)
    · have hm := bx_n c2 hm
      refine go_iload_n C dX3_let_19 rfl 3 rfl (n := 20) rfl ?_
      refine go_iconst C dX3_let_20 (v := (1 : Int32)) (by decide) (n := 21) rfl ?_
      refine go_icmp_eq C 33 dX3_let_21 (by decide) (n := 24) rfl (fun c3 => ?_) (fun c3 => ?_)
      · have hm := bx_p c3 hm
        refine go_lv (lv' := [(0, .ref (q 0)), (1, .int v1), (2, .int v2), (3, .int v3)]) [0, 1, 2, 3] rfl ?_
        exact mX3_let_33_ok C _ _ _ _ _ hm
      · have hm := bx_n c3 hm
        refine go_iload_n C dX3_let_24 rfl 3 rfl (n := 25) rfl ?_
        refine go_iconst C dX3_let_25 (v := (-1 : Int32)) (by decide) (n := 26) rfl ?_
        refine go_icmp_eq C 33 dX3_let_26 (by decide) (n := 29) rfl (fun c4 => ?_) (fun c4 => ?_)
        · have hm := bx_p c4 hm
          refine go_lv (lv' := [(0, .ref (q 0)), (1, .int v1), (2, .int v2), (3, .int v3)]) [0, 1, 2, 3] rfl ?_
          exact mX3_let_33_ok C _ _ _ _ _ hm
        · have hm := bx_n c4 hm
          refine go_sipush C dX3_let_29 (v := (-10003 : Int32)) (by decide) (n := 32) rfl ?_
          cases hm
          exact go_iret C dX3_let_32
    · have hm := bx_p c2 hm
      refine go_sipush C dX3_let_15 (v := (-10002 : Int32)) (by decide) (n := 18) rfl ?_
      cases hm
      exact go_iret C dX3_let_18
end
