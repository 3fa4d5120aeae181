section
variable {p : Program} {l : Launch} {e : Env} {s : State} {m : MethodId} {args : Array Value} {below : List Frame} {meth : Method} {c : Code} {A : Nat → Prop} {D : va_G} {cI cZ : ClassId} {q : Nat → Nat} {ws : va_W}
def mX3_touch_12 (v1 : Int32) (s0 : Int32) (σ : bx_St) : Option (Int32 × bx_St) := (Option.bind (mX0_open σ) fun u1 => (if bx_bo v1 then (Option.bind (mX3_rearrange (bx_up u1 0 7 v1)) fun u4 => (some (s0, u4))) else none))
set_option maxRecDepth 8000 in
set_option maxHeartbeats 4000000 in
theorem mX3_touch_12_ok (C : bx_Cx p s m args meth c 3 A D cI cZ RX3 cX3_touch (some .int)) : ∀ (v1 : Int32) (s0 : Int32) (σ : bx_St) (u : (Int32 × bx_St)), mX3_touch_12 v1 s0 σ = some u → bx_Go p l e (bx_rm 7) s m args below meth c 3 A D (MQ below (bx_Q (some (.int u.1)) (bx_xw q cI u.2) D A) args s 0 0 A) (bx_xw q cI σ) 12 [(0, .ref (q 0)), (1, .int v1)] [.int s0] := by
  intro v1 s0 σ u hm
  unfold mX3_touch_12 at hm
  refine go_istore_n C dX3_touch_12 rfl (by decide) (lv' := [(2, .int s0), (0, .ref (q 0)), (1, .int v1)]) rfl (n := 13) rfl ?_
  refine go_aload_n C dX3_touch_13 rfl 1 rfl (n := 14) rfl ?_
  refine go_get C dX3_touch_14 (xf3_4 q cI σ) rfl inX3 (by decide) fl_X3_32 (n := 17) rfl ?_
  obtain ⟨u1, e2, hm⟩ := bx_b hm
  refine go_callVv C dX3_touch_17 mw_X0_open ml_X3_75 (rest := []) (ktX0_open e2) (xo0 q cI σ) rfl (by decide) rfl rfl (Nat.le_of_ble_eq_true rfl) (n := 20) rfl ?_
  refine go_aload_n C dX3_touch_20 rfl 1 rfl (n := 21) rfl ?_
  refine go_iload_n C dX3_touch_21 rfl 2 rfl (n := 22) rfl ?_
  obtain ⟨b3, hm⟩ := bx_g hm
  refine go_put C dX3_touch_22 (xp3_7 q cI u1 v1) rfl inX3 tyX3_ok nmX3 (by decide) fl_X3_44 rfl (ty := .boolean) (by decide +kernel) (bx_nb b3) (bx_fb b3) (n := 25) rfl ?_
  refine go_aload_n C dX3_touch_25 rfl 1 rfl (n := 26) rfl ?_
  obtain ⟨u4, e5, hm⟩ := bx_b hm
  refine go_callVv C dX3_touch_26 mw_X3_rearrange ml_X3_85 (rest := []) (ktX3_rearrange e5) (xo3 q cI (bx_up u1 0 7 v1)) rfl (by decide) rfl rfl (Nat.le_of_ble_eq_true rfl) (n := 29) rfl ?_
  refine go_iload_n C dX3_touch_29 rfl 0 rfl (n := 30) rfl ?_
  cases hm
  exact go_iret C dX3_touch_30
def mX3_touch (v1 : Int32) (σ : bx_St) : Option (Int32 × bx_St) := (if (σ.1 0 7) = 0 then (mX3_touch_12 v1 (0 : Int32) σ) else (mX3_touch_12 v1 (1 : Int32) σ))
set_option maxRecDepth 8000 in
set_option maxHeartbeats 4000000 in
theorem ktX3_touch {l : Launch} {D : va_G} {cI cZ : ClassId} {q : Nat → Nat} {v1 : Int32} {σ : bx_St} {u : (Int32 × bx_St)} (hm : mX3_touch v1 σ = some u) : bx_Mt l D cI cZ yX3_touch cX3_touch 3 (some .int) 7 [.ref (q 0), .int v1] (bx_xw q cI σ) (some (.int u.1)) (bx_xw q cI u.2) := by
  refine bx_mk (by decide) (Nat.le_of_ble_eq_true rfl) (lv := [(0, .ref (q 0)), (1, .int v1)]) rfl (fun p e s m args below meth c A C => ?_)
  replace C : bx_Cx p s m args meth c 3 A D cI cZ RX3 cX3_touch (some .int) := C
  unfold mX3_touch at hm
  refine go_aload_n C dX3_touch_0 rfl 0 rfl (n := 1) rfl ?_
  refine go_get C dX3_touch_1 (xf3_7 q cI σ) rfl inX3 (by decide) fl_X3_44 (n := 4) rfl ?_
  refine go_if_eq C 11 dX3_touch_4 (by decide) (n := 7) rfl (fun c1 => ?_) (fun c1 => ?_)
  · have hm := bx_p c1 hm
    refine go_iconst C dX3_touch_11 (v := (0 : Int32)) (by decide) (n := 12) rfl ?_
    refine go_lv (lv' := [(0, .ref (q 0)), (1, .int v1)]) [0, 1] rfl ?_
    exact mX3_touch_12_ok C _ _ _ _ hm
  · have hm := bx_n c1 hm
    refine go_iconst C dX3_touch_7 (v := (1 : Int32)) (by decide) (n := 8) rfl ?_
    refine go_goto C 12 dX3_touch_8 (by decide) ?_
    refine go_lv (lv' := [(0, .ref (q 0)), (1, .int v1)]) [0, 1] rfl ?_
    exact mX3_touch_12_ok C _ _ _ _ hm
def mX4_within (v0 : Int32) (v1 : Int32) (v2 : Int32) : Int32 := (if v0 < v1 then (0 : Int32) else (if v2 < v0 then (0 : Int32) else (1 : Int32)))
set_option maxRecDepth 8000 in
set_option maxHeartbeats 4000000 in
theorem ktX4_within {l : Launch} {D : va_G} {cI cZ : ClassId} {ws : va_W} {v0 : Int32} {v1 : Int32} {v2 : Int32} {u : Int32} (hm : mX4_within v0 v1 v2 = u) : bx_Mt l D cI cZ yX4_within cX4_within 3 (some .boolean) 1 [.int v0, .int v1, .int v2] ws (some (.int u)) ws := by
  refine bx_mk (by decide) (Nat.le_of_ble_eq_true rfl) (lv := [(0, .int v0), (1, .int v1), (2, .int v2)]) rfl (fun p e s m args below meth c A C => ?_)
  replace C : bx_Cx p s m args meth c 3 A D cI cZ RX4 cX4_within (some .boolean) := C
  unfold mX4_within at hm
  refine go_iload_n C dX4_within_0 rfl 0 rfl (n := 1) rfl ?_
  refine go_iload_n C dX4_within_1 rfl 1 rfl (n := 2) rfl ?_
  refine go_icmp_lt C 14 dX4_within_2 (by decide) (n := 5) rfl (fun c1 => ?_) (fun c1 => ?_)
  · have hm := bx_p c1 hm
    refine go_iconst C dX4_within_14 (v := (0 : Int32)) (by decide) (n := 15) rfl ?_
    subst hm
    exact go_zret C dX4_within_15 (Or.inl rfl)
  · have hm := bx_n c1 hm
    refine go_iload_n C dX4_within_5 rfl 0 rfl (n := 6) rfl ?_
    refine go_iload_n C dX4_within_6 rfl 2 rfl (n := 7) rfl ?_
    refine go_icmp_gt C 14 dX4_within_7 (by decide) (n := 10) rfl (fun c2 => ?_) (fun c2 => ?_)
    · have hm := bx_p c2 hm
      refine go_iconst C dX4_within_14 (v := (0 : Int32)) (by decide) (n := 15) rfl ?_
      subst hm
      exact go_zret C dX4_within_15 (Or.inl rfl)
    · have hm := bx_n c2 hm
      refine go_iconst C dX4_within_10 (v := (1 : Int32)) (by decide) (n := 11) rfl ?_
      refine go_goto C 15 dX4_within_11 (by decide) ?_
      subst hm
      exact go_zret C dX4_within_15 (Or.inr rfl)
def mX4_areEnds (v0 : Int32) (v1 : Int32) : Int32 := (if (mX4_within v0 (-999 : Int32) (999 : Int32)) = 0 then (0 : Int32) else (if (mX4_within v1 (-999 : Int32) (999 : Int32)) = 0 then (0 : Int32) else (if v1 ≤ v0 then (0 : Int32) else (1 : Int32))))
set_option maxRecDepth 8000 in
set_option maxHeartbeats 4000000 in
theorem ktX4_areEnds {l : Launch} {D : va_G} {cI cZ : ClassId} {ws : va_W} {v0 : Int32} {v1 : Int32} {u : Int32} (hm : mX4_areEnds v0 v1 = u) : bx_Mt l D cI cZ yX4_areEnds cX4_areEnds 2 (some .boolean) 2 [.int v0, .int v1] ws (some (.int u)) ws := by
  refine bx_mk (by decide) (Nat.le_of_ble_eq_true rfl) (lv := [(0, .int v0), (1, .int v1)]) rfl (fun p e s m args below meth c A C => ?_)
  replace C : bx_Cx p s m args meth c 2 A D cI cZ RX4 cX4_areEnds (some .boolean) := C
  unfold mX4_areEnds at hm
  refine go_iload_n C dX4_areEnds_0 rfl 0 rfl (n := 1) rfl ?_
  refine go_sipush C dX4_areEnds_1 (v := (-999 : Int32)) (by decide) (n := 4) rfl ?_
  refine go_sipush C dX4_areEnds_4 (v := (999 : Int32)) (by decide) (n := 7) rfl ?_
  refine go_callSi C dX4_areEnds_7 mw_X4_within ml_X4_41 (rest := []) (ktX4_within rfl) (by decide) rfl rfl (Nat.le_of_ble_eq_true rfl) (n := 10) rfl ?_
  refine go_if_eq C 35 dX4_areEnds_10 (by decide) (n := 13) rfl (fun c1 => ?_) (fun c1 => ?_)
  · have hm := bx_p c1 hm
    refine go_iconst C dX4_areEnds_35 (v := (0 : Int32)) (by decide) (n := 36) rfl ?_
    subst hm
    exact go_zret C dX4_areEnds_36 (Or.inl rfl)
  · have hm := bx_n c1 hm
    refine go_iload_n C dX4_areEnds_13 rfl 1 rfl (n := 14) rfl ?_
    refine go_sipush C dX4_areEnds_14 (v := (-999 : Int32)) (by decide) (n := 17) rfl ?_
    refine go_sipush C dX4_areEnds_17 (v := (999 : Int32)) (by decide) (n := 20) rfl ?_
    refine go_callSi C dX4_areEnds_20 mw_X4_within ml_X4_41 (rest := []) (ktX4_within rfl) (by decide) rfl rfl (Nat.le_of_ble_eq_true rfl) (n := 23) rfl ?_
    refine go_if_eq C 35 dX4_areEnds_23 (by decide) (n := 26) rfl (fun c2 => ?_) (fun c2 => ?_)
    · have hm := bx_p c2 hm
      refine go_iconst C dX4_areEnds_35 (v := (0 : Int32)) (by decide) (n := 36) rfl ?_
      subst hm
      exact go_zret C dX4_areEnds_36 (Or.inl rfl)
    · have hm := bx_n c2 hm
      refine go_iload_n C dX4_areEnds_26 rfl 0 rfl (n := 27) rfl ?_
      refine go_iload_n C dX4_areEnds_27 rfl 1 rfl (n := 28) rfl ?_
      refine go_icmp_ge C 35 dX4_areEnds_28 (by decide) (n := 31) rfl (fun c3 => ?_) (fun c3 => ?_)
      · have hm := bx_p c3 hm
        refine go_iconst C dX4_areEnds_35 (v := (0 : Int32)) (by decide) (n := 36) rfl ?_
        subst hm
        exact go_zret C dX4_areEnds_36 (Or.inl rfl)
      · have hm := bx_n c3 hm
        refine go_iconst C dX4_areEnds_31 (v := (1 : Int32)) (by decide) (n := 32) rfl ?_
        refine go_goto C 36 dX4_areEnds_32 (by decide) ?_
        subst hm
        exact go_zret C dX4_areEnds_36 (Or.inr rfl)
def mX4_highOf (v1 : Int32) (v2 : Int32) (σ : bx_St) : Option Int32 := (if bx_ok ((((6 : Int32) * v1) + ((2 : Int32) * v2)) + (1 : Int32)) 72 then (some (σ.1 2 ((((6 : Int32) * v1) + ((2 : Int32) * v2)) + (1 : Int32)).toNatClampNeg)) else none)
set_option maxRecDepth 8000 in
set_option maxHeartbeats 4000000 in
theorem ktX4_highOf {l : Launch} {D : va_G} {cI cZ : ClassId} {q : Nat → Nat} {v1 : Int32} {v2 : Int32} {σ : bx_St} {u : Int32} (hm : mX4_highOf v1 v2 σ = some u) : bx_Mt l D cI cZ yX4_highOf cX4_highOf 3 (some .int) 1 [.ref (q 0), .int v1, .int v2] (bx_mw q cI cZ σ) (some (.int u)) (bx_mw q cI cZ σ) := by
  refine bx_mk (by decide) (Nat.le_of_ble_eq_true rfl) (lv := [(0, .ref (q 0)), (1, .int v1), (2, .int v2)]) rfl (fun p e s m args below meth c A C => ?_)
  replace C : bx_Cx p s m args meth c 3 A D cI cZ RX4 cX4_highOf (some .int) := C
  unfold mX4_highOf at hm
  refine go_aload_n C dX4_highOf_0 rfl 0 rfl (n := 1) rfl ?_
  refine go_get C dX4_highOf_1 (mf4_4 q cI cZ σ) rfl inX4 (by decide) fl_X4_13 (n := 4) rfl ?_
  refine go_bipush C dX4_highOf_4 (v := (6 : Int32)) (by decide) (n := 6) rfl ?_
  refine go_iload_n C dX4_highOf_6 rfl 1 rfl (n := 7) rfl ?_
  refine go_imul C dX4_highOf_7 (n := 8) rfl ?_
  refine go_iconst C dX4_highOf_8 (v := (2 : Int32)) (by decide) (n := 9) rfl ?_
  refine go_iload_n C dX4_highOf_9 rfl 2 rfl (n := 10) rfl ?_
  refine go_imul C dX4_highOf_10 (n := 11) rfl ?_
  refine go_iadd C dX4_highOf_11 (n := 12) rfl ?_
  refine go_iconst C dX4_highOf_12 (v := (1 : Int32)) (by decide) (n := 13) rfl ?_
  refine go_iadd C dX4_highOf_13 (n := 14) rfl ?_
  obtain ⟨b1, hm⟩ := bx_g hm
  refine go_iald C dX4_highOf_14 (ma_2 q cI cZ σ) b1 (n := 15) rfl ?_
  cases hm
  exact go_iret C dX4_highOf_15
def mX4_lowOf (v1 : Int32) (v2 : Int32) (σ : bx_St) : Option Int32 := (if bx_ok (((6 : Int32) * v1) + ((2 : Int32) * v2)) 72 then (some (σ.1 2 (((6 : Int32) * v1) + ((2 : Int32) * v2)).toNatClampNeg)) else none)
set_option maxRecDepth 8000 in
set_option maxHeartbeats 4000000 in
theorem ktX4_lowOf {l : Launch} {D : va_G} {cI cZ : ClassId} {q : Nat → Nat} {v1 : Int32} {v2 : Int32} {σ : bx_St} {u : Int32} (hm : mX4_lowOf v1 v2 σ = some u) : bx_Mt l D cI cZ yX4_lowOf cX4_lowOf 3 (some .int) 1 [.ref (q 0), .int v1, .int v2] (bx_mw q cI cZ σ) (some (.int u)) (bx_mw q cI cZ σ) := by
  refine bx_mk (by decide) (Nat.le_of_ble_eq_true rfl) (lv := [(0, .ref (q 0)), (1, .int v1), (2, .int v2)]) rfl (fun p e s m args below meth c A C => ?_)
  replace C : bx_Cx p s m args meth c 3 A D cI cZ RX4 cX4_lowOf (some .int) := C
  unfold mX4_lowOf at hm
  refine go_aload_n C dX4_lowOf_0 rfl 0 rfl (n := 1) rfl ?_
  refine go_get C dX4_lowOf_1 (mf4_4 q cI cZ σ) rfl inX4 (by decide) fl_X4_13 (n := 4) rfl ?_
  refine go_bipush C dX4_lowOf_4 (v := (6 : Int32)) (by decide) (n := 6) rfl ?_
  refine go_iload_n C dX4_lowOf_6 rfl 1 rfl (n := 7) rfl ?_
  refine go_imul C dX4_lowOf_7 (n := 8) rfl ?_
  refine go_iconst C dX4_lowOf_8 (v := (2 : Int32)) (by decide) (n := 9) rfl ?_
  refine go_iload_n C dX4_lowOf_9 rfl 2 rfl (n := 10) rfl ?_
  refine go_imul C dX4_lowOf_10 (n := 11) rfl ?_
  refine go_iadd C dX4_lowOf_11 (n := 12) rfl ?_
  obtain ⟨b1, hm⟩ := bx_g hm
  refine go_iald C dX4_lowOf_12 (ma_2 q cI cZ σ) b1 (n := 13) rfl ?_
  cases hm
  exact go_iret C dX4_lowOf_13
def mX4_areMeeting_12 (v1 : Int32) (v2 : Int32) (v3 : Int32) (s0 : Int32) (σ : bx_St) : Option Int32 := (Option.bind (mX4_lowOf v1 v3 σ) fun u1 => (Option.bind (mX4_highOf v2 v3 σ) fun u3 => (if (u3 + s0) ≤ u1 then (some (0 : Int32)) else (Option.bind (mX4_lowOf v2 v3 σ) fun u6 => (Option.bind (mX4_highOf v1 v3 σ) fun u8 => (if (u8 + s0) ≤ u6 then (some (0 : Int32)) else (some (1 : Int32))))))))
set_option maxRecDepth 8000 in
set_option maxHeartbeats 4000000 in
theorem mX4_areMeeting_12_ok (C : bx_Cx p s m args meth c 5 A D cI cZ RX4 cX4_areMeeting (some .boolean)) : ∀ (v1 : Int32) (v2 : Int32) (v3 : Int32) (s0 : Int32) (σ : bx_St) (u : Int32), mX4_areMeeting_12 v1 v2 v3 s0 σ = some u → bx_Go p l e (bx_rm 2) s m args below meth c 5 A D (MQ below (bx_Q (some (.int u)) (bx_mw q cI cZ σ) D A) args s 0 0 A) (bx_mw q cI cZ σ) 12 [(0, .ref (q 0)), (1, .int v1), (2, .int v2), (3, .int v3)] [.int s0] := by
  intro v1 v2 v3 s0 σ u hm
  unfold mX4_areMeeting_12 at hm
  refine go_istore C dX4_areMeeting_12 (by decide) (lv' := [(4, .int s0), (0, .ref (q 0)), (1, .int v1), (2, .int v2), (3, .int v3)]) rfl (n := 14) rfl ?_
  refine go_aload_n C dX4_areMeeting_14 rfl 1 rfl (n := 15) rfl ?_
  refine go_iload_n C dX4_areMeeting_15 rfl 2 rfl (n := 16) rfl ?_
  refine go_iload_n C dX4_areMeeting_16 rfl 4 rfl (n := 17) rfl ?_
  obtain ⟨u1, e2, hm⟩ := bx_b hm
  refine go_callVi C dX4_areMeeting_17 mw_X4_lowOf ml_X4_104 (rest := []) (ktX4_lowOf e2) (mo4 q cI cZ σ) rfl (by decide) rfl rfl (Nat.le_of_ble_eq_true rfl) (n := 20) rfl ?_
  refine go_aload_n C dX4_areMeeting_20 rfl 1 rfl (n := 21) rfl ?_
  refine go_iload_n C dX4_areMeeting_21 rfl 3 rfl (n := 22) rfl ?_
  refine go_iload_n C dX4_areMeeting_22 rfl 4 rfl (n := 23) rfl ?_
  obtain ⟨u3, e4, hm⟩ := bx_b hm
  refine go_callVi C dX4_areMeeting_23 mw_X4_highOf ml_X4_107 (rest := [.int u1]) (ktX4_highOf e4) (mo4 q cI cZ σ) rfl (by decide) rfl rfl (Nat.le_of_ble_eq_true rfl) (n := 26) rfl ?_
  refine go_iload C dX4_areMeeting_26 0 rfl (n := 28) rfl ?_
  refine go_iadd C dX4_areMeeting_28 (n := 29) rfl ?_
  refine go_icmp_ge C 54 dX4_areMeeting_29 (by decide) (n := 32) rfl (fun c5 => ?_) (fun c5 => ?_)
  · have hm := bx_p c5 hm
    refine go_iconst C dX4_areMeeting_54 (v := (0 : Int32)) (by decide) (n := 55) rfl ?_
    cases hm
    exact go_zret C dX4_areMeeting_55 (Or.inl rfl)
  · have hm := bx_n c5 hm
    refine go_aload_n C dX4_areMeeting_32 rfl 1 rfl (n := 33) rfl ?_
    refine go_iload_n C dX4_areMeeting_33 rfl 3 rfl (n := 34) rfl ?_
    refine go_iload_n C dX4_areMeeting_34 rfl 4 rfl (n := 35) rfl ?_
    obtain ⟨u6, e7, hm⟩ := bx_b hm
    refine go_callVi C dX4_areMeeting_35 mw_X4_lowOf ml_X4_104 (rest := []) (ktX4_lowOf e7) (mo4 q cI cZ σ) rfl (by decide) rfl rfl (Nat.le_of_ble_eq_true rfl) (n := 38) rfl ?_
    refine go_aload_n C dX4_areMeeting_38 rfl 1 rfl (n := 39) rfl ?_
    refine go_iload_n C dX4_areMeeting_39 rfl 2 rfl (n := 40) rfl ?_
    refine go_iload_n C dX4_areMeeting_40 rfl 4 rfl (n := 41) rfl ?_
    obtain ⟨u8, e9, hm⟩ := bx_b hm
    refine go_callVi C dX4_areMeeting_41 mw_X4_highOf ml_X4_107 (rest := [.int u6]) (ktX4_highOf e9) (mo4 q cI cZ σ) rfl (by decide) rfl rfl (Nat.le_of_ble_eq_true rfl) (n := 44) rfl ?_
    refine go_iload C dX4_areMeeting_44 0 rfl (n := 46) rfl ?_
    refine go_iadd C dX4_areMeeting_46 (n := 47) rfl ?_
    refine go_icmp_ge C 54 dX4_areMeeting_47 (by decide) (n := 50) rfl (fun c10 => ?_) (fun c10 => ?_)
    · have hm := bx_p c10 hm
      refine go_iconst C dX4_areMeeting_54 (v := (0 : Int32)) (by decide) (n := 55) rfl ?_
      cases hm
      exact go_zret C dX4_areMeeting_55 (Or.inl rfl)
    · have hm := bx_n c10 hm
      refine go_iconst C dX4_areMeeting_50 (v := (1 : Int32)) (by decide) (n := 51) rfl ?_
      refine go_goto C 55 dX4_areMeeting_51 (by decide) ?_
      cases hm
      exact go_zret C dX4_areMeeting_55 (Or.inr rfl)
def mX4_areMeeting (v1 : Int32) (v2 : Int32) (v3 : Int32) (σ : bx_St) : Option Int32 := (if (σ.1 0 3) = 0 then (mX4_areMeeting_12 v1 v2 v3 (0 : Int32) σ) else (mX4_areMeeting_12 v1 v2 v3 (1 : Int32) σ))
set_option maxRecDepth 8000 in
set_option maxHeartbeats 4000000 in
theorem ktX4_areMeeting {l : Launch} {D : va_G} {cI cZ : ClassId} {q : Nat → Nat} {v1 : Int32} {v2 : Int32} {v3 : Int32} {σ : bx_St} {u : Int32} (hm : mX4_areMeeting v1 v2 v3 σ = some u) : bx_Mt l D cI cZ yX4_areMeeting cX4_areMeeting 5 (some .boolean) 2 [.ref (q 0), .int v1, .int v2, .int v3] (bx_mw q cI cZ σ) (some (.int u)) (bx_mw q cI cZ σ) := by
  refine bx_mk (by decide) (Nat.le_of_ble_eq_true rfl) (lv := [(0, .ref (q 0)), (1, .int v1), (2, .int v2), (3, .int v3)]) rfl (fun p e s m args below meth c A C => ?_)
  replace C : bx_Cx p s m args meth c 5 A D cI cZ RX4 cX4_areMeeting (some .boolean) := C
  unfold mX4_areMeeting at hm
  refine go_aload_n C dX4_areMeeting_0 rfl 0 rfl (n := 1) rfl ?_
  refine go_get C dX4_areMeeting_1 (mf4_3 q cI cZ σ) rfl inX4 (by decide) fl_X4_101 (n := 4) rfl ?_
  refine go_if_eq C 11 dX4_areMeeting_4 (by decide) (n := 7) rfl (fun c1 => ?_) (fun c1 => ?_)
  · have hm := bx_p c1 hm
    refine go_iconst C dX4_areMeeting_11 (v := (0 : Int32)) (by decide) (n := 12) rfl ?_
    refine go_lv (lv' := [(0, .ref (q 0)), (1, .int v1), (2, .int v2), (3, .int v3)]) [0, 1, 2, 3] rfl ?_
    exact mX4_areMeeting_12_ok C _ _ _ _ _ _ hm
  · have hm := bx_n c1 hm
    refine go_iconst C dX4_areMeeting_7 (v := (1 : Int32)) (by decide) (n := 8) rfl ?_
    refine go_goto C 12 dX4_areMeeting_8 (by decide) ?_
    refine go_lv (lv' := [(0, .ref (q 0)), (1, .int v1), (2, .int v2), (3, .int v3)]) [0, 1, 2, 3] rfl ?_
    exact mX4_areMeeting_12_ok C _ _ _ _ _ _ hm
def mX4_areOver (v1 : Int32) (v2 : Int32) (σ : bx_St) : Option Int32 := (if bx_ok (((12 : Int32) * v1) + v2) 144 then (if (σ.1 4 (((12 : Int32) * v1) + v2).toNatClampNeg) = (7 : Int32) then (some (1 : Int32)) else (some (0 : Int32))) else none)
set_option maxRecDepth 8000 in
set_option maxHeartbeats 4000000 in
theorem ktX4_areOver {l : Launch} {D : va_G} {cI cZ : ClassId} {q : Nat → Nat} {v1 : Int32} {v2 : Int32} {σ : bx_St} {u : Int32} (hm : mX4_areOver v1 v2 σ = some u) : bx_Mt l D cI cZ yX4_areOver cX4_areOver 3 (some .boolean) 1 [.ref (q 0), .int v1, .int v2] (bx_mw q cI cZ σ) (some (.int u)) (bx_mw q cI cZ σ) := by
  refine bx_mk (by decide) (Nat.le_of_ble_eq_true rfl) (lv := [(0, .ref (q 0)), (1, .int v1), (2, .int v2)]) rfl (fun p e s m args below meth c A C => ?_)
  replace C : bx_Cx p s m args meth c 3 A D cI cZ RX4 cX4_areOver (some .boolean) := C
  unfold mX4_areOver at hm
  refine go_aload_n C dX4_areOver_0 rfl 0 rfl (n := 1) rfl ?_
  refine go_get C dX4_areOver_1 (mf4_7 q cI cZ σ) rfl inX4 (by decide) fl_X4_19 (n := 4) rfl ?_
  refine go_bipush C dX4_areOver_4 (v := (12 : Int32)) (by decide) (n := 6) rfl ?_
  refine go_iload_n C dX4_areOver_6 rfl 1 rfl (n := 7) rfl ?_
  refine go_imul C dX4_areOver_7 (n := 8) rfl ?_
  refine go_iload_n C dX4_areOver_8 rfl 2 rfl (n := 9) rfl ?_
  refine go_iadd C dX4_areOver_9 (n := 10) rfl ?_
  obtain ⟨b1, hm⟩ := bx_g hm
  refine go_iald C dX4_areOver_10 (ma_4 q cI cZ σ) b1 (n := 11) rfl ?_
  refine go_bipush C dX4_areOver_11 (v := (7 : Int32)) (by decide) (n := 13) rfl ?_
  refine go_icmp_ne C 20 dX4_areOver_13 (by decide) (n := 16) rfl (fun c2 => ?_) (fun c2 => ?_)
  · have hm := bx_n c2 hm
    refine go_iconst C dX4_areOver_20 (v := (0 : Int32)) (by decide) (n := 21) rfl ?_
    cases hm
    exact go_zret C dX4_areOver_21 (Or.inl rfl)
  · have hm := bx_p c2 hm
    refine go_iconst C dX4_areOver_16 (v := (1 : Int32)) (by decide) (n := 17) rfl ?_
    refine go_goto C 21 dX4_areOver_17 (by decide) ?_
    cases hm
    exact go_zret C dX4_areOver_21 (Or.inr rfl)
def mX4_beginChange_30 (K2 : Int32 → bx_St → Option bx_St) (v1 : Int32) (s0 : Int32) (s1 : Int32) (σ : bx_St) : Option bx_St := (if bx_ok s1 144 then (bx_let (bx_up σ 9 s1.toNatClampNeg (vp_nar .boolean s0)) fun σ2 => (K2 (v1 + 1) σ2)) else none)
set_option maxRecDepth 8000 in
set_option maxHeartbeats 4000000 in
theorem mX4_beginChange_30_ok (C : bx_Cx p s m args meth c 2 A D cI cZ RX4 cX4_beginChange none) (K2 : Int32 → bx_St → Option bx_St) (HK2 : ∀ (v1 : Int32) (σ : bx_St) (u : bx_St), K2 v1 σ = some u → bx_Go p l e (bx_rm 1) s m args below meth c 2 A D (MQ below (bx_Q none (bx_mw q cI cZ u) D A) args s 0 0 A) (bx_mw q cI cZ σ) 2 [(0, .ref (q 0)), (1, .int v1)] []) : ∀ (v1 : Int32) (s0 : Int32) (s1 : Int32) (σ : bx_St) (u : bx_St), mX4_beginChange_30 K2 v1 s0 s1 σ = some u → bx_Go p l e (bx_rm 1) s m args below meth c 2 A D (MQ below (bx_Q none (bx_mw q cI cZ u) D A) args s 0 0 A) (bx_mw q cI cZ σ) 30 [(0, .ref (q 0)), (1, .int v1)] [.int s0, .int s1, .ref (q 9)] := by
  intro v1 s0 s1 σ u hm
  unfold mX4_beginChange_30 at hm
  obtain ⟨b1, hm⟩ := bx_g hm
  obtain ⟨σ2, z3, hm⟩ := bx_lt hm
  refine go_zast C dX4_beginChange_30 (ws' := (bx_mw q cI cZ σ2)) (by rw [z3]; exact (mu_9 q cI cZ σ s1 (vp_nar .boolean s0))) b1 (n := 31) rfl ?_
  refine go_iinc C (j := 1) dX4_beginChange_31 rfl (v := (v1 + 1)) rfl (by decide) (lv' := [(1, .int (v1 + 1)), (0, .ref (q 0))]) rfl (n := 34) rfl ?_
  refine go_goto C 2 dX4_beginChange_34 (by decide) ?_
  refine go_lv (lv' := [(0, .ref (q 0)), (1, .int (v1 + 1))]) [1, 0] rfl ?_
  exact HK2 _ _ _ hm
def mX4_beginChange_2 : Nat → Int32 → bx_St → Option bx_St
  | 0, _, _ => none
  | n + 1, v1, σ => (if (144 : Int32) ≤ v1 then (if bx_ok (0 : Int32) 3 then (bx_let (bx_up (bx_up σ 0 24 (0 : Int32)) 7 (0 : Int32).toNatClampNeg (0 : Int32)) fun σ3 => (if bx_ok (1 : Int32) 3 then (bx_let (bx_up σ3 7 (1 : Int32).toNatClampNeg (0 : Int32)) fun σ6 => (if bx_ok (2 : Int32) 3 then (bx_let (bx_up σ6 7 (2 : Int32).toNatClampNeg (0 : Int32)) fun σ9 => (some σ9)) else none)) else none)) else none) else (if bx_ok v1 144 then (if (σ.1 4 v1.toNatClampNeg) = (7 : Int32) then (mX4_beginChange_30 (mX4_beginChange_2 n) v1 (1 : Int32) v1 σ) else (mX4_beginChange_30 (mX4_beginChange_2 n) v1 (0 : Int32) v1 σ)) else none))
set_option maxRecDepth 8000 in
set_option maxHeartbeats 4000000 in
theorem mX4_beginChange_2_ok (C : bx_Cx p s m args meth c 2 A D cI cZ RX4 cX4_beginChange none) : ∀ (n : Nat) (v1 : Int32) (σ : bx_St) (u : bx_St), mX4_beginChange_2 n v1 σ = some u → bx_Go p l e (bx_rm 1) s m args below meth c 2 A D (MQ below (bx_Q none (bx_mw q cI cZ u) D A) args s 0 0 A) (bx_mw q cI cZ σ) 2 [(0, .ref (q 0)), (1, .int v1)] [] := by
  intro n
  induction n with
  | zero =>
    intro v1 σ u hm
    cases hm
  | succ n ih =>
    intro v1 σ u hm
    rw [mX4_beginChange_2] at hm
    refine go_iload_n C dX4_beginChange_2 rfl 1 rfl (n := 3) rfl ?_
    refine go_sipush C dX4_beginChange_3 (v := (144 : Int32)) (by decide) (n := 6) rfl ?_
    refine go_icmp_ge C 37 dX4_beginChange_6 (by decide) (n := 9) rfl (fun c1 => ?_) (fun c1 => ?_)
    · have hm := bx_p c1 hm
      refine go_aload_n C dX4_beginChange_37 rfl 0 rfl (n := 38) rfl ?_
      refine go_iconst C dX4_beginChange_38 (v := (0 : Int32)) (by decide) (n := 39) rfl ?_
      refine go_put C dX4_beginChange_39 (mp4_24 q cI cZ σ (0 : Int32)) rfl inX4 tyX4_ok nmX4 (by decide) fl_X4_123 rfl (ty := .int) (by decide +kernel) (by rfl) (by rfl) (n := 42) rfl ?_
      refine go_aload_n C dX4_beginChange_42 rfl 0 rfl (n := 43) rfl ?_
      refine go_get C dX4_beginChange_43 (mf4_13 q cI cZ (bx_up σ 0 24 (0 : Int32))) rfl inX4 (by decide) fl_X4_28 (n := 46) rfl ?_
      refine go_iconst C dX4_beginChange_46 (v := (0 : Int32)) (by decide) (n := 47) rfl ?_
      refine go_iconst C dX4_beginChange_47 (v := (0 : Int32)) (by decide) (n := 48) rfl ?_
      obtain ⟨b2, hm⟩ := bx_g hm
      obtain ⟨σ3, z4, hm⟩ := bx_lt hm
      refine go_iast C dX4_beginChange_48 (ws' := (bx_mw q cI cZ σ3)) (by rw [z4]; exact (mu_7 q cI cZ (bx_up σ 0 24 (0 : Int32)) (0 : Int32) (0 : Int32))) b2 (n := 49) rfl ?_
      refine go_aload_n C dX4_beginChange_49 rfl 0 rfl (n := 50) rfl ?_
      refine go_get C dX4_beginChange_50 (mf4_13 q cI cZ σ3) rfl inX4 (by decide) fl_X4_28 (n := 53) rfl ?_
      refine go_iconst C dX4_beginChange_53 (v := (1 : Int32)) (by decide) (n := 54) rfl ?_
      refine go_iconst C dX4_beginChange_54 (v := (0 : Int32)) (by decide) (n := 55) rfl ?_
      obtain ⟨b5, hm⟩ := bx_g hm
      obtain ⟨σ6, z7, hm⟩ := bx_lt hm
      refine go_iast C dX4_beginChange_55 (ws' := (bx_mw q cI cZ σ6)) (by rw [z7]; exact (mu_7 q cI cZ σ3 (1 : Int32) (0 : Int32))) b5 (n := 56) rfl ?_
      refine go_aload_n C dX4_beginChange_56 rfl 0 rfl (n := 57) rfl ?_
      refine go_get C dX4_beginChange_57 (mf4_13 q cI cZ σ6) rfl inX4 (by decide) fl_X4_28 (n := 60) rfl ?_
      refine go_iconst C dX4_beginChange_60 (v := (2 : Int32)) (by decide) (n := 61) rfl ?_
      refine go_iconst C dX4_beginChange_61 (v := (0 : Int32)) (by decide) (n := 62) rfl ?_
      obtain ⟨b8, hm⟩ := bx_g hm
      obtain ⟨σ9, z10, hm⟩ := bx_lt hm
      refine go_iast C dX4_beginChange_62 (ws' := (bx_mw q cI cZ σ9)) (by rw [z10]; exact (mu_7 q cI cZ σ6 (2 : Int32) (0 : Int32))) b8 (n := 63) rfl ?_
      cases hm
      exact go_vret C dX4_beginChange_63
    · have hm := bx_n c1 hm
      refine go_aload_n C dX4_beginChange_9 rfl 0 rfl (n := 10) rfl ?_
      refine go_get C dX4_beginChange_10 (mf4_23 q cI cZ σ) rfl inX4 (by decide) fl_X4_34 (n := 13) rfl ?_
      refine go_iload_n C dX4_beginChange_13 rfl 1 rfl (n := 14) rfl ?_
      refine go_aload_n C dX4_beginChange_14 rfl 0 rfl (n := 15) rfl ?_
      refine go_get C dX4_beginChange_15 (mf4_7 q cI cZ σ) rfl inX4 (by decide) fl_X4_19 (n := 18) rfl ?_
      refine go_iload_n C dX4_beginChange_18 rfl 1 rfl (n := 19) rfl ?_
      obtain ⟨b11, hm⟩ := bx_g hm
      refine go_iald C dX4_beginChange_19 (ma_4 q cI cZ σ) b11 (n := 20) rfl ?_
      refine go_bipush C dX4_beginChange_20 (v := (7 : Int32)) (by decide) (n := 22) rfl ?_
      refine go_icmp_ne C 29 dX4_beginChange_22 (by decide) (n := 25) rfl (fun c12 => ?_) (fun c12 => ?_)
      · have hm := bx_n c12 hm
        refine go_iconst C dX4_beginChange_29 (v := (0 : Int32)) (by decide) (n := 30) rfl ?_
        refine go_lv (lv' := [(0, .ref (q 0)), (1, .int v1)]) [0, 1] rfl ?_
        exact mX4_beginChange_30_ok C _ ih _ _ _ _ _ hm
      · have hm := bx_p c12 hm
        refine go_iconst C dX4_beginChange_25 (v := (1 : Int32)) (by decide) (n := 26) rfl ?_
        refine go_goto C 30 dX4_beginChange_26 (by decide) ?_
        refine go_lv (lv' := [(0, .ref (q 0)), (1, .int v1)]) [0, 1] rfl ?_
        exact mX4_beginChange_30_ok C _ ih _ _ _ _ _ hm
def mX4_beginChange (σ : bx_St) : Option bx_St := (mX4_beginChange_2 bx_F (0 : Int32) σ)
set_option maxRecDepth 8000 in
set_option maxHeartbeats 4000000 in
theorem ktX4_beginChange {l : Launch} {D : va_G} {cI cZ : ClassId} {q : Nat → Nat} {σ : bx_St} {u : bx_St} (hm : mX4_beginChange σ = some u) : bx_Mt l D cI cZ yX4_beginChange cX4_beginChange 2 none 1 [.ref (q 0)] (bx_mw q cI cZ σ) none (bx_mw q cI cZ u) := by
  refine bx_mk (by decide) (Nat.le_of_ble_eq_true rfl) (lv := [(0, .ref (q 0))]) rfl (fun p e s m args below meth c A C => ?_)
  replace C : bx_Cx p s m args meth c 2 A D cI cZ RX4 cX4_beginChange none := C
  unfold mX4_beginChange at hm
  refine go_iconst C dX4_beginChange_0 (v := (0 : Int32)) (by decide) (n := 1) rfl ?_
  refine go_istore_n C dX4_beginChange_1 rfl (by decide) (lv' := [(1, .int (0 : Int32)), (0, .ref (q 0))]) rfl (n := 2) rfl ?_
  refine go_lv (lv' := [(0, .ref (q 0)), (1, .int (0 : Int32))]) [1, 0] rfl ?_
  exact mX4_beginChange_2_ok C _ _ _ _ hm
def mX4_blank (σ : bx_St) : Option (Int32 × bx_St) := (some ((σ.1 0 0), (bx_up σ 0 0 (0 : Int32))))
set_option maxRecDepth 8000 in
set_option maxHeartbeats 4000000 in
theorem ktX4_blank {l : Launch} {D : va_G} {cI cZ : ClassId} {q : Nat → Nat} {σ : bx_St} {u : (Int32 × bx_St)} (hm : mX4_blank σ = some u) : bx_Mt l D cI cZ yX4_blank cX4_blank 2 (some .int) 1 [.ref (q 0)] (bx_mw q cI cZ σ) (some (.int u.1)) (bx_mw q cI cZ u.2) := by
  refine bx_mk (by decide) (Nat.le_of_ble_eq_true rfl) (lv := [(0, .ref (q 0))]) rfl (fun p e s m args below meth c A C => ?_)
  replace C : bx_Cx p s m args meth c 2 A D cI cZ RX4 cX4_blank (some .int) := C
  unfold mX4_blank at hm
  refine go_aload_n C dX4_blank_0 rfl 0 rfl (n := 1) rfl ?_
  refine go_get C dX4_blank_1 (mf4_0 q cI cZ σ) rfl inX4 (by decide) fl_X4_45 (n := 4) rfl ?_
  refine go_istore_n C dX4_blank_4 rfl (by decide) (lv' := [(1, .int (σ.1 0 0)), (0, .ref (q 0))]) rfl (n := 5) rfl ?_
  refine go_aload_n C dX4_blank_5 rfl 1 rfl (n := 6) rfl ?_
  refine go_iconst C dX4_blank_6 (v := (0 : Int32)) (by decide) (n := 7) rfl ?_
  refine go_put C dX4_blank_7 (mp4_0 q cI cZ σ (0 : Int32)) rfl inX4 tyX4_ok nmX4 (by decide) fl_X4_45 rfl (ty := .int) (by decide +kernel) (by rfl) (by rfl) (n := 10) rfl ?_
  refine go_iload_n C dX4_blank_10 rfl 0 rfl (n := 11) rfl ?_
  cases hm
  exact go_iret C dX4_blank_11
def mX4_has (v0 : Int32) (v1 : Int32) : Int32 := (if ((v0 >>> (v1 &&& 31)) &&& (1 : Int32)) = (1 : Int32) then (1 : Int32) else (0 : Int32))
set_option maxRecDepth 8000 in
set_option maxHeartbeats 4000000 in
theorem ktX4_has {l : Launch} {D : va_G} {cI cZ : ClassId} {ws : va_W} {v0 : Int32} {v1 : Int32} {u : Int32} (hm : mX4_has v0 v1 = u) : bx_Mt l D cI cZ yX4_has cX4_has 2 (some .boolean) 1 [.int v0, .int v1] ws (some (.int u)) ws := by
  refine bx_mk (by decide) (Nat.le_of_ble_eq_true rfl) (lv := [(0, .int v0), (1, .int v1)]) rfl (fun p e s m args below meth c A C => ?_)
  replace C : bx_Cx p s m args meth c 2 A D cI cZ RX4 cX4_has (some .boolean) := C
  unfold mX4_has at hm
  refine go_iload_n C dX4_has_0 rfl 0 rfl (n := 1) rfl ?_
  refine go_iload_n C dX4_has_1 rfl 1 rfl (n := 2) rfl ?_
  refine go_ishr C dX4_has_2 (n := 3) rfl ?_
  refine go_iconst C dX4_has_3 (v := (1 : Int32)) (by decide) (n := 4) rfl ?_
  refine go_iand C dX4_has_4 (n := 5) rfl ?_
  refine go_iconst C dX4_has_5 (v := (1 : Int32)) (by decide) (n := 6) rfl ?_
  refine go_icmp_ne C 13 dX4_has_6 (by decide) (n := 9) rfl (fun c1 => ?_) (fun c1 => ?_)
  · have hm := bx_n c1 hm
    refine go_iconst C dX4_has_13 (v := (0 : Int32)) (by decide) (n := 14) rfl ?_
    subst hm
    exact go_zret C dX4_has_14 (Or.inl rfl)
  · have hm := bx_p c1 hm
    refine go_iconst C dX4_has_9 (v := (1 : Int32)) (by decide) (n := 10) rfl ?_
    refine go_goto C 14 dX4_has_10 (by decide) ?_
    subst hm
    exact go_zret C dX4_has_14 (Or.inr rfl)
def mX4_overBits_27 (K4 : Int32 → Int32 → Int32 → bx_St → Option Int32) (v1 : Int32) (v3 : Int32) (s0 : Int32) (s1 : Int32) (σ : bx_St) : Option Int32 := (K4 v1 (s1 ||| s0) (v3 + 1) σ)
set_option maxRecDepth 8000 in
set_option maxHeartbeats 4000000 in
theorem mX4_overBits_27_ok (C : bx_Cx p s m args meth c 4 A D cI cZ RX4 cX4_overBits (some .int)) (K4 : Int32 → Int32 → Int32 → bx_St → Option Int32) (HK4 : ∀ (v1 : Int32) (v2 : Int32) (v3 : Int32) (σ : bx_St) (u : Int32), K4 v1 v2 v3 σ = some u → bx_Go p l e (bx_rm 2) s m args below meth c 4 A D (MQ below (bx_Q (some (.int u)) (bx_mw q cI cZ σ) D A) args s 0 0 A) (bx_mw q cI cZ σ) 4 [(0, .ref (q 0)), (1, .int v1), (2, .int v2), (3, .int v3)] []) : ∀ (v1 : Int32) (v3 : Int32) (s0 : Int32) (s1 : Int32) (σ : bx_St) (u : Int32), mX4_overBits_27 K4 v1 v3 s0 s1 σ = some u → bx_Go p l e (bx_rm 2) s m args below meth c 4 A D (MQ below (bx_Q (some (.int u)) (bx_mw q cI cZ σ) D A) args s 0 0 A) (bx_mw q cI cZ σ) 27 [(0, .ref (q 0)), (1, .int v1), (3, .int v3)] [.int s0, .int s1] := by
  intro v1 v3 s0 s1 σ u hm
  unfold mX4_overBits_27 at hm
  refine go_ior C dX4_overBits_27 (n := 28) rfl ?_
  refine go_istore_n C dX4_overBits_28 rfl (by decide) (lv' := [(2, .int (s1 ||| s0)), (0, .ref (q 0)), (1, .int v1), (3, .int v3)]) rfl (n := 29) rfl ?_
  refine go_iinc C (j := 3) dX4_overBits_29 rfl (v := (v3 + 1)) rfl (by decide) (lv' := [(3, .int (v3 + 1)), (2, .int (s1 ||| s0)), (0, .ref (q 0)), (1, .int v1)]) rfl (n := 32) rfl ?_
  refine go_goto C 4 dX4_overBits_32 (by decide) ?_
  refine go_lv (lv' := [(0, .ref (q 0)), (1, .int v1), (2, .int (s1 ||| s0)), (3, .int (v3 + 1))]) [2, 3, 1, 0] rfl ?_
  exact HK4 _ _ _ _ _ hm
def mX4_overBits_4 : Nat → Int32 → Int32 → Int32 → bx_St → Option Int32
  | 0, _, _, _, _ => none
  | n + 1, v1, v2, v3, σ => (if (12 : Int32) ≤ v3 then (some v2) else (Option.bind (mX4_areOver v1 v3 σ) fun u2 => (if u2 = 0 then (mX4_overBits_27 (mX4_overBits_4 n) v1 v3 (0 : Int32) v2 σ) else (mX4_overBits_27 (mX4_overBits_4 n) v1 v3 ((1 : Int32) <<< (v3 &&& 31)) v2 σ))))
set_option maxRecDepth 8000 in
set_option maxHeartbeats 4000000 in
theorem mX4_overBits_4_ok (C : bx_Cx p s m args meth c 4 A D cI cZ RX4 cX4_overBits (some .int)) : ∀ (n : Nat) (v1 : Int32) (v2 : Int32) (v3 : Int32) (σ : bx_St) (u : Int32), mX4_overBits_4 n v1 v2 v3 σ = some u → bx_Go p l e (bx_rm 2) s m args below meth c 4 A D (MQ below (bx_Q (some (.int u)) (bx_mw q cI cZ σ) D A) args s 0 0 A) (bx_mw q cI cZ σ) 4 [(0, .ref (q 0)), (1, .int v1), (2, .int v2), (3, .int v3)] [] := by
  intro n
  induction n with
  | zero =>
    intro v1 v2 v3 σ u hm
    cases hm
  | succ n ih =>
    intro v1 v2 v3 σ u hm
    rw [mX4_overBits_4] at hm
    refine go_iload_n C dX4_overBits_4 rfl 3 rfl (n := 5) rfl ?_
    refine go_bipush C dX4_overBits_5 (v := (12 : Int32)) (by decide) (n := 7) rfl ?_
    refine go_icmp_ge C 35 dX4_overBits_7 (by decide) (n := 10) rfl (fun c1 => ?_) (fun c1 => ?_)
    · have hm := bx_p c1 hm
      refine go_iload_n C dX4_overBits_35 rfl 2 rfl (n := 36) rfl ?_
      cases hm
      exact go_iret C dX4_overBits_36
    · have hm := bx_n c1 hm
      refine go_iload_n C dX4_overBits_10 rfl 2 rfl (n := 11) rfl ?_
      refine go_aload_n C dX4_overBits_11 rfl 0 rfl (n := 12) rfl ?_
      refine go_iload_n C dX4_overBits_12 rfl 1 rfl (n := 13) rfl ?_
      refine go_iload_n C dX4_overBits_13 rfl 3 rfl (n := 14) rfl ?_
      obtain ⟨u2, e3, hm⟩ := bx_b hm
      refine go_callVi C dX4_overBits_14 mw_X4_areOver ml_X4_132 (rest := [.int v2]) (ktX4_areOver e3) (mo4 q cI cZ σ) rfl (by decide) rfl rfl (Nat.le_of_ble_eq_true rfl) (n := 17) rfl ?_
      refine go_if_eq C 26 dX4_overBits_17 (by decide) (n := 20) rfl (fun c4 => ?_) (fun c4 => ?_)
      · have hm := bx_p c4 hm
        refine go_iconst C dX4_overBits_26 (v := (0 : Int32)) (by decide) (n := 27) rfl ?_
        refine go_lv (lv' := [(0, .ref (q 0)), (1, .int v1), (3, .int v3)]) [0, 1, 3] rfl ?_
        exact mX4_overBits_27_ok C _ ih _ _ _ _ _ _ hm
      · have hm := bx_n c4 hm
        refine go_iconst C dX4_overBits_20 (v := (1 : Int32)) (by decide) (n := 21) rfl ?_
        refine go_iload_n C dX4_overBits_21 rfl 3 rfl (n := 22) rfl ?_
        refine go_ishl C dX4_overBits_22 (n := 23) rfl ?_
        refine go_goto C 27 dX4_overBits_23 (by decide) ?_
        refine go_lv (lv' := [(0, .ref (q 0)), (1, .int v1), (3, .int v3)]) [0, 1, 3] rfl ?_
        exact mX4_overBits_27_ok C _ ih _ _ _ _ _ _ hm
def mX4_overBits (v1 : Int32) (σ : bx_St) : Option Int32 := (mX4_overBits_4 bx_F v1 (0 : Int32) (0 : Int32) σ)
set_option maxRecDepth 8000 in
set_option maxHeartbeats 4000000 in
theorem ktX4_overBits {l : Launch} {D : va_G} {cI cZ : ClassId} {q : Nat → Nat} {v1 : Int32} {σ : bx_St} {u : Int32} (hm : mX4_overBits v1 σ = some u) : bx_Mt l D cI cZ yX4_overBits cX4_overBits 4 (some .int) 2 [.ref (q 0), .int v1] (bx_mw q cI cZ σ) (some (.int u)) (bx_mw q cI cZ σ) := by
  refine bx_mk (by decide) (Nat.le_of_ble_eq_true rfl) (lv := [(0, .ref (q 0)), (1, .int v1)]) rfl (fun p e s m args below meth c A C => ?_)
  replace C : bx_Cx p s m args meth c 4 A D cI cZ RX4 cX4_overBits (some .int) := C
  unfold mX4_overBits at hm
  refine go_iconst C dX4_overBits_0 (v := (0 : Int32)) (by decide) (n := 1) rfl ?_
  refine go_istore_n C dX4_overBits_1 rfl (by decide) (lv' := [(2, .int (0 : Int32)), (0, .ref (q 0)), (1, .int v1)]) rfl (n := 2) rfl ?_
  refine go_iconst C dX4_overBits_2 (v := (0 : Int32)) (by decide) (n := 3) rfl ?_
  refine go_istore_n C dX4_overBits_3 rfl (by decide) (lv' := [(3, .int (0 : Int32)), (2, .int (0 : Int32)), (0, .ref (q 0)), (1, .int v1)]) rfl (n := 4) rfl ?_
  refine go_lv (lv' := [(0, .ref (q 0)), (1, .int v1), (2, .int (0 : Int32)), (3, .int (0 : Int32))]) [2, 3, 1, 0] rfl ?_
  exact mX4_overBits_4_ok C _ _ _ _ _ _ hm
def mX4_groupOf_43 (K6 : Int32 → Int32 → bx_St → Option Int32) (K16 : Int32 → Int32 → Int32 → bx_St → Option Int32) (v3 : Int32) (v4 : Int32) (s0 : Int32) (s1 : Int32) (σ : bx_St) : Option Int32 := (K16 (s1 ||| s0) v3 (v4 + 1) σ)
set_option maxRecDepth 8000 in
set_option maxHeartbeats 4000000 in
theorem mX4_groupOf_43_ok (C : bx_Cx p s m args meth c 5 A D cI cZ RX4 cX4_groupOf (some .int)) (K6 : Int32 → Int32 → bx_St → Option Int32) (HK6 : ∀ (v2 : Int32) (v3 : Int32) (σ : bx_St) (u : Int32), K6 v2 v3 σ = some u → bx_Go p l e (bx_rm 3) s m args below meth c 5 A D (MQ below (bx_Q (some (.int u)) (bx_mw q cI cZ σ) D A) args s 0 0 A) (bx_mw q cI cZ σ) 6 [(0, .ref (q 0)), (2, .int v2), (3, .int v3)] []) (K16 : Int32 → Int32 → Int32 → bx_St → Option Int32) (HK16 : ∀ (v2 : Int32) (v3 : Int32) (v4 : Int32) (σ : bx_St) (u : Int32), K16 v2 v3 v4 σ = some u → bx_Go p l e (bx_rm 3) s m args below meth c 5 A D (MQ below (bx_Q (some (.int u)) (bx_mw q cI cZ σ) D A) args s 0 0 A) (bx_mw q cI cZ σ) 16 [(0, .ref (q 0)), (2, .int v2), (3, .int v3), (4, .int v4)] []) : ∀ (v3 : Int32) (v4 : Int32) (s0 : Int32) (s1 : Int32) (σ : bx_St) (u : Int32), mX4_groupOf_43 K6 K16 v3 v4 s0 s1 σ = some u → bx_Go p l e (bx_rm 3) s m args below meth c 5 A D (MQ below (bx_Q (some (.int u)) (bx_mw q cI cZ σ) D A) args s 0 0 A) (bx_mw q cI cZ σ) 43 [(0, .ref (q 0)), (3, .int v3), (4, .int v4)] [.int s0, .int s1] := by
  intro v3 v4 s0 s1 σ u hm
  unfold mX4_groupOf_43 at hm
  refine go_ior C dX4_groupOf_43 (n := 44) rfl ?_
  refine go_istore_n C dX4_groupOf_44 rfl (by decide) (lv' := [(2, .int (s1 ||| s0)), (0, .ref (q 0)), (3, .int v3), (4, .int v4)]) rfl (n := 45) rfl ?_
  refine go_iinc C (j := 3) dX4_groupOf_45 rfl (v := (v4 + 1)) rfl (by decide) (lv' := [(4, .int (v4 + 1)), (2, .int (s1 ||| s0)), (0, .ref (q 0)), (3, .int v3)]) rfl (n := 48) rfl ?_
  refine go_goto C 16 dX4_groupOf_48 (by decide) ?_
  refine go_lv (lv' := [(0, .ref (q 0)), (2, .int (s1 ||| s0)), (3, .int v3), (4, .int (v4 + 1))]) [2, 1, 3, 0] rfl ?_
  exact HK16 _ _ _ _ _ hm
def mX4_groupOf_16 (K6 : Int32 → Int32 → bx_St → Option Int32) : Nat → Int32 → Int32 → Int32 → bx_St → Option Int32
  | 0, _, _, _, _ => none
  | n + 1, v2, v3, v4, σ => (if (12 : Int32) ≤ v4 then (K6 v2 v3 σ) else (if (mX4_has v3 v4) = 0 then (mX4_groupOf_43 K6 (mX4_groupOf_16 K6 n) v3 v4 (0 : Int32) v2 σ) else (Option.bind (mX4_overBits v4 σ) fun u3 => (mX4_groupOf_43 K6 (mX4_groupOf_16 K6 n) v3 v4 u3 v2 σ))))
set_option maxRecDepth 8000 in
set_option maxHeartbeats 4000000 in
theorem mX4_groupOf_16_ok (C : bx_Cx p s m args meth c 5 A D cI cZ RX4 cX4_groupOf (some .int)) (K6 : Int32 → Int32 → bx_St → Option Int32) (HK6 : ∀ (v2 : Int32) (v3 : Int32) (σ : bx_St) (u : Int32), K6 v2 v3 σ = some u → bx_Go p l e (bx_rm 3) s m args below meth c 5 A D (MQ below (bx_Q (some (.int u)) (bx_mw q cI cZ σ) D A) args s 0 0 A) (bx_mw q cI cZ σ) 6 [(0, .ref (q 0)), (2, .int v2), (3, .int v3)] []) : ∀ (n : Nat) (v2 : Int32) (v3 : Int32) (v4 : Int32) (σ : bx_St) (u : Int32), mX4_groupOf_16 K6 n v2 v3 v4 σ = some u → bx_Go p l e (bx_rm 3) s m args below meth c 5 A D (MQ below (bx_Q (some (.int u)) (bx_mw q cI cZ σ) D A) args s 0 0 A) (bx_mw q cI cZ σ) 16 [(0, .ref (q 0)), (2, .int v2), (3, .int v3), (4, .int v4)] [] := by
  intro n
  induction n with
  | zero =>
    intro v2 v3 v4 σ u hm
    cases hm
  | succ n ih =>
    intro v2 v3 v4 σ u hm
    rw [mX4_groupOf_16] at hm
    refine go_iload C dX4_groupOf_16 3 rfl (n := 18) rfl ?_
    refine go_bipush C dX4_groupOf_18 (v := (12 : Int32)) (by decide) (n := 20) rfl ?_
    refine go_icmp_ge C 51 dX4_groupOf_20 (by decide) (n := 23) rfl (fun c1 => ?_) (fun c1 => ?_)
    · have hm := bx_p c1 hm
      refine go_goto C 6 dX4_groupOf_51 (by decide) ?_
      refine go_lv (lv' := [(0, .ref (q 0)), (2, .int v2), (3, .int v3)]) [0, 1, 2] rfl ?_
      exact HK6 _ _ _ _ hm
    · have hm := bx_n c1 hm
      refine go_iload_n C dX4_groupOf_23 rfl 1 rfl (n := 24) rfl ?_
      refine go_iload_n C dX4_groupOf_24 rfl 2 rfl (n := 25) rfl ?_
      refine go_iload C dX4_groupOf_25 3 rfl (n := 27) rfl ?_
      refine go_callSi C dX4_groupOf_27 mw_X4_has ml_X4_86 (rest := [.int v2]) (ktX4_has rfl) (by decide) rfl rfl (Nat.le_of_ble_eq_true rfl) (n := 30) rfl ?_
      refine go_if_eq C 42 dX4_groupOf_30 (by decide) (n := 33) rfl (fun c2 => ?_) (fun c2 => ?_)
      · have hm := bx_p c2 hm
        refine go_iconst C dX4_groupOf_42 (v := (0 : Int32)) (by decide) (n := 43) rfl ?_
        refine go_lv (lv' := [(0, .ref (q 0)), (3, .int v3), (4, .int v4)]) [0, 2, 3] rfl ?_
        exact mX4_groupOf_43_ok C _ HK6 _ ih _ _ _ _ _ _ hm
      · have hm := bx_n c2 hm
        refine go_aload_n C dX4_groupOf_33 rfl 0 rfl (n := 34) rfl ?_
        refine go_iload C dX4_groupOf_34 3 rfl (n := 36) rfl ?_
        obtain ⟨u3, e4, hm⟩ := bx_b hm
        refine go_callVi C dX4_groupOf_36 mw_X4_overBits ml_X4_179 (rest := [.int v2]) (ktX4_overBits e4) (mo4 q cI cZ σ) rfl (by decide) rfl rfl (Nat.le_of_ble_eq_true rfl) (n := 39) rfl ?_
        refine go_goto C 43 dX4_groupOf_39 (by decide) ?_
        refine go_lv (lv' := [(0, .ref (q 0)), (3, .int v3), (4, .int v4)]) [0, 2, 3] rfl ?_
        exact mX4_groupOf_43_ok C _ HK6 _ ih _ _ _ _ _ _ hm
def mX4_groupOf_6 : Nat → Int32 → Int32 → bx_St → Option Int32
  | 0, _, _, _ => none
  | n + 1, v2, v3, σ => (if v3 = v2 then (some v2) else (mX4_groupOf_16 (mX4_groupOf_6 n) bx_F v2 v2 (0 : Int32) σ))
set_option maxRecDepth 8000 in
set_option maxHeartbeats 4000000 in
theorem mX4_groupOf_6_ok (C : bx_Cx p s m args meth c 5 A D cI cZ RX4 cX4_groupOf (some .int)) : ∀ (n : Nat) (v2 : Int32) (v3 : Int32) (σ : bx_St) (u : Int32), mX4_groupOf_6 n v2 v3 σ = some u → bx_Go p l e (bx_rm 3) s m args below meth c 5 A D (MQ below (bx_Q (some (.int u)) (bx_mw q cI cZ σ) D A) args s 0 0 A) (bx_mw q cI cZ σ) 6 [(0, .ref (q 0)), (2, .int v2), (3, .int v3)] [] := by
  intro n
  induction n with
  | zero =>
    intro v2 v3 σ u hm
    cases hm
  | succ n ih =>
    intro v2 v3 σ u hm
    rw [mX4_groupOf_6] at hm
    refine go_iload_n C dX4_groupOf_6 rfl 2 rfl (n := 7) rfl ?_
    refine go_iload_n C dX4_groupOf_7 rfl 1 rfl (n := 8) rfl ?_
    refine go_icmp_eq C 54 dX4_groupOf_8 (by decide) (n := 11) rfl (fun c1 => ?_) (fun c1 => ?_)
    · have hm := bx_p c1 hm
      refine go_iload_n C dX4_groupOf_54 rfl 1 rfl (n := 55) rfl ?_
      cases hm
      exact go_iret C dX4_groupOf_55
    · have hm := bx_n c1 hm
      refine go_iload_n C dX4_groupOf_11 rfl 1 rfl (n := 12) rfl ?_
      refine go_istore_n C dX4_groupOf_12 rfl (by decide) (lv' := [(3, .int v2), (0, .ref (q 0)), (2, .int v2)]) rfl (n := 13) rfl ?_
      refine go_iconst C dX4_groupOf_13 (v := (0 : Int32)) (by decide) (n := 14) rfl ?_
      refine go_istore C dX4_groupOf_14 (by decide) (lv' := [(4, .int (0 : Int32)), (3, .int v2), (0, .ref (q 0)), (2, .int v2)]) rfl (n := 16) rfl ?_
      refine go_lv (lv' := [(0, .ref (q 0)), (2, .int v2), (3, .int v2), (4, .int (0 : Int32))]) [2, 3, 1, 0] rfl ?_
      exact mX4_groupOf_16_ok C _ ih _ _ _ _ _ _ hm
def mX4_groupOf (v1 : Int32) (σ : bx_St) : Option Int32 := (mX4_groupOf_6 bx_F ((1 : Int32) <<< (v1 &&& 31)) (0 : Int32) σ)
set_option maxRecDepth 8000 in
set_option maxHeartbeats 4000000 in
theorem ktX4_groupOf {l : Launch} {D : va_G} {cI cZ : ClassId} {q : Nat → Nat} {v1 : Int32} {σ : bx_St} {u : Int32} (hm : mX4_groupOf v1 σ = some u) : bx_Mt l D cI cZ yX4_groupOf cX4_groupOf 5 (some .int) 3 [.ref (q 0), .int v1] (bx_mw q cI cZ σ) (some (.int u)) (bx_mw q cI cZ σ) := by
  refine bx_mk (by decide) (Nat.le_of_ble_eq_true rfl) (lv := [(0, .ref (q 0)), (1, .int v1)]) rfl (fun p e s m args below meth c A C => ?_)
  replace C : bx_Cx p s m args meth c 5 A D cI cZ RX4 cX4_groupOf (some .int) := C
  unfold mX4_groupOf at hm
  refine go_iconst C dX4_groupOf_0 (v := (1 : Int32)) (by decide) (n := 1) rfl ?_
  refine go_iload_n C dX4_groupOf_1 rfl 1 rfl (n := 2) rfl ?_
  refine go_ishl C dX4_groupOf_2 (n := 3) rfl ?_
  refine go_istore_n C dX4_groupOf_3 rfl (by decide) (lv' := [(2, .int ((1 : Int32) <<< (v1 &&& 31))), (0, .ref (q 0)), (1, .int v1)]) rfl (n := 4) rfl ?_
  refine go_iconst C dX4_groupOf_4 (v := (0 : Int32)) (by decide) (n := 5) rfl ?_
  refine go_istore_n C dX4_groupOf_5 rfl (by decide) (lv' := [(3, .int (0 : Int32)), (2, .int ((1 : Int32) <<< (v1 &&& 31))), (0, .ref (q 0)), (1, .int v1)]) rfl (n := 6) rfl ?_
  refine go_lv (lv' := [(0, .ref (q 0)), (2, .int ((1 : Int32) <<< (v1 &&& 31))), (3, .int (0 : Int32))]) [2, 1, 0] rfl ?_
  exact mX4_groupOf_6_ok C _ _ _ _ _ hm
def mX4_least_2 : Nat → Int32 → Int32 → Option Int32
  | 0, _, _ => none
  | n + 1, v0, v1 => (if (mX4_has v0 v1) = 0 then (mX4_least_2 n v0 (v1 + 1)) else (some v1))
set_option maxRecDepth 8000 in
set_option maxHeartbeats 4000000 in
theorem mX4_least_2_ok (C : bx_Cx p s m args meth c 2 A D cI cZ RX4 cX4_least (some .int)) : ∀ (n : Nat) (v0 : Int32) (v1 : Int32) (u : Int32), mX4_least_2 n v0 v1 = some u → bx_Go p l e (bx_rm 2) s m args below meth c 2 A D (MQ below (bx_Q (some (.int u)) ws D A) args s 0 0 A) ws 2 [(0, .int v0), (1, .int v1)] [] := by
  intro n
  induction n with
  | zero =>
    intro v0 v1 u hm
    cases hm
  | succ n ih =>
    intro v0 v1 u hm
    rw [mX4_least_2] at hm
    refine go_iload_n C dX4_least_2 rfl 0 rfl (n := 3) rfl ?_
    refine go_iload_n C dX4_least_3 rfl 1 rfl (n := 4) rfl ?_
    refine go_callSi C dX4_least_4 mw_X4_has ml_X4_86 (rest := []) (ktX4_has rfl) (by decide) rfl rfl (Nat.le_of_ble_eq_true rfl) (n := 7) rfl ?_
    refine go_if_ne C 16 dX4_least_7 (by decide) (n := 10) rfl (fun c1 => ?_) (fun c1 => ?_)
    · have hm := bx_n c1 hm
      refine go_iload_n C dX4_least_16 rfl 1 rfl (n := 17) rfl ?_
      cases hm
      exact go_iret C dX4_least_17
    · have hm := bx_p c1 hm
      refine go_iinc C (j := 1) dX4_least_10 rfl (v := (v1 + 1)) rfl (by decide) (lv' := [(1, .int (v1 + 1)), (0, .int v0)]) rfl (n := 13) rfl ?_
      refine go_goto C 2 dX4_least_13 (by decide) ?_
      refine go_lv (lv' := [(0, .int v0), (1, .int (v1 + 1))]) [1, 0] rfl ?_
      exact ih _ _ _ hm
def mX4_least (v0 : Int32) : Option Int32 := (mX4_least_2 bx_F v0 (0 : Int32))
set_option maxRecDepth 8000 in
set_option maxHeartbeats 4000000 in
theorem ktX4_least {l : Launch} {D : va_G} {cI cZ : ClassId} {ws : va_W} {v0 : Int32} {u : Int32} (hm : mX4_least v0 = some u) : bx_Mt l D cI cZ yX4_least cX4_least 2 (some .int) 2 [.int v0] ws (some (.int u)) ws := by
  refine bx_mk (by decide) (Nat.le_of_ble_eq_true rfl) (lv := [(0, .int v0)]) rfl (fun p e s m args below meth c A C => ?_)
  replace C : bx_Cx p s m args meth c 2 A D cI cZ RX4 cX4_least (some .int) := C
  unfold mX4_least at hm
  refine go_iconst C dX4_least_0 (v := (0 : Int32)) (by decide) (n := 1) rfl ?_
  refine go_istore_n C dX4_least_1 rfl (by decide) (lv' := [(1, .int (0 : Int32)), (0, .int v0)]) rfl (n := 2) rfl ?_
  refine go_lv (lv' := [(0, .int v0), (1, .int (0 : Int32))]) [1, 0] rfl ?_
  exact mX4_least_2_ok C _ _ _ _ hm
def mX4_ones_4 : Nat → Int32 → Int32 → Int32 → Option Int32
  | 0, _, _, _ => none
  | n + 1, v0, v1, v2 => (if (12 : Int32) ≤ v2 then (some v1) else (mX4_ones_4 n v0 (v1 + ((v0 >>> (v2 &&& 31)) &&& (1 : Int32))) (v2 + 1)))
set_option maxRecDepth 8000 in
set_option maxHeartbeats 4000000 in
theorem mX4_ones_4_ok (C : bx_Cx p s m args meth c 3 A D cI cZ RX4 cX4_ones (some .int)) : ∀ (n : Nat) (v0 : Int32) (v1 : Int32) (v2 : Int32) (u : Int32), mX4_ones_4 n v0 v1 v2 = some u → bx_Go p l e (bx_rm 1) s m args below meth c 3 A D (MQ below (bx_Q (some (.int u)) ws D A) args s 0 0 A) ws 4 [(0, .int v0), (1, .int v1), (2, .int v2)] [] := by
  intro n
  induction n with
  | zero =>
    intro v0 v1 v2 u hm
    cases hm
  | succ n ih =>
    intro v0 v1 v2 u hm
    rw [mX4_ones_4] at hm
    refine go_iload_n C dX4_ones_4 rfl 2 rfl (n := 5) rfl ?_
    refine go_bipush C dX4_ones_5 (v := (12 : Int32)) (by decide) (n := 7) rfl ?_
    refine go_icmp_ge C 24 dX4_ones_7 (by decide) (n := 10) rfl (fun c1 => ?_) (fun c1 => ?_)
    · have hm := bx_p c1 hm
      refine go_iload_n C dX4_ones_24 rfl 1 rfl (n := 25) rfl ?_
      cases hm
      exact go_iret C dX4_ones_25
    · have hm := bx_n c1 hm
      refine go_iload_n C dX4_ones_10 rfl 1 rfl (n := 11) rfl ?_
      refine go_iload_n C dX4_ones_11 rfl 0 rfl (n := 12) rfl ?_
      refine go_iload_n C dX4_ones_12 rfl 2 rfl (n := 13) rfl ?_
      refine go_ishr C dX4_ones_13 (n := 14) rfl ?_
      refine go_iconst C dX4_ones_14 (v := (1 : Int32)) (by decide) (n := 15) rfl ?_
      refine go_iand C dX4_ones_15 (n := 16) rfl ?_
      refine go_iadd C dX4_ones_16 (n := 17) rfl ?_
      refine go_istore_n C dX4_ones_17 rfl (by decide) (lv' := [(1, .int (v1 + ((v0 >>> (v2 &&& 31)) &&& (1 : Int32)))), (0, .int v0), (2, .int v2)]) rfl (n := 18) rfl ?_
      refine go_iinc C (j := 2) dX4_ones_18 rfl (v := (v2 + 1)) rfl (by decide) (lv' := [(2, .int (v2 + 1)), (1, .int (v1 + ((v0 >>> (v2 &&& 31)) &&& (1 : Int32)))), (0, .int v0)]) rfl (n := 21) rfl ?_
      refine go_goto C 4 dX4_ones_21 (by decide) ?_
      refine go_lv (lv' := [(0, .int v0), (1, .int (v1 + ((v0 >>> (v2 &&& 31)) &&& (1 : Int32)))), (2, .int (v2 + 1))]) [2, 1, 0] rfl ?_
      exact ih _ _ _ _ hm
def mX4_ones (v0 : Int32) : Option Int32 := (mX4_ones_4 bx_F v0 (0 : Int32) (0 : Int32))
set_option maxRecDepth 8000 in
set_option maxHeartbeats 4000000 in
theorem ktX4_ones {l : Launch} {D : va_G} {cI cZ : ClassId} {ws : va_W} {v0 : Int32} {u : Int32} (hm : mX4_ones v0 = some u) : bx_Mt l D cI cZ yX4_ones cX4_ones 3 (some .int) 1 [.int v0] ws (some (.int u)) ws := by
  refine bx_mk (by decide) (Nat.le_of_ble_eq_true rfl) (lv := [(0, .int v0)]) rfl (fun p e s m args below meth c A C => ?_)
  replace C : bx_Cx p s m args meth c 3 A D cI cZ RX4 cX4_ones (some .int) := C
  unfold mX4_ones at hm
  refine go_iconst C dX4_ones_0 (v := (0 : Int32)) (by decide) (n := 1) rfl ?_
  refine go_istore_n C dX4_ones_1 rfl (by decide) (lv' := [(1, .int (0 : Int32)), (0, .int v0)]) rfl (n := 2) rfl ?_
  refine go_iconst C dX4_ones_2 (v := (0 : Int32)) (by decide) (n := 3) rfl ?_
  refine go_istore_n C dX4_ones_3 rfl (by decide) (lv' := [(2, .int (0 : Int32)), (1, .int (0 : Int32)), (0, .int v0)]) rfl (n := 4) rfl ?_
  refine go_lv (lv' := [(0, .int v0), (1, .int (0 : Int32)), (2, .int (0 : Int32))]) [2, 1, 0] rfl ?_
  exact mX4_ones_4_ok C _ _ _ _ _ hm
def mX4_boxNow (v1 : Int32) (v2 : Int32) (σ : bx_St) : Option Int32 := (if v2 = (6 : Int32) then (Option.bind (mX4_overBits v1 σ) fun u2 => (Option.bind (mX4_ones u2) fun u4 => (some u4))) else (if v2 = (7 : Int32) then (Option.bind (mX4_overBits v1 σ) fun u7 => (some u7)) else (if v2 = (8 : Int32) then (Option.bind (mX4_groupOf v1 σ) fun u10 => (Option.bind (mX4_least u10) fun u12 => (some u12))) else (if bx_ok (((6 : Int32) * v1) + v2) 72 then (some (σ.1 2 (((6 : Int32) * v1) + v2).toNatClampNeg)) else none))))
set_option maxRecDepth 8000 in
set_option maxHeartbeats 4000000 in
theorem ktX4_boxNow {l : Launch} {D : va_G} {cI cZ : ClassId} {q : Nat → Nat} {v1 : Int32} {v2 : Int32} {σ : bx_St} {u : Int32} (hm : mX4_boxNow v1 v2 σ = some u) : bx_Mt l D cI cZ yX4_boxNow cX4_boxNow 3 (some .int) 4 [.ref (q 0), .int v1, .int v2] (bx_mw q cI cZ σ) (some (.int u)) (bx_mw q cI cZ σ) := by
  refine bx_mk (by decide) (Nat.le_of_ble_eq_true rfl) (lv := [(0, .ref (q 0)), (1, .int v1), (2, .int v2)]) rfl (fun p e s m args below meth c A C => ?_)
  replace C : bx_Cx p s m args meth c 3 A D cI cZ RX4 cX4_boxNow (some .int) := C
  unfold mX4_boxNow at hm
  refine go_iload_n C dX4_boxNow_0 rfl 2 rfl (n := 1) rfl ?_
  by_cases c1 : v2 = (6 : Int32)
  · have hm := bx_p c1 hm
    refine go_tableIn C 28 dX4_boxNow_1 (off := 27) (by rw [c1]; decide) (by rw [c1]; decide) (by rw [c1]; decide) (by decide) ?_
    refine go_aload_n C dX4_boxNow_28 rfl 0 rfl (n := 29) rfl ?_
    refine go_iload_n C dX4_boxNow_29 rfl 1 rfl (n := 30) rfl ?_
    obtain ⟨u2, e3, hm⟩ := bx_b hm
    refine go_callVi C dX4_boxNow_30 mw_X4_overBits ml_X4_179 (rest := []) (ktX4_overBits e3) (mo4 q cI cZ σ) rfl (by decide) rfl rfl (Nat.le_of_ble_eq_true rfl) (n := 33) rfl ?_
    obtain ⟨u4, e5, hm⟩ := bx_b hm
    refine go_callSi C dX4_boxNow_33 mw_X4_ones ml_X4_183 (rest := []) (ktX4_ones e5) (by decide) rfl rfl (Nat.le_of_ble_eq_true rfl) (n := 36) rfl ?_
    cases hm
    exact go_iret C dX4_boxNow_36
  have hm := bx_n c1 hm
  by_cases c6 : v2 = (7 : Int32)
  · have hm := bx_p c6 hm
    refine go_tableIn C 37 dX4_boxNow_1 (off := 36) (by rw [c6]; decide) (by rw [c6]; decide) (by rw [c6]; decide) (by decide) ?_
    refine go_aload_n C dX4_boxNow_37 rfl 0 rfl (n := 38) rfl ?_
    refine go_iload_n C dX4_boxNow_38 rfl 1 rfl (n := 39) rfl ?_
    obtain ⟨u7, e8, hm⟩ := bx_b hm
    refine go_callVi C dX4_boxNow_39 mw_X4_overBits ml_X4_179 (rest := []) (ktX4_overBits e8) (mo4 q cI cZ σ) rfl (by decide) rfl rfl (Nat.le_of_ble_eq_true rfl) (n := 42) rfl ?_
    cases hm
    exact go_iret C dX4_boxNow_42
  have hm := bx_n c6 hm
  by_cases c9 : v2 = (8 : Int32)
  · have hm := bx_p c9 hm
    refine go_tableIn C 43 dX4_boxNow_1 (off := 42) (by rw [c9]; decide) (by rw [c9]; decide) (by rw [c9]; decide) (by decide) ?_
    refine go_aload_n C dX4_boxNow_43 rfl 0 rfl (n := 44) rfl ?_
    refine go_iload_n C dX4_boxNow_44 rfl 1 rfl (n := 45) rfl ?_
    obtain ⟨u10, e11, hm⟩ := bx_b hm
    refine go_callVi C dX4_boxNow_45 mw_X4_groupOf ml_X4_186 (rest := []) (ktX4_groupOf e11) (mo4 q cI cZ σ) rfl (by decide) rfl rfl (Nat.le_of_ble_eq_true rfl) (n := 48) rfl ?_
    obtain ⟨u12, e13, hm⟩ := bx_b hm
    refine go_callSi C dX4_boxNow_48 mw_X4_least ml_X4_189 (rest := []) (ktX4_least e13) (by decide) rfl rfl (Nat.le_of_ble_eq_true rfl) (n := 51) rfl ?_
    cases hm
    exact go_iret C dX4_boxNow_51
  have hm := bx_n c9 hm
  have nc1 := bx_ne (n := 6) (6 : Int32) (by decide) c1
  have nc6 := bx_ne (n := 7) (7 : Int32) (by decide) c6
  have nc9 := bx_ne (n := 8) (8 : Int32) (by decide) c9
  refine go_tableOut C 52 dX4_boxNow_1 (by omega) (by decide) ?_
  refine go_aload_n C dX4_boxNow_52 rfl 0 rfl (n := 53) rfl ?_
  refine go_get C dX4_boxNow_53 (mf4_4 q cI cZ σ) rfl inX4 (by decide) fl_X4_13 (n := 56) rfl ?_
  refine go_bipush C dX4_boxNow_56 (v := (6 : Int32)) (by decide) (n := 58) rfl ?_
  refine go_iload_n C dX4_boxNow_58 rfl 1 rfl (n := 59) rfl ?_
  refine go_imul C dX4_boxNow_59 (n := 60) rfl ?_
  refine go_iload_n C dX4_boxNow_60 rfl 2 rfl (n := 61) rfl ?_
  refine go_iadd C dX4_boxNow_61 (n := 62) rfl ?_
  obtain ⟨b14, hm⟩ := bx_g hm
  refine go_iald C dX4_boxNow_62 (ma_2 q cI cZ σ) b14 (n := 63) rfl ?_
  cases hm
  exact go_iret C dX4_boxNow_63
def mX4_isBox (v1 : Int32) (σ : bx_St) : Int32 := (if (mX4_within v1 (0 : Int32) (11 : Int32)) = 0 then (0 : Int32) else (if (mX4_has (σ.1 0 2) v1) = 0 then (0 : Int32) else (1 : Int32)))
set_option maxRecDepth 8000 in
set_option maxHeartbeats 4000000 in
theorem ktX4_isBox {l : Launch} {D : va_G} {cI cZ : ClassId} {q : Nat → Nat} {v1 : Int32} {σ : bx_St} {u : Int32} (hm : mX4_isBox v1 σ = u) : bx_Mt l D cI cZ yX4_isBox cX4_isBox 2 (some .boolean) 2 [.ref (q 0), .int v1] (bx_mw q cI cZ σ) (some (.int u)) (bx_mw q cI cZ σ) := by
  refine bx_mk (by decide) (Nat.le_of_ble_eq_true rfl) (lv := [(0, .ref (q 0)), (1, .int v1)]) rfl (fun p e s m args below meth c A C => ?_)
  replace C : bx_Cx p s m args meth c 2 A D cI cZ RX4 cX4_isBox (some .boolean) := C
  unfold mX4_isBox at hm
  refine go_iload_n C dX4_isBox_0 rfl 1 rfl (n := 1) rfl ?_
  refine go_iconst C dX4_isBox_1 (v := (0 : Int32)) (by decide) (n := 2) rfl ?_
  refine go_bipush C dX4_isBox_2 (v := (11 : Int32)) (by decide) (n := 4) rfl ?_
  refine go_callSi C dX4_isBox_4 mw_X4_within ml_X4_41 (rest := []) (ktX4_within rfl) (by decide) rfl rfl (Nat.le_of_ble_eq_true rfl) (n := 7) rfl ?_
  refine go_if_eq C 25 dX4_isBox_7 (by decide) (n := 10) rfl (fun c1 => ?_) (fun c1 => ?_)
  · have hm := bx_p c1 hm
    refine go_iconst C dX4_isBox_25 (v := (0 : Int32)) (by decide) (n := 26) rfl ?_
    subst hm
    exact go_zret C dX4_isBox_26 (Or.inl rfl)
  · have hm := bx_n c1 hm
    refine go_aload_n C dX4_isBox_10 rfl 0 rfl (n := 11) rfl ?_
    refine go_get C dX4_isBox_11 (mf4_2 q cI cZ σ) rfl inX4 (by decide) fl_X4_73 (n := 14) rfl ?_
    refine go_iload_n C dX4_isBox_14 rfl 1 rfl (n := 15) rfl ?_
    refine go_callSi C dX4_isBox_15 mw_X4_has ml_X4_86 (rest := []) (ktX4_has rfl) (by decide) rfl rfl (Nat.le_of_ble_eq_true rfl) (n := 18) rfl ?_
    refine go_if_eq C 25 dX4_isBox_18 (by decide) (n := 21) rfl (fun c2 => ?_) (fun c2 => ?_)
    · have hm := bx_p c2 hm
      refine go_iconst C dX4_isBox_25 (v := (0 : Int32)) (by decide) (n := 26) rfl ?_
      subst hm
      exact go_zret C dX4_isBox_26 (Or.inl rfl)
    · have hm := bx_n c2 hm
      refine go_iconst C dX4_isBox_21 (v := (1 : Int32)) (by decide) (n := 22) rfl ?_
      refine go_goto C 26 dX4_isBox_22 (by decide) ?_
      subst hm
      exact go_zret C dX4_isBox_26 (Or.inr rfl)
def mX4_box (v1 : Int32) (v2 : Int32) (σ : bx_St) : Option Int32 := (if (mX4_isBox v1 σ) = 0 then (some (-10002 : Int32)) else (if (mX4_within v2 (0 : Int32) (8 : Int32)) = 0 then (some (-10003 : Int32)) else (Option.bind (mX4_boxNow v1 v2 σ) fun u3 => (some u3))))
set_option maxRecDepth 8000 in
set_option maxHeartbeats 4000000 in
theorem ktX4_box {l : Launch} {D : va_G} {cI cZ : ClassId} {q : Nat → Nat} {v1 : Int32} {v2 : Int32} {σ : bx_St} {u : Int32} (hm : mX4_box v1 v2 σ = some u) : bx_Mt l D cI cZ yX4_box cX4_box 3 (some .int) 5 [.ref (q 0), .int v1, .int v2] (bx_mw q cI cZ σ) (some (.int u)) (bx_mw q cI cZ σ) := by
  refine bx_mk (by decide) (Nat.le_of_ble_eq_true rfl) (lv := [(0, .ref (q 0)), (1, .int v1), (2, .int v2)]) rfl (fun p e s m args below meth c A C => ?_)
  replace C : bx_Cx p s m args meth c 3 A D cI cZ RX4 cX4_box (some .int) := C
  unfold mX4_box at hm
  refine go_aload_n C dX4_box_0 rfl 0 rfl (n := 1) rfl ?_
  refine go_iload_n C dX4_box_1 rfl 1 rfl (n := 2) rfl ?_
  refine go_callVi C dX4_box_2 mw_X4_isBox ml_X4_160 (rest := []) (ktX4_isBox rfl) (mo4 q cI cZ σ) rfl (by decide) rfl rfl (Nat.le_of_ble_eq_true rfl) (n := 5) rfl ?_
  refine go_if_ne C 12 dX4_box_5 (by decide) (n := 8) rfl (fun c1 => ?_) (fun c1 => ?_)
  · have hm := bx_n c1 hm
    refine go_iload_n C dX4_box_12 rfl 2 rfl (n := 13) rfl ?_
    refine go_iconst C dX4_box_13 (v := (0 : Int32)) (by decide) (n := 14) rfl ?_
    refine go_bipush C dX4_box_14 (v := (8 : Int32)) (by decide) (n := 16) rfl ?_
    refine go_callSi C dX4_box_16 mw_X4_within ml_X4_41 (rest := []) (ktX4_within rfl) (by decide) rfl rfl (Nat.le_of_ble_eq_true rfl) (n := 19) rfl ?_
    refine go_if_eq C 31 dX4_box_19 (by decide) (n := 22) rfl (fun c2 => ?_) (fun c2 => ?_)
    · have hm := bx_p c2 hm
      refine go_sipush C dX4_box_31 (v := (-10003 : Int32)) (by decide) (n := 34) rfl ?_
      cases hm
      exact go_iret C dX4_box_34
    · have hm := bx_n c2 hm
      refine go_aload_n C dX4_box_22 rfl 0 rfl (n := 23) rfl ?_
      refine go_iload_n C dX4_box_23 rfl 1 rfl (n := 24) rfl ?_
      refine go_iload_n C dX4_box_24 rfl 2 rfl (n := 25) rfl ?_
      obtain ⟨u3, e4, hm⟩ := bx_b hm
      refine go_callVi C dX4_box_25 mw_X4_boxNow ml_X4_192 (rest := []) (ktX4_boxNow e4) (mo4 q cI cZ σ) rfl (by decide) rfl rfl (Nat.le_of_ble_eq_true rfl) (n := 28) rfl ?_
      refine go_goto C 34 dX4_box_28 (by decide) ?_
      cases hm
      exact go_iret C dX4_box_34
  · have hm := bx_p c1 hm
    refine go_sipush C dX4_box_8 (v := (-10002 : Int32)) (by decide) (n := 11) rfl ?_
    cases hm
    exact go_iret C dX4_box_11
def mX4_boxMany_4 : Nat → Int32 → Int32 → bx_St → Option Int32
  | 0, _, _, _ => none
  | n + 1, v1, v2, σ => (if (12 : Int32) ≤ v2 then (some v1) else (mX4_boxMany_4 n (v1 + (((σ.1 0 2) >>> (v2 &&& 31)) &&& (1 : Int32))) (v2 + 1) σ))
set_option maxRecDepth 8000 in
set_option maxHeartbeats 4000000 in
theorem mX4_boxMany_4_ok (C : bx_Cx p s m args meth c 3 A D cI cZ RX4 cX4_boxMany (some .int)) : ∀ (n : Nat) (v1 : Int32) (v2 : Int32) (σ : bx_St) (u : Int32), mX4_boxMany_4 n v1 v2 σ = some u → bx_Go p l e (bx_rm 1) s m args below meth c 3 A D (MQ below (bx_Q (some (.int u)) (bx_mw q cI cZ σ) D A) args s 0 0 A) (bx_mw q cI cZ σ) 4 [(0, .ref (q 0)), (1, .int v1), (2, .int v2)] [] := by
  intro n
  induction n with
  | zero =>
    intro v1 v2 σ u hm
    cases hm
  | succ n ih =>
    intro v1 v2 σ u hm
    rw [mX4_boxMany_4] at hm
    refine go_iload_n C dX4_boxMany_4 rfl 2 rfl (n := 5) rfl ?_
    refine go_bipush C dX4_boxMany_5 (v := (12 : Int32)) (by decide) (n := 7) rfl ?_
    refine go_icmp_ge C 27 dX4_boxMany_7 (by decide) (n := 10) rfl (fun c1 => ?_) (fun c1 => ?_)
    · have hm := bx_p c1 hm
      refine go_iload_n C dX4_boxMany_27 rfl 1 rfl (n := 28) rfl ?_
      cases hm
      exact go_iret C dX4_boxMany_28
    · have hm := bx_n c1 hm
      refine go_iload_n C dX4_boxMany_10 rfl 1 rfl (n := 11) rfl ?_
      refine go_aload_n C dX4_boxMany_11 rfl 0 rfl (n := 12) rfl ?_
      refine go_get C dX4_boxMany_12 (mf4_2 q cI cZ σ) rfl inX4 (by decide) fl_X4_73 (n := 15) rfl ?_
      refine go_iload_n C dX4_boxMany_15 rfl 2 rfl (n := 16) rfl ?_
      refine go_ishr C dX4_boxMany_16 (n := 17) rfl ?_
      refine go_iconst C dX4_boxMany_17 (v := (1 : Int32)) (by decide) (n := 18) rfl ?_
      refine go_iand C dX4_boxMany_18 (n := 19) rfl ?_
      refine go_iadd C dX4_boxMany_19 (n := 20) rfl ?_
      refine go_istore_n C dX4_boxMany_20 rfl (by decide) (lv' := [(1, .int (v1 + (((σ.1 0 2) >>> (v2 &&& 31)) &&& (1 : Int32)))), (0, .ref (q 0)), (2, .int v2)]) rfl (n := 21) rfl ?_
      refine go_iinc C (j := 2) dX4_boxMany_21 rfl (v := (v2 + 1)) rfl (by decide) (lv' := [(2, .int (v2 + 1)), (1, .int (v1 + (((σ.1 0 2) >>> (v2 &&& 31)) &&& (1 : Int32)))), (0, .ref (q 0))]) rfl (n := 24) rfl ?_
      refine go_goto C 4 dX4_boxMany_24 (by decide) ?_
      refine go_lv (lv' := [(0, .ref (q 0)), (1, .int (v1 + (((σ.1 0 2) >>> (v2 &&& 31)) &&& (1 : Int32)))), (2, .int (v2 + 1))]) [2, 1, 0] rfl ?_
      exact ih _ _ _ _ hm
def mX4_boxMany (σ : bx_St) : Option Int32 := (mX4_boxMany_4 bx_F (0 : Int32) (0 : Int32) σ)
set_option maxRecDepth 8000 in
set_option maxHeartbeats 4000000 in
theorem ktX4_boxMany {l : Launch} {D : va_G} {cI cZ : ClassId} {q : Nat → Nat} {σ : bx_St} {u : Int32} (hm : mX4_boxMany σ = some u) : bx_Mt l D cI cZ yX4_boxMany cX4_boxMany 3 (some .int) 1 [.ref (q 0)] (bx_mw q cI cZ σ) (some (.int u)) (bx_mw q cI cZ σ) := by
  refine bx_mk (by decide) (Nat.le_of_ble_eq_true rfl) (lv := [(0, .ref (q 0))]) rfl (fun p e s m args below meth c A C => ?_)
  replace C : bx_Cx p s m args meth c 3 A D cI cZ RX4 cX4_boxMany (some .int) := C
  unfold mX4_boxMany at hm
  refine go_iconst C dX4_boxMany_0 (v := (0 : Int32)) (by decide) (n := 1) rfl ?_
  refine go_istore_n C dX4_boxMany_1 rfl (by decide) (lv' := [(1, .int (0 : Int32)), (0, .ref (q 0))]) rfl (n := 2) rfl ?_
  refine go_iconst C dX4_boxMany_2 (v := (0 : Int32)) (by decide) (n := 3) rfl ?_
  refine go_istore_n C dX4_boxMany_3 rfl (by decide) (lv' := [(2, .int (0 : Int32)), (1, .int (0 : Int32)), (0, .ref (q 0))]) rfl (n := 4) rfl ?_
  refine go_lv (lv' := [(0, .ref (q 0)), (1, .int (0 : Int32)), (2, .int (0 : Int32))]) [2, 1, 0] rfl ?_
  exact mX4_boxMany_4_ok C _ _ _ _ _ hm
end
