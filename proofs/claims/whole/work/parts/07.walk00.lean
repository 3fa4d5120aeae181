section
variable {p : Program} {l : Launch} {e : Env} {s : State} {m : MethodId} {args : Array Value} {below : List Frame} {meth : Method} {c : Code} {A : Nat → Prop} {D : va_G} {cI cZ : ClassId} {q : Nat → Nat} {ws : va_W}
def mJ6_bitCount_0f7a4 (v0 : Int32) : Int32 := ((((((((v0 - (((v0.toUInt32 >>> ((1 : Int32).toUInt32 &&& Int32.toUInt32 31)).toInt32) &&& (1431655765 : Int32))) &&& (858993459 : Int32)) + ((((v0 - (((v0.toUInt32 >>> ((1 : Int32).toUInt32 &&& Int32.toUInt32 31)).toInt32) &&& (1431655765 : Int32))).toUInt32 >>> ((2 : Int32).toUInt32 &&& Int32.toUInt32 31)).toInt32) &&& (858993459 : Int32))) + (((((v0 - (((v0.toUInt32 >>> ((1 : Int32).toUInt32 &&& Int32.toUInt32 31)).toInt32) &&& (1431655765 : Int32))) &&& (858993459 : Int32)) + ((((v0 - (((v0.toUInt32 >>> ((1 : Int32).toUInt32 &&& Int32.toUInt32 31)).toInt32) &&& (1431655765 : Int32))).toUInt32 >>> ((2 : Int32).toUInt32 &&& Int32.toUInt32 31)).toInt32) &&& (858993459 : Int32))).toUInt32 >>> ((4 : Int32).toUInt32 &&& Int32.toUInt32 31)).toInt32)) &&& (252645135 : Int32)) + (((((((v0 - (((v0.toUInt32 >>> ((1 : Int32).toUInt32 &&& Int32.toUInt32 31)).toInt32) &&& (1431655765 : Int32))) &&& (858993459 : Int32)) + ((((v0 - (((v0.toUInt32 >>> ((1 : Int32).toUInt32 &&& Int32.toUInt32 31)).toInt32) &&& (1431655765 : Int32))).toUInt32 >>> ((2 : Int32).toUInt32 &&& Int32.toUInt32 31)).toInt32) &&& (858993459 : Int32))) + (((((v0 - (((v0.toUInt32 >>> ((1 : Int32).toUInt32 &&& Int32.toUInt32 31)).toInt32) &&& (1431655765 : Int32))) &&& (858993459 : Int32)) + ((((v0 - (((v0.toUInt32 >>> ((1 : Int32).toUInt32 &&& Int32.toUInt32 31)).toInt32) &&& (1431655765 : Int32))).toUInt32 >>> ((2 : Int32).toUInt32 &&& Int32.toUInt32 31)).toInt32) &&& (858993459 : Int32))).toUInt32 >>> ((4 : Int32).toUInt32 &&& Int32.toUInt32 31)).toInt32)) &&& (252645135 : Int32)).toUInt32 >>> ((8 : Int32).toUInt32 &&& Int32.toUInt32 31)).toInt32)) + ((((((((v0 - (((v0.toUInt32 >>> ((1 : Int32).toUInt32 &&& Int32.toUInt32 31)).toInt32) &&& (1431655765 : Int32))) &&& (858993459 : Int32)) + ((((v0 - (((v0.toUInt32 >>> ((1 : Int32).toUInt32 &&& Int32.toUInt32 31)).toInt32) &&& (1431655765 : Int32))).toUInt32 >>> ((2 : Int32).toUInt32 &&& Int32.toUInt32 31)).toInt32) &&& (858993459 : Int32))) + (((((v0 - (((v0.toUInt32 >>> ((1 : Int32).toUInt32 &&& Int32.toUInt32 31)).toInt32) &&& (1431655765 : Int32))) &&& (858993459 : Int32)) + ((((v0 - (((v0.toUInt32 >>> ((1 : Int32).toUInt32 &&& Int32.toUInt32 31)).toInt32) &&& (1431655765 : Int32))).toUInt32 >>> ((2 : Int32).toUInt32 &&& Int32.toUInt32 31)).toInt32) &&& (858993459 : Int32))).toUInt32 >>> ((4 : Int32).toUInt32 &&& Int32.toUInt32 31)).toInt32)) &&& (252645135 : Int32)) + (((((((v0 - (((v0.toUInt32 >>> ((1 : Int32).toUInt32 &&& Int32.toUInt32 31)).toInt32) &&& (1431655765 : Int32))) &&& (858993459 : Int32)) + ((((v0 - (((v0.toUInt32 >>> ((1 : Int32).toUInt32 &&& Int32.toUInt32 31)).toInt32) &&& (1431655765 : Int32))).toUInt32 >>> ((2 : Int32).toUInt32 &&& Int32.toUInt32 31)).toInt32) &&& (858993459 : Int32))) + (((((v0 - (((v0.toUInt32 >>> ((1 : Int32).toUInt32 &&& Int32.toUInt32 31)).toInt32) &&& (1431655765 : Int32))) &&& (858993459 : Int32)) + ((((v0 - (((v0.toUInt32 >>> ((1 : Int32).toUInt32 &&& Int32.toUInt32 31)).toInt32) &&& (1431655765 : Int32))).toUInt32 >>> ((2 : Int32).toUInt32 &&& Int32.toUInt32 31)).toInt32) &&& (858993459 : Int32))).toUInt32 >>> ((4 : Int32).toUInt32 &&& Int32.toUInt32 31)).toInt32)) &&& (252645135 : Int32)).toUInt32 >>> ((8 : Int32).toUInt32 &&& Int32.toUInt32 31)).toInt32)).toUInt32 >>> ((16 : Int32).toUInt32 &&& Int32.toUInt32 31)).toInt32)) &&& (63 : Int32))
set_option maxRecDepth 8000 in
set_option maxHeartbeats 4000000 in
theorem ktJ6_bitCount_0f7a4 {l : Launch} {D : va_G} {cI cZ : ClassId} {ws : va_W} {v0 : Int32} {u : Int32} (hm : mJ6_bitCount_0f7a4 v0 = u) : bx_Mt l D cI cZ yJ6_bitCount_0f7a4 cJ6_bitCount_0f7a4 1 (some .int) 1 [.int v0] ws (some (.int u)) ws := by
  refine bx_mk (by decide) (Nat.le_of_ble_eq_true rfl) (lv := [(0, .int v0)]) rfl (fun p e s m args below meth c A C => ?_)
  replace C : bx_Cx p s m args meth c 1 A D cI cZ RJ6 cJ6_bitCount_0f7a4 (some .int) := C
  unfold mJ6_bitCount_0f7a4 at hm
  refine go_iload_n C dJ6_bitCount_0f7a4_0 rfl 0 rfl (n := 1) rfl ?_
  refine go_iload_n C dJ6_bitCount_0f7a4_1 rfl 0 rfl (n := 2) rfl ?_
  refine go_iconst C dJ6_bitCount_0f7a4_2 (v := (1 : Int32)) (by decide) (n := 3) rfl ?_
  refine go_iushr C dJ6_bitCount_0f7a4_3 (n := 4) rfl ?_
  refine go_ldcw C dJ6_bitCount_0f7a4_4 (v := (1431655765 : Int32)) kc_J6_265 (n := 7) rfl ?_
  refine go_iand C dJ6_bitCount_0f7a4_7 (n := 8) rfl ?_
  refine go_isub C dJ6_bitCount_0f7a4_8 (n := 9) rfl ?_
  refine go_istore_n C dJ6_bitCount_0f7a4_9 rfl (by decide) (lv' := [(0, .int (v0 - (((v0.toUInt32 >>> ((1 : Int32).toUInt32 &&& Int32.toUInt32 31)).toInt32) &&& (1431655765 : Int32))))]) rfl (n := 10) rfl ?_
  refine go_iload_n C dJ6_bitCount_0f7a4_10 rfl 0 rfl (n := 11) rfl ?_
  refine go_ldcw C dJ6_bitCount_0f7a4_11 (v := (858993459 : Int32)) kc_J6_266 (n := 14) rfl ?_
  refine go_iand C dJ6_bitCount_0f7a4_14 (n := 15) rfl ?_
  refine go_iload_n C dJ6_bitCount_0f7a4_15 rfl 0 rfl (n := 16) rfl ?_
  refine go_iconst C dJ6_bitCount_0f7a4_16 (v := (2 : Int32)) (by decide) (n := 17) rfl ?_
  refine go_iushr C dJ6_bitCount_0f7a4_17 (n := 18) rfl ?_
  refine go_ldcw C dJ6_bitCount_0f7a4_18 (v := (858993459 : Int32)) kc_J6_266 (n := 21) rfl ?_
  refine go_iand C dJ6_bitCount_0f7a4_21 (n := 22) rfl ?_
  refine go_iadd C dJ6_bitCount_0f7a4_22 (n := 23) rfl ?_
  refine go_istore_n C dJ6_bitCount_0f7a4_23 rfl (by decide) (lv' := [(0, .int (((v0 - (((v0.toUInt32 >>> ((1 : Int32).toUInt32 &&& Int32.toUInt32 31)).toInt32) &&& (1431655765 : Int32))) &&& (858993459 : Int32)) + ((((v0 - (((v0.toUInt32 >>> ((1 : Int32).toUInt32 &&& Int32.toUInt32 31)).toInt32) &&& (1431655765 : Int32))).toUInt32 >>> ((2 : Int32).toUInt32 &&& Int32.toUInt32 31)).toInt32) &&& (858993459 : Int32))))]) rfl (n := 24) rfl ?_
  refine go_iload_n C dJ6_bitCount_0f7a4_24 rfl 0 rfl (n := 25) rfl ?_
  refine go_iload_n C dJ6_bitCount_0f7a4_25 rfl 0 rfl (n := 26) rfl ?_
  refine go_iconst C dJ6_bitCount_0f7a4_26 (v := (4 : Int32)) (by decide) (n := 27) rfl ?_
  refine go_iushr C dJ6_bitCount_0f7a4_27 (n := 28) rfl ?_
  refine go_iadd C dJ6_bitCount_0f7a4_28 (n := 29) rfl ?_
  refine go_ldcw C dJ6_bitCount_0f7a4_29 (v := (252645135 : Int32)) kc_J6_267 (n := 32) rfl ?_
  refine go_iand C dJ6_bitCount_0f7a4_32 (n := 33) rfl ?_
  refine go_istore_n C dJ6_bitCount_0f7a4_33 rfl (by decide) (lv' := [(0, .int (((((v0 - (((v0.toUInt32 >>> ((1 : Int32).toUInt32 &&& Int32.toUInt32 31)).toInt32) &&& (1431655765 : Int32))) &&& (858993459 : Int32)) + ((((v0 - (((v0.toUInt32 >>> ((1 : Int32).toUInt32 &&& Int32.toUInt32 31)).toInt32) &&& (1431655765 : Int32))).toUInt32 >>> ((2 : Int32).toUInt32 &&& Int32.toUInt32 31)).toInt32) &&& (858993459 : Int32))) + (((((v0 - (((v0.toUInt32 >>> ((1 : Int32).toUInt32 &&& Int32.toUInt32 31)).toInt32) &&& (1431655765 : Int32))) &&& (858993459 : Int32)) + ((((v0 - (((v0.toUInt32 >>> ((1 : Int32).toUInt32 &&& Int32.toUInt32 31)).toInt32) &&& (1431655765 : Int32))).toUInt32 >>> ((2 : Int32).toUInt32 &&& Int32.toUInt32 31)).toInt32) &&& (858993459 : Int32))).toUInt32 >>> ((4 : Int32).toUInt32 &&& Int32.toUInt32 31)).toInt32)) &&& (252645135 : Int32)))]) rfl (n := 34) rfl ?_
  refine go_iload_n C dJ6_bitCount_0f7a4_34 rfl 0 rfl (n := 35) rfl ?_
  refine go_iload_n C dJ6_bitCount_0f7a4_35 rfl 0 rfl (n := 36) rfl ?_
  refine go_bipush C dJ6_bitCount_0f7a4_36 (v := (8 : Int32)) (by decide) (n := 38) rfl ?_
  refine go_iushr C dJ6_bitCount_0f7a4_38 (n := 39) rfl ?_
  refine go_iadd C dJ6_bitCount_0f7a4_39 (n := 40) rfl ?_
  refine go_istore_n C dJ6_bitCount_0f7a4_40 rfl (by decide) (lv' := [(0, .int ((((((v0 - (((v0.toUInt32 >>> ((1 : Int32).toUInt32 &&& Int32.toUInt32 31)).toInt32) &&& (1431655765 : Int32))) &&& (858993459 : Int32)) + ((((v0 - (((v0.toUInt32 >>> ((1 : Int32).toUInt32 &&& Int32.toUInt32 31)).toInt32) &&& (1431655765 : Int32))).toUInt32 >>> ((2 : Int32).toUInt32 &&& Int32.toUInt32 31)).toInt32) &&& (858993459 : Int32))) + (((((v0 - (((v0.toUInt32 >>> ((1 : Int32).toUInt32 &&& Int32.toUInt32 31)).toInt32) &&& (1431655765 : Int32))) &&& (858993459 : Int32)) + ((((v0 - (((v0.toUInt32 >>> ((1 : Int32).toUInt32 &&& Int32.toUInt32 31)).toInt32) &&& (1431655765 : Int32))).toUInt32 >>> ((2 : Int32).toUInt32 &&& Int32.toUInt32 31)).toInt32) &&& (858993459 : Int32))).toUInt32 >>> ((4 : Int32).toUInt32 &&& Int32.toUInt32 31)).toInt32)) &&& (252645135 : Int32)) + (((((((v0 - (((v0.toUInt32 >>> ((1 : Int32).toUInt32 &&& Int32.toUInt32 31)).toInt32) &&& (1431655765 : Int32))) &&& (858993459 : Int32)) + ((((v0 - (((v0.toUInt32 >>> ((1 : Int32).toUInt32 &&& Int32.toUInt32 31)).toInt32) &&& (1431655765 : Int32))).toUInt32 >>> ((2 : Int32).toUInt32 &&& Int32.toUInt32 31)).toInt32) &&& (858993459 : Int32))) + (((((v0 - (((v0.toUInt32 >>> ((1 : Int32).toUInt32 &&& Int32.toUInt32 31)).toInt32) &&& (1431655765 : Int32))) &&& (858993459 : Int32)) + ((((v0 - (((v0.toUInt32 >>> ((1 : Int32).toUInt32 &&& Int32.toUInt32 31)).toInt32) &&& (1431655765 : Int32))).toUInt32 >>> ((2 : Int32).toUInt32 &&& Int32.toUInt32 31)).toInt32) &&& (858993459 : Int32))).toUInt32 >>> ((4 : Int32).toUInt32 &&& Int32.toUInt32 31)).toInt32)) &&& (252645135 : Int32)).toUInt32 >>> ((8 : Int32).toUInt32 &&& Int32.toUInt32 31)).toInt32)))]) rfl (n := 41) rfl ?_
  refine go_iload_n C dJ6_bitCount_0f7a4_41 rfl 0 rfl (n := 42) rfl ?_
  refine go_iload_n C dJ6_bitCount_0f7a4_42 rfl 0 rfl (n := 43) rfl ?_
  refine go_bipush C dJ6_bitCount_0f7a4_43 (v := (16 : Int32)) (by decide) (n := 45) rfl ?_
  refine go_iushr C dJ6_bitCount_0f7a4_45 (n := 46) rfl ?_
  refine go_iadd C dJ6_bitCount_0f7a4_46 (n := 47) rfl ?_
  refine go_istore_n C dJ6_bitCount_0f7a4_47 rfl (by decide) (lv' := [(0, .int (((((((v0 - (((v0.toUInt32 >>> ((1 : Int32).toUInt32 &&& Int32.toUInt32 31)).toInt32) &&& (1431655765 : Int32))) &&& (858993459 : Int32)) + ((((v0 - (((v0.toUInt32 >>> ((1 : Int32).toUInt32 &&& Int32.toUInt32 31)).toInt32) &&& (1431655765 : Int32))).toUInt32 >>> ((2 : Int32).toUInt32 &&& Int32.toUInt32 31)).toInt32) &&& (858993459 : Int32))) + (((((v0 - (((v0.toUInt32 >>> ((1 : Int32).toUInt32 &&& Int32.toUInt32 31)).toInt32) &&& (1431655765 : Int32))) &&& (858993459 : Int32)) + ((((v0 - (((v0.toUInt32 >>> ((1 : Int32).toUInt32 &&& Int32.toUInt32 31)).toInt32) &&& (1431655765 : Int32))).toUInt32 >>> ((2 : Int32).toUInt32 &&& Int32.toUInt32 31)).toInt32) &&& (858993459 : Int32))).toUInt32 >>> ((4 : Int32).toUInt32 &&& Int32.toUInt32 31)).toInt32)) &&& (252645135 : Int32)) + (((((((v0 - (((v0.toUInt32 >>> ((1 : Int32).toUInt32 &&& Int32.toUInt32 31)).toInt32) &&& (1431655765 : Int32))) &&& (858993459 : Int32)) + ((((v0 - (((v0.toUInt32 >>> ((1 : Int32).toUInt32 &&& Int32.toUInt32 31)).toInt32) &&& (1431655765 : Int32))).toUInt32 >>> ((2 : Int32).toUInt32 &&& Int32.toUInt32 31)).toInt32) &&& (858993459 : Int32))) + (((((v0 - (((v0.toUInt32 >>> ((1 : Int32).toUInt32 &&& Int32.toUInt32 31)).toInt32) &&& (1431655765 : Int32))) &&& (858993459 : Int32)) + ((((v0 - (((v0.toUInt32 >>> ((1 : Int32).toUInt32 &&& Int32.toUInt32 31)).toInt32) &&& (1431655765 : Int32))).toUInt32 >>> ((2 : Int32).toUInt32 &&& Int32.toUInt32 31)).toInt32) &&& (858993459 : Int32))).toUInt32 >>> ((4 : Int32).toUInt32 &&& Int32.toUInt32 31)).toInt32)) &&& (252645135 : Int32)).toUInt32 >>> ((8 : Int32).toUInt32 &&& Int32.toUInt32 31)).toInt32)) + ((((((((v0 - (((v0.toUInt32 >>> ((1 : Int32).toUInt32 &&& Int32.toUInt32 31)).toInt32) &&& (1431655765 : Int32))) &&& (858993459 : Int32)) + ((((v0 - (((v0.toUInt32 >>> ((1 : Int32).toUInt32 &&& Int32.toUInt32 31)).toInt32) &&& (1431655765 : Int32))).toUInt32 >>> ((2 : Int32).toUInt32 &&& Int32.toUInt32 31)).toInt32) &&& (858993459 : Int32))) + (((((v0 - (((v0.toUInt32 >>> ((1 : Int32).toUInt32 &&& Int32.toUInt32 31)).toInt32) &&& (1431655765 : Int32))) &&& (858993459 : Int32)) + ((((v0 - (((v0.toUInt32 >>> ((1 : Int32).toUInt32 &&& Int32.toUInt32 31)).toInt32) &&& (1431655765 : Int32))).toUInt32 >>> ((2 : Int32).toUInt32 &&& Int32.toUInt32 31)).toInt32) &&& (858993459 : Int32))).toUInt32 >>> ((4 : Int32).toUInt32 &&& Int32.toUInt32 31)).toInt32)) &&& (252645135 : Int32)) + (((((((v0 - (((v0.toUInt32 >>> ((1 : Int32).toUInt32 &&& Int32.toUInt32 31)).toInt32) &&& (1431655765 : Int32))) &&& (858993459 : Int32)) + ((((v0 - (((v0.toUInt32 >>> ((1 : Int32).toUInt32 &&& Int32.toUInt32 31)).toInt32) &&& (1431655765 : Int32))).toUInt32 >>> ((2 : Int32).toUInt32 &&& Int32.toUInt32 31)).toInt32) &&& (858993459 : Int32))) + (((((v0 - (((v0.toUInt32 >>> ((1 : Int32).toUInt32 &&& Int32.toUInt32 31)).toInt32) &&& (1431655765 : Int32))) &&& (858993459 : Int32)) + ((((v0 - (((v0.toUInt32 >>> ((1 : Int32).toUInt32 &&& Int32.toUInt32 31)).toInt32) &&& (1431655765 : Int32))).toUInt32 >>> ((2 : Int32).toUInt32 &&& Int32.toUInt32 31)).toInt32) &&& (858993459 : Int32))).toUInt32 >>> ((4 : Int32).toUInt32 &&& Int32.toUInt32 31)).toInt32)) &&& (252645135 : Int32)).toUInt32 >>> ((8 : Int32).toUInt32 &&& Int32.toUInt32 31)).toInt32)).toUInt32 >>> ((16 : Int32).toUInt32 &&& Int32.toUInt32 31)).toInt32)))]) rfl (n := 48) rfl ?_
  refine go_iload_n C dJ6_bitCount_0f7a4_48 rfl 0 rfl (n := 49) rfl ?_
  refine go_bipush C dJ6_bitCount_0f7a4_49 (v := (63 : Int32)) (by decide) (n := 51) rfl ?_
  refine go_iand C dJ6_bitCount_0f7a4_51 (n := 52) rfl ?_
  subst hm
  exact go_iret C dJ6_bitCount_0f7a4_52

def mX0_eventCount (σ : bx_St) : Int32 := ((σ.1 5 2) + (σ.1 5 3))
set_option maxRecDepth 8000 in
set_option maxHeartbeats 4000000 in
theorem ktX0_eventCount {l : Launch} {D : va_G} {cI cZ : ClassId} {q : Nat → Nat} {σ : bx_St} {u : Int32} (hm : mX0_eventCount σ = u) : bx_Mt l D cI cZ yX0_eventCount cX0_eventCount 1 (some .int) 1 [.ref (q 5)] (bx_xw q cI σ) (some (.int u)) (bx_xw q cI σ) := by
  refine bx_mk (by decide) (Nat.le_of_ble_eq_true rfl) (lv := [(0, .ref (q 5))]) rfl (fun p e s m args below meth c A C => ?_)
  replace C : bx_Cx p s m args meth c 1 A D cI cZ RX0 cX0_eventCount (some .int) := C
  unfold mX0_eventCount at hm
  refine go_aload_n C dX0_eventCount_0 rfl 0 rfl (n := 1) rfl ?_
  refine go_get C dX0_eventCount_1 (xf0_2 q cI σ) rfl inX0 (by decide) fl_X0_18 (n := 4) rfl ?_
  refine go_aload_n C dX0_eventCount_4 rfl 0 rfl (n := 5) rfl ?_
  refine go_get C dX0_eventCount_5 (xf0_3 q cI σ) rfl inX0 (by decide) fl_X0_22 (n := 8) rfl ?_
  refine go_iadd C dX0_eventCount_8 (n := 9) rfl ?_
  subst hm
  exact go_iret C dX0_eventCount_9
def mX0_addEvent_32 (v2 : Int32) (s0 : Int32) (s1 : Int32) (σ : bx_St) : Option bx_St := (if bx_ok s1 66 then (if v2 = 0 then (bx_let (bx_up (bx_up σ 6 s1.toNatClampNeg s0) 5 3 (((bx_up σ 6 s1.toNatClampNeg s0).1 5 3) + (1 : Int32))) fun σ3 => (some σ3)) else (bx_let (bx_up (bx_up σ 6 s1.toNatClampNeg s0) 5 2 (((bx_up σ 6 s1.toNatClampNeg s0).1 5 2) + (1 : Int32))) fun σ5 => (some σ5))) else none)
set_option maxRecDepth 8000 in
set_option maxHeartbeats 4000000 in
theorem mX0_addEvent_32_ok (C : bx_Cx p s m args meth c 4 A D cI cZ RX0 cX0_addEvent none) : ∀ (v2 : Int32) (s0 : Int32) (s1 : Int32) (σ : bx_St) (u : bx_St), mX0_addEvent_32 v2 s0 s1 σ = some u → bx_Go p l e (bx_rm 2) s m args below meth c 4 A D (MQ below (bx_Q none (bx_xw q cI u) D A) args s 0 0 A) (bx_xw q cI σ) 32 [(0, .ref (q 5)), (2, .int v2)] [.int s0, .int s1, .ref (q 6)] := by
  intro v2 s0 s1 σ u hm
  unfold mX0_addEvent_32 at hm
  obtain ⟨b1, hm⟩ := bx_g hm
  refine go_iast C dX0_addEvent_32 (xu_6 q cI σ s1 s0) b1 (n := 33) rfl ?_
  refine go_iload_n C dX0_addEvent_33 rfl 1 rfl (n := 34) rfl ?_
  refine go_if_eq C 50 dX0_addEvent_34 (by decide) (n := 37) rfl (fun c2 => ?_) (fun c2 => ?_)
  · have hm := bx_p c2 hm
    refine go_aload_n C dX0_addEvent_50 rfl 0 rfl (n := 51) rfl ?_
    refine go_dup C dX0_addEvent_51 rfl (n := 52) rfl ?_
    refine go_get C dX0_addEvent_52 (xf0_3 q cI (bx_up σ 6 s1.toNatClampNeg s0)) rfl inX0 (by decide) fl_X0_22 (n := 55) rfl ?_
    refine go_iconst C dX0_addEvent_55 (v := (1 : Int32)) (by decide) (n := 56) rfl ?_
    refine go_iadd C dX0_addEvent_56 (n := 57) rfl ?_
    obtain ⟨σ3, z4, hm⟩ := bx_lt hm
    refine go_put C dX0_addEvent_57 (ws' := (bx_xw q cI σ3)) (by rw [z4]; exact (xp0_3 q cI (bx_up σ 6 s1.toNatClampNeg s0) (((bx_up σ 6 s1.toNatClampNeg s0).1 5 3) + (1 : Int32)))) rfl inX0 tyX0_ok nmX0 (by decide) fl_X0_22 rfl (ty := .int) (by decide +kernel) (by rfl) (by rfl) (n := 60) rfl ?_
    cases hm
    exact go_vret C dX0_addEvent_60
  · have hm := bx_n c2 hm
    refine go_aload_n C dX0_addEvent_37 rfl 0 rfl (n := 38) rfl ?_
    refine go_dup C dX0_addEvent_38 rfl (n := 39) rfl ?_
    refine go_get C dX0_addEvent_39 (xf0_2 q cI (bx_up σ 6 s1.toNatClampNeg s0)) rfl inX0 (by decide) fl_X0_18 (n := 42) rfl ?_
    refine go_iconst C dX0_addEvent_42 (v := (1 : Int32)) (by decide) (n := 43) rfl ?_
    refine go_iadd C dX0_addEvent_43 (n := 44) rfl ?_
    obtain ⟨σ5, z6, hm⟩ := bx_lt hm
    refine go_put C dX0_addEvent_44 (ws' := (bx_xw q cI σ5)) (by rw [z6]; exact (xp0_2 q cI (bx_up σ 6 s1.toNatClampNeg s0) (((bx_up σ 6 s1.toNatClampNeg s0).1 5 2) + (1 : Int32)))) rfl inX0 tyX0_ok nmX0 (by decide) fl_X0_18 rfl (ty := .int) (by decide +kernel) (by rfl) (by rfl) (n := 47) rfl ?_
    refine go_goto C 60 dX0_addEvent_47 (by decide) ?_
    cases hm
    exact go_vret C dX0_addEvent_60
def mX0_addEvent (v1 : Int32) (v2 : Int32) (σ : bx_St) : Option bx_St := (if (mX0_eventCount σ) < (66 : Int32) then (if v2 = 0 then (mX0_addEvent_32 v2 ((2 : Int32) * v1) (mX0_eventCount σ) σ) else (mX0_addEvent_32 v2 (((2 : Int32) * v1) + (1 : Int32)) (mX0_eventCount σ) σ)) else (some σ))
set_option maxRecDepth 8000 in
set_option maxHeartbeats 4000000 in
theorem ktX0_addEvent {l : Launch} {D : va_G} {cI cZ : ClassId} {q : Nat → Nat} {v1 : Int32} {v2 : Int32} {σ : bx_St} {u : bx_St} (hm : mX0_addEvent v1 v2 σ = some u) : bx_Mt l D cI cZ yX0_addEvent cX0_addEvent 4 none 2 [.ref (q 5), .int v1, .int v2] (bx_xw q cI σ) none (bx_xw q cI u) := by
  refine bx_mk (by decide) (Nat.le_of_ble_eq_true rfl) (lv := [(0, .ref (q 5)), (1, .int v1), (2, .int v2)]) rfl (fun p e s m args below meth c A C => ?_)
  replace C : bx_Cx p s m args meth c 4 A D cI cZ RX0 cX0_addEvent none := C
  unfold mX0_addEvent at hm
  refine go_aload_n C dX0_addEvent_0 rfl 0 rfl (n := 1) rfl ?_
  refine go_callVi C dX0_addEvent_1 mw_X0_eventCount ml_X0_28 (rest := []) (ktX0_eventCount rfl) (xo0 q cI σ) rfl (by decide) rfl rfl (Nat.le_of_ble_eq_true rfl) (n := 4) rfl ?_
  refine go_istore_n C dX0_addEvent_4 rfl (by decide) (lv' := [(3, .int (mX0_eventCount σ)), (0, .ref (q 5)), (1, .int v1), (2, .int v2)]) rfl (n := 5) rfl ?_
  refine go_iload_n C dX0_addEvent_5 rfl 0 rfl (n := 6) rfl ?_
  refine go_bipush C dX0_addEvent_6 (v := (66 : Int32)) (by decide) (n := 8) rfl ?_
  refine go_icmp_lt C 12 dX0_addEvent_8 (by decide) (n := 11) rfl (fun c1 => ?_) (fun c1 => ?_)
  · have hm := bx_p c1 hm
    refine go_aload_n C dX0_addEvent_12 rfl 1 rfl (n := 13) rfl ?_
    refine go_get C dX0_addEvent_13 (xf0_0 q cI σ) rfl inX0 (by decide) fl_X0_11 (n := 16) rfl ?_
    refine go_iload_n C dX0_addEvent_16 rfl 0 rfl (n := 17) rfl ?_
    refine go_iload_n C dX0_addEvent_17 rfl 3 rfl (n := 18) rfl ?_
    refine go_if_eq C 29 dX0_addEvent_18 (by decide) (n := 21) rfl (fun c2 => ?_) (fun c2 => ?_)
    · have hm := bx_p c2 hm
      refine go_iconst C dX0_addEvent_29 (v := (2 : Int32)) (by decide) (n := 30) rfl ?_
      refine go_iload_n C dX0_addEvent_30 rfl 2 rfl (n := 31) rfl ?_
      refine go_imul C dX0_addEvent_31 (n := 32) rfl ?_
      refine go_lv (lv' := [(0, .ref (q 5)), (2, .int v2)]) [1, 3] rfl ?_
      exact mX0_addEvent_32_ok C _ _ _ _ _ hm
    · have hm := bx_n c2 hm
      refine go_iconst C dX0_addEvent_21 (v := (2 : Int32)) (by decide) (n := 22) rfl ?_
      refine go_iload_n C dX0_addEvent_22 rfl 2 rfl (n := 23) rfl ?_
      refine go_imul C dX0_addEvent_23 (n := 24) rfl ?_
      refine go_iconst C dX0_addEvent_24 (v := (1 : Int32)) (by decide) (n := 25) rfl ?_
      refine go_iadd C dX0_addEvent_25 (n := 26) rfl ?_
      refine go_goto C 32 dX0_addEvent_26 (by decide) ?_
      refine go_lv (lv' := [(0, .ref (q 5)), (2, .int v2)]) [1, 3] rfl ?_
      exact mX0_addEvent_32_ok C _ _ _ _ _ hm
  · have hm := bx_n c1 hm
    cases hm
    exact go_vret C dX0_addEvent_11
def mX0_addSwap (v1 : Int32) (σ : bx_St) : Option bx_St := (if bx_ok v1 3 then (if bx_ok v1 3 then (bx_let (bx_up σ 7 v1.toNatClampNeg ((σ.1 7 v1.toNatClampNeg) + (1 : Int32))) fun σ3 => (some σ3)) else none) else none)
set_option maxRecDepth 8000 in
set_option maxHeartbeats 4000000 in
theorem ktX0_addSwap {l : Launch} {D : va_G} {cI cZ : ClassId} {q : Nat → Nat} {v1 : Int32} {σ : bx_St} {u : bx_St} (hm : mX0_addSwap v1 σ = some u) : bx_Mt l D cI cZ yX0_addSwap cX0_addSwap 2 none 1 [.ref (q 5), .int v1] (bx_xw q cI σ) none (bx_xw q cI u) := by
  refine bx_mk (by decide) (Nat.le_of_ble_eq_true rfl) (lv := [(0, .ref (q 5)), (1, .int v1)]) rfl (fun p e s m args below meth c A C => ?_)
  replace C : bx_Cx p s m args meth c 2 A D cI cZ RX0 cX0_addSwap none := C
  unfold mX0_addSwap at hm
  refine go_aload_n C dX0_addSwap_0 rfl 0 rfl (n := 1) rfl ?_
  refine go_get C dX0_addSwap_1 (xf0_1 q cI σ) rfl inX0 (by decide) fl_X0_15 (n := 4) rfl ?_
  refine go_iload_n C dX0_addSwap_4 rfl 1 rfl (n := 5) rfl ?_
  refine go_dup2_11 C dX0_addSwap_5 rfl rfl (n := 6) rfl ?_
  obtain ⟨b1, hm⟩ := bx_g hm
  refine go_iald C dX0_addSwap_6 (xa_7 q cI σ) b1 (n := 7) rfl ?_
  refine go_iconst C dX0_addSwap_7 (v := (1 : Int32)) (by decide) (n := 8) rfl ?_
  refine go_iadd C dX0_addSwap_8 (n := 9) rfl ?_
  obtain ⟨b2, hm⟩ := bx_g hm
  obtain ⟨σ3, z4, hm⟩ := bx_lt hm
  refine go_iast C dX0_addSwap_9 (ws' := (bx_xw q cI σ3)) (by rw [z4]; exact (xu_7 q cI σ v1 ((σ.1 7 v1.toNatClampNeg) + (1 : Int32)))) b2 (n := 10) rfl ?_
  cases hm
  exact go_vret C dX0_addSwap_10
def mX0_addTurn (σ : bx_St) : bx_St := (bx_up σ 5 10 ((σ.1 5 10) + (1 : Int32)))
set_option maxRecDepth 8000 in
set_option maxHeartbeats 4000000 in
theorem ktX0_addTurn {l : Launch} {D : va_G} {cI cZ : ClassId} {q : Nat → Nat} {σ : bx_St} {u : bx_St} (hm : mX0_addTurn σ = u) : bx_Mt l D cI cZ yX0_addTurn cX0_addTurn 1 none 1 [.ref (q 5)] (bx_xw q cI σ) none (bx_xw q cI u) := by
  refine bx_mk (by decide) (Nat.le_of_ble_eq_true rfl) (lv := [(0, .ref (q 5))]) rfl (fun p e s m args below meth c A C => ?_)
  replace C : bx_Cx p s m args meth c 1 A D cI cZ RX0 cX0_addTurn none := C
  unfold mX0_addTurn at hm
  refine go_aload_n C dX0_addTurn_0 rfl 0 rfl (n := 1) rfl ?_
  refine go_dup C dX0_addTurn_1 rfl (n := 2) rfl ?_
  refine go_get C dX0_addTurn_2 (xf0_10 q cI σ) rfl inX0 (by decide) fl_X0_25 (n := 5) rfl ?_
  refine go_iconst C dX0_addTurn_5 (v := (1 : Int32)) (by decide) (n := 6) rfl ?_
  refine go_iadd C dX0_addTurn_6 (n := 7) rfl ?_
  refine go_put C dX0_addTurn_7 (xp0_10 q cI σ ((σ.1 5 10) + (1 : Int32))) rfl inX0 tyX0_ok nmX0 (by decide) fl_X0_25 rfl (ty := .int) (by decide +kernel) (by rfl) (by rfl) (n := 10) rfl ?_
  subst hm
  exact go_vret C dX0_addTurn_10
def mX0_allSwaps (σ : bx_St) : Option Int32 := (if bx_ok (0 : Int32) 3 then (if bx_ok (1 : Int32) 3 then (if bx_ok (2 : Int32) 3 then (some (((σ.1 7 (0 : Int32).toNatClampNeg) + (σ.1 7 (1 : Int32).toNatClampNeg)) + (σ.1 7 (2 : Int32).toNatClampNeg))) else none) else none) else none)
set_option maxRecDepth 8000 in
set_option maxHeartbeats 4000000 in
theorem ktX0_allSwaps {l : Launch} {D : va_G} {cI cZ : ClassId} {q : Nat → Nat} {σ : bx_St} {u : Int32} (hm : mX0_allSwaps σ = some u) : bx_Mt l D cI cZ yX0_allSwaps cX0_allSwaps 1 (some .int) 1 [.ref (q 5)] (bx_xw q cI σ) (some (.int u)) (bx_xw q cI σ) := by
  refine bx_mk (by decide) (Nat.le_of_ble_eq_true rfl) (lv := [(0, .ref (q 5))]) rfl (fun p e s m args below meth c A C => ?_)
  replace C : bx_Cx p s m args meth c 1 A D cI cZ RX0 cX0_allSwaps (some .int) := C
  unfold mX0_allSwaps at hm
  refine go_aload_n C dX0_allSwaps_0 rfl 0 rfl (n := 1) rfl ?_
  refine go_get C dX0_allSwaps_1 (xf0_1 q cI σ) rfl inX0 (by decide) fl_X0_15 (n := 4) rfl ?_
  refine go_iconst C dX0_allSwaps_4 (v := (0 : Int32)) (by decide) (n := 5) rfl ?_
  obtain ⟨b1, hm⟩ := bx_g hm
  refine go_iald C dX0_allSwaps_5 (xa_7 q cI σ) b1 (n := 6) rfl ?_
  refine go_aload_n C dX0_allSwaps_6 rfl 0 rfl (n := 7) rfl ?_
  refine go_get C dX0_allSwaps_7 (xf0_1 q cI σ) rfl inX0 (by decide) fl_X0_15 (n := 10) rfl ?_
  refine go_iconst C dX0_allSwaps_10 (v := (1 : Int32)) (by decide) (n := 11) rfl ?_
  obtain ⟨b2, hm⟩ := bx_g hm
  refine go_iald C dX0_allSwaps_11 (xa_7 q cI σ) b2 (n := 12) rfl ?_
  refine go_iadd C dX0_allSwaps_12 (n := 13) rfl ?_
  refine go_aload_n C dX0_allSwaps_13 rfl 0 rfl (n := 14) rfl ?_
  refine go_get C dX0_allSwaps_14 (xf0_1 q cI σ) rfl inX0 (by decide) fl_X0_15 (n := 17) rfl ?_
  refine go_iconst C dX0_allSwaps_17 (v := (2 : Int32)) (by decide) (n := 18) rfl ?_
  obtain ⟨b3, hm⟩ := bx_g hm
  refine go_iald C dX0_allSwaps_18 (xa_7 q cI σ) b3 (n := 19) rfl ?_
  refine go_iadd C dX0_allSwaps_19 (n := 20) rfl ?_
  cases hm
  exact go_iret C dX0_allSwaps_20
def mX0_close (σ : bx_St) : Option bx_St := (bx_let (bx_up σ 5 4 (mJ9_max_7cf53 (0 : Int32) ((σ.1 5 10) - (mX0_eventCount σ)))) fun σ1 => (bx_let (bx_up (bx_up σ1 5 5 ((σ1.1 5 5) + (σ1.1 5 2))) 5 6 (((bx_up σ1 5 5 ((σ1.1 5 5) + (σ1.1 5 2))).1 5 6) + ((bx_up σ1 5 5 ((σ1.1 5 5) + (σ1.1 5 2))).1 5 3))) fun σ3 => (Option.bind (mX0_allSwaps σ3) fun u5 => (bx_let (bx_up (bx_up σ3 5 7 ((σ3.1 5 7) + u5)) 5 8 (((bx_up σ3 5 7 ((σ3.1 5 7) + u5)).1 5 8) + ((bx_up σ3 5 7 ((σ3.1 5 7) + u5)).1 5 4))) fun σ7 => (some (bx_up σ7 5 9 ((σ7.1 5 9) + (1 : Int32))))))))
set_option maxRecDepth 8000 in
set_option maxHeartbeats 4000000 in
theorem ktX0_close {l : Launch} {D : va_G} {cI cZ : ClassId} {q : Nat → Nat} {σ : bx_St} {u : bx_St} (hm : mX0_close σ = some u) : bx_Mt l D cI cZ yX0_close cX0_close 1 none 2 [.ref (q 5)] (bx_xw q cI σ) none (bx_xw q cI u) := by
  refine bx_mk (by decide) (Nat.le_of_ble_eq_true rfl) (lv := [(0, .ref (q 5))]) rfl (fun p e s m args below meth c A C => ?_)
  replace C : bx_Cx p s m args meth c 1 A D cI cZ RX0 cX0_close none := C
  unfold mX0_close at hm
  refine go_aload_n C dX0_close_0 rfl 0 rfl (n := 1) rfl ?_
  refine go_iconst C dX0_close_1 (v := (0 : Int32)) (by decide) (n := 2) rfl ?_
  refine go_aload_n C dX0_close_2 rfl 0 rfl (n := 3) rfl ?_
  refine go_get C dX0_close_3 (xf0_10 q cI σ) rfl inX0 (by decide) fl_X0_25 (n := 6) rfl ?_
  refine go_aload_n C dX0_close_6 rfl 0 rfl (n := 7) rfl ?_
  refine go_callVi C dX0_close_7 mw_X0_eventCount ml_X0_28 (rest := [.int (σ.1 5 10), .int (0 : Int32), .ref (q 5)]) (ktX0_eventCount rfl) (xo0 q cI σ) rfl (by decide) rfl rfl (Nat.le_of_ble_eq_true rfl) (n := 10) rfl ?_
  refine go_isub C dX0_close_10 (n := 11) rfl ?_
  refine go_mmax C dX0_close_11 ml_X0_32 (by decide) (Nat.le_of_ble_eq_true rfl) (n := 14) rfl ?_
  obtain ⟨σ1, z2, hm⟩ := bx_lt hm
  refine go_put C dX0_close_14 (ws' := (bx_xw q cI σ1)) (by rw [z2]; exact (xp0_4 q cI σ (mJ9_max_7cf53 (0 : Int32) ((σ.1 5 10) - (mX0_eventCount σ))))) rfl inX0 tyX0_ok nmX0 (by decide) fl_X0_38 rfl (ty := .int) (by decide +kernel) (by rfl) (by rfl) (n := 17) rfl ?_
  refine go_aload_n C dX0_close_17 rfl 0 rfl (n := 18) rfl ?_
  refine go_dup C dX0_close_18 rfl (n := 19) rfl ?_
  refine go_get C dX0_close_19 (xf0_5 q cI σ1) rfl inX0 (by decide) fl_X0_41 (n := 22) rfl ?_
  refine go_aload_n C dX0_close_22 rfl 0 rfl (n := 23) rfl ?_
  refine go_get C dX0_close_23 (xf0_2 q cI σ1) rfl inX0 (by decide) fl_X0_18 (n := 26) rfl ?_
  refine go_iadd C dX0_close_26 (n := 27) rfl ?_
  refine go_put C dX0_close_27 (xp0_5 q cI σ1 ((σ1.1 5 5) + (σ1.1 5 2))) rfl inX0 tyX0_ok nmX0 (by decide) fl_X0_41 rfl (ty := .int) (by decide +kernel) (by rfl) (by rfl) (n := 30) rfl ?_
  refine go_aload_n C dX0_close_30 rfl 0 rfl (n := 31) rfl ?_
  refine go_dup C dX0_close_31 rfl (n := 32) rfl ?_
  refine go_get C dX0_close_32 (xf0_6 q cI (bx_up σ1 5 5 ((σ1.1 5 5) + (σ1.1 5 2)))) rfl inX0 (by decide) fl_X0_44 (n := 35) rfl ?_
  refine go_aload_n C dX0_close_35 rfl 0 rfl (n := 36) rfl ?_
  refine go_get C dX0_close_36 (xf0_3 q cI (bx_up σ1 5 5 ((σ1.1 5 5) + (σ1.1 5 2)))) rfl inX0 (by decide) fl_X0_22 (n := 39) rfl ?_
  refine go_iadd C dX0_close_39 (n := 40) rfl ?_
  obtain ⟨σ3, z4, hm⟩ := bx_lt hm
  refine go_put C dX0_close_40 (ws' := (bx_xw q cI σ3)) (by rw [z4]; exact (xp0_6 q cI (bx_up σ1 5 5 ((σ1.1 5 5) + (σ1.1 5 2))) (((bx_up σ1 5 5 ((σ1.1 5 5) + (σ1.1 5 2))).1 5 6) + ((bx_up σ1 5 5 ((σ1.1 5 5) + (σ1.1 5 2))).1 5 3)))) rfl inX0 tyX0_ok nmX0 (by decide) fl_X0_44 rfl (ty := .int) (by decide +kernel) (by rfl) (by rfl) (n := 43) rfl ?_
  refine go_aload_n C dX0_close_43 rfl 0 rfl (n := 44) rfl ?_
  refine go_dup C dX0_close_44 rfl (n := 45) rfl ?_
  refine go_get C dX0_close_45 (xf0_7 q cI σ3) rfl inX0 (by decide) fl_X0_47 (n := 48) rfl ?_
  refine go_aload_n C dX0_close_48 rfl 0 rfl (n := 49) rfl ?_
  obtain ⟨u5, e6, hm⟩ := bx_b hm
  refine go_callVi C dX0_close_49 mw_X0_allSwaps ml_X0_50 (rest := [.int (σ3.1 5 7), .ref (q 5)]) (ktX0_allSwaps e6) (xo0 q cI σ3) rfl (by decide) rfl rfl (Nat.le_of_ble_eq_true rfl) (n := 52) rfl ?_
  refine go_iadd C dX0_close_52 (n := 53) rfl ?_
  refine go_put C dX0_close_53 (xp0_7 q cI σ3 ((σ3.1 5 7) + u5)) rfl inX0 tyX0_ok nmX0 (by decide) fl_X0_47 rfl (ty := .int) (by decide +kernel) (by rfl) (by rfl) (n := 56) rfl ?_
  refine go_aload_n C dX0_close_56 rfl 0 rfl (n := 57) rfl ?_
  refine go_dup C dX0_close_57 rfl (n := 58) rfl ?_
  refine go_get C dX0_close_58 (xf0_8 q cI (bx_up σ3 5 7 ((σ3.1 5 7) + u5))) rfl inX0 (by decide) fl_X0_53 (n := 61) rfl ?_
  refine go_aload_n C dX0_close_61 rfl 0 rfl (n := 62) rfl ?_
  refine go_get C dX0_close_62 (xf0_4 q cI (bx_up σ3 5 7 ((σ3.1 5 7) + u5))) rfl inX0 (by decide) fl_X0_38 (n := 65) rfl ?_
  refine go_iadd C dX0_close_65 (n := 66) rfl ?_
  obtain ⟨σ7, z8, hm⟩ := bx_lt hm
  refine go_put C dX0_close_66 (ws' := (bx_xw q cI σ7)) (by rw [z8]; exact (xp0_8 q cI (bx_up σ3 5 7 ((σ3.1 5 7) + u5)) (((bx_up σ3 5 7 ((σ3.1 5 7) + u5)).1 5 8) + ((bx_up σ3 5 7 ((σ3.1 5 7) + u5)).1 5 4)))) rfl inX0 tyX0_ok nmX0 (by decide) fl_X0_53 rfl (ty := .int) (by decide +kernel) (by rfl) (by rfl) (n := 69) rfl ?_
  refine go_aload_n C dX0_close_69 rfl 0 rfl (n := 70) rfl ?_
  refine go_dup C dX0_close_70 rfl (n := 71) rfl ?_
  refine go_get C dX0_close_71 (xf0_9 q cI σ7) rfl inX0 (by decide) fl_X0_56 (n := 74) rfl ?_
  refine go_iconst C dX0_close_74 (v := (1 : Int32)) (by decide) (n := 75) rfl ?_
  refine go_iadd C dX0_close_75 (n := 76) rfl ?_
  refine go_put C dX0_close_76 (xp0_9 q cI σ7 ((σ7.1 5 9) + (1 : Int32))) rfl inX0 tyX0_ok nmX0 (by decide) fl_X0_56 rfl (ty := .int) (by decide +kernel) (by rfl) (by rfl) (n := 79) rfl ?_
  cases hm
  exact go_vret C dX0_close_79
def mX0_eventBegan (v1 : Int32) (σ : bx_St) : Option Int32 := (if bx_ok v1 66 then (if ((σ.1 6 v1.toNatClampNeg) &&& (1 : Int32)) = (1 : Int32) then (some (1 : Int32)) else (some (0 : Int32))) else none)
set_option maxRecDepth 8000 in
set_option maxHeartbeats 4000000 in
theorem ktX0_eventBegan {l : Launch} {D : va_G} {cI cZ : ClassId} {q : Nat → Nat} {v1 : Int32} {σ : bx_St} {u : Int32} (hm : mX0_eventBegan v1 σ = some u) : bx_Mt l D cI cZ yX0_eventBegan cX0_eventBegan 2 (some .boolean) 1 [.ref (q 5), .int v1] (bx_xw q cI σ) (some (.int u)) (bx_xw q cI σ) := by
  refine bx_mk (by decide) (Nat.le_of_ble_eq_true rfl) (lv := [(0, .ref (q 5)), (1, .int v1)]) rfl (fun p e s m args below meth c A C => ?_)
  replace C : bx_Cx p s m args meth c 2 A D cI cZ RX0 cX0_eventBegan (some .boolean) := C
  unfold mX0_eventBegan at hm
  refine go_aload_n C dX0_eventBegan_0 rfl 0 rfl (n := 1) rfl ?_
  refine go_get C dX0_eventBegan_1 (xf0_0 q cI σ) rfl inX0 (by decide) fl_X0_11 (n := 4) rfl ?_
  refine go_iload_n C dX0_eventBegan_4 rfl 1 rfl (n := 5) rfl ?_
  obtain ⟨b1, hm⟩ := bx_g hm
  refine go_iald C dX0_eventBegan_5 (xa_6 q cI σ) b1 (n := 6) rfl ?_
  refine go_iconst C dX0_eventBegan_6 (v := (1 : Int32)) (by decide) (n := 7) rfl ?_
  refine go_iand C dX0_eventBegan_7 (n := 8) rfl ?_
  refine go_iconst C dX0_eventBegan_8 (v := (1 : Int32)) (by decide) (n := 9) rfl ?_
  refine go_icmp_ne C 16 dX0_eventBegan_9 (by decide) (n := 12) rfl (fun c2 => ?_) (fun c2 => ?_)
  · have hm := bx_n c2 hm
    refine go_iconst C dX0_eventBegan_16 (v := (0 : Int32)) (by decide) (n := 17) rfl ?_
    cases hm
    exact go_zret C dX0_eventBegan_17 (Or.inl rfl)
  · have hm := bx_p c2 hm
    refine go_iconst C dX0_eventBegan_12 (v := (1 : Int32)) (by decide) (n := 13) rfl ?_
    refine go_goto C 17 dX0_eventBegan_13 (by decide) ?_
    cases hm
    exact go_zret C dX0_eventBegan_17 (Or.inr rfl)
def mX0_eventPair (v1 : Int32) (σ : bx_St) : Option Int32 := (if bx_ok v1 66 then (some ((σ.1 6 v1.toNatClampNeg) >>> ((1 : Int32) &&& 31))) else none)
set_option maxRecDepth 8000 in
set_option maxHeartbeats 4000000 in
theorem ktX0_eventPair {l : Launch} {D : va_G} {cI cZ : ClassId} {q : Nat → Nat} {v1 : Int32} {σ : bx_St} {u : Int32} (hm : mX0_eventPair v1 σ = some u) : bx_Mt l D cI cZ yX0_eventPair cX0_eventPair 2 (some .int) 1 [.ref (q 5), .int v1] (bx_xw q cI σ) (some (.int u)) (bx_xw q cI σ) := by
  refine bx_mk (by decide) (Nat.le_of_ble_eq_true rfl) (lv := [(0, .ref (q 5)), (1, .int v1)]) rfl (fun p e s m args below meth c A C => ?_)
  replace C : bx_Cx p s m args meth c 2 A D cI cZ RX0 cX0_eventPair (some .int) := C
  unfold mX0_eventPair at hm
  refine go_aload_n C dX0_eventPair_0 rfl 0 rfl (n := 1) rfl ?_
  refine go_get C dX0_eventPair_1 (xf0_0 q cI σ) rfl inX0 (by decide) fl_X0_11 (n := 4) rfl ?_
  refine go_iload_n C dX0_eventPair_4 rfl 1 rfl (n := 5) rfl ?_
  obtain ⟨b1, hm⟩ := bx_g hm
  refine go_iald C dX0_eventPair_5 (xa_6 q cI σ) b1 (n := 6) rfl ?_
  refine go_iconst C dX0_eventPair_6 (v := (1 : Int32)) (by decide) (n := 7) rfl ?_
  refine go_ishr C dX0_eventPair_7 (n := 8) rfl ?_
  cases hm
  exact go_iret C dX0_eventPair_8
def mX0_open_17 : Nat → Int32 → bx_St → Option bx_St
  | 0, _, _ => none
  | n + 1, v1, σ => (if (3 : Int32) ≤ v1 then (some σ) else (if bx_ok v1 3 then (mX0_open_17 n (v1 + 1) (bx_up σ 7 v1.toNatClampNeg (0 : Int32))) else none))
set_option maxRecDepth 8000 in
set_option maxHeartbeats 4000000 in
theorem mX0_open_17_ok (C : bx_Cx p s m args meth c 2 A D cI cZ RX0 cX0_open none) : ∀ (n : Nat) (v1 : Int32) (σ : bx_St) (u : bx_St), mX0_open_17 n v1 σ = some u → bx_Go p l e (bx_rm 1) s m args below meth c 2 A D (MQ below (bx_Q none (bx_xw q cI u) D A) args s 0 0 A) (bx_xw q cI σ) 17 [(0, .ref (q 5)), (1, .int v1)] [] := by
  intro n
  induction n with
  | zero =>
    intro v1 σ u hm
    cases hm
  | succ n ih =>
    intro v1 σ u hm
    rw [mX0_open_17] at hm
    refine go_iload_n C dX0_open_17 rfl 1 rfl (n := 18) rfl ?_
    refine go_iconst C dX0_open_18 (v := (3 : Int32)) (by decide) (n := 19) rfl ?_
    refine go_icmp_ge C 35 dX0_open_19 (by decide) (n := 22) rfl (fun c1 => ?_) (fun c1 => ?_)
    · have hm := bx_p c1 hm
      cases hm
      exact go_vret C dX0_open_35
    · have hm := bx_n c1 hm
      refine go_aload_n C dX0_open_22 rfl 0 rfl (n := 23) rfl ?_
      refine go_get C dX0_open_23 (xf0_1 q cI σ) rfl inX0 (by decide) fl_X0_15 (n := 26) rfl ?_
      refine go_iload_n C dX0_open_26 rfl 1 rfl (n := 27) rfl ?_
      refine go_iconst C dX0_open_27 (v := (0 : Int32)) (by decide) (n := 28) rfl ?_
      obtain ⟨b2, hm⟩ := bx_g hm
      refine go_iast C dX0_open_28 (xu_7 q cI σ v1 (0 : Int32)) b2 (n := 29) rfl ?_
      refine go_iinc C (j := 1) dX0_open_29 rfl (v := (v1 + 1)) rfl (by decide) (lv' := [(1, .int (v1 + 1)), (0, .ref (q 5))]) rfl (n := 32) rfl ?_
      refine go_goto C 17 dX0_open_32 (by decide) ?_
      refine go_lv (lv' := [(0, .ref (q 5)), (1, .int (v1 + 1))]) [1, 0] rfl ?_
      exact ih _ _ _ hm
def mX0_open (σ : bx_St) : Option bx_St := (bx_let (bx_up (bx_up σ 5 2 (0 : Int32)) 5 3 (0 : Int32)) fun σ1 => (mX0_open_17 bx_F (0 : Int32) (bx_up σ1 5 10 (0 : Int32))))
set_option maxRecDepth 8000 in
set_option maxHeartbeats 4000000 in
theorem ktX0_open {l : Launch} {D : va_G} {cI cZ : ClassId} {q : Nat → Nat} {σ : bx_St} {u : bx_St} (hm : mX0_open σ = some u) : bx_Mt l D cI cZ yX0_open cX0_open 2 none 1 [.ref (q 5)] (bx_xw q cI σ) none (bx_xw q cI u) := by
  refine bx_mk (by decide) (Nat.le_of_ble_eq_true rfl) (lv := [(0, .ref (q 5))]) rfl (fun p e s m args below meth c A C => ?_)
  replace C : bx_Cx p s m args meth c 2 A D cI cZ RX0 cX0_open none := C
  unfold mX0_open at hm
  refine go_aload_n C dX0_open_0 rfl 0 rfl (n := 1) rfl ?_
  refine go_iconst C dX0_open_1 (v := (0 : Int32)) (by decide) (n := 2) rfl ?_
  refine go_put C dX0_open_2 (xp0_2 q cI σ (0 : Int32)) rfl inX0 tyX0_ok nmX0 (by decide) fl_X0_18 rfl (ty := .int) (by decide +kernel) (by rfl) (by rfl) (n := 5) rfl ?_
  refine go_aload_n C dX0_open_5 rfl 0 rfl (n := 6) rfl ?_
  refine go_iconst C dX0_open_6 (v := (0 : Int32)) (by decide) (n := 7) rfl ?_
  obtain ⟨σ1, z2, hm⟩ := bx_lt hm
  refine go_put C dX0_open_7 (ws' := (bx_xw q cI σ1)) (by rw [z2]; exact (xp0_3 q cI (bx_up σ 5 2 (0 : Int32)) (0 : Int32))) rfl inX0 tyX0_ok nmX0 (by decide) fl_X0_22 rfl (ty := .int) (by decide +kernel) (by rfl) (by rfl) (n := 10) rfl ?_
  refine go_aload_n C dX0_open_10 rfl 0 rfl (n := 11) rfl ?_
  refine go_iconst C dX0_open_11 (v := (0 : Int32)) (by decide) (n := 12) rfl ?_
  refine go_put C dX0_open_12 (xp0_10 q cI σ1 (0 : Int32)) rfl inX0 tyX0_ok nmX0 (by decide) fl_X0_25 rfl (ty := .int) (by decide +kernel) (by rfl) (by rfl) (n := 15) rfl ?_
  refine go_iconst C dX0_open_15 (v := (0 : Int32)) (by decide) (n := 16) rfl ?_
  refine go_istore_n C dX0_open_16 rfl (by decide) (lv' := [(1, .int (0 : Int32)), (0, .ref (q 5))]) rfl (n := 17) rfl ?_
  refine go_lv (lv' := [(0, .ref (q 5)), (1, .int (0 : Int32))]) [1, 0] rfl ?_
  exact mX0_open_17_ok C _ _ _ _ hm
def mX1_spanMeets (k0 : Nat) (v1 : Int32) (v2 : Int32) (v3 : Int32) (σ : bx_St) : Option Int32 := (if (σ.1 k0 5) = 0 then (if bx_ok v1 12 then (if v3 ≤ (σ.1 (k0 + 1) v1.toNatClampNeg) then (some (0 : Int32)) else (if bx_ok v1 12 then (if (σ.1 (k0 + 2) v1.toNatClampNeg) ≤ v2 then (some (0 : Int32)) else (some (1 : Int32))) else none)) else none) else (if bx_ok v1 12 then (if v3 < (σ.1 (k0 + 1) v1.toNatClampNeg) then (some (0 : Int32)) else (if bx_ok v1 12 then (if (σ.1 (k0 + 2) v1.toNatClampNeg) < v2 then (some (0 : Int32)) else (some (1 : Int32))) else none)) else none))
set_option maxRecDepth 8000 in
set_option maxHeartbeats 4000000 in
theorem ktX1_spanMeets {l : Launch} {D : va_G} {cI cZ : ClassId} {q : Nat → Nat} {k0 : Nat} (hk0 : bx_isL k0) {v1 : Int32} {v2 : Int32} {v3 : Int32} {σ : bx_St} {u : Int32} (hm : mX1_spanMeets k0 v1 v2 v3 σ = some u) : bx_Mt l D cI cZ yX1_spanMeets cX1_spanMeets 4 (some .boolean) 1 [.ref (q k0), .int v1, .int v2, .int v3] (bx_xw q cI σ) (some (.int u)) (bx_xw q cI σ) := by
  refine bx_mk (by decide) (Nat.le_of_ble_eq_true rfl) (lv := [(0, .ref (q k0)), (1, .int v1), (2, .int v2), (3, .int v3)]) rfl (fun p e s m args below meth c A C => ?_)
  replace C : bx_Cx p s m args meth c 4 A D cI cZ RX1 cX1_spanMeets (some .boolean) := C
  unfold mX1_spanMeets at hm
  refine go_aload_n C dX1_spanMeets_0 rfl 0 rfl (n := 1) rfl ?_
  refine go_get C dX1_spanMeets_1 (xf1_5 q cI σ hk0) rfl inX1 (by decide) fl_X1_28 (n := 4) rfl ?_
  refine go_if_eq C 33 dX1_spanMeets_4 (by decide) (n := 7) rfl (fun c1 => ?_) (fun c1 => ?_)
  · have hm := bx_p c1 hm
    refine go_aload_n C dX1_spanMeets_33 rfl 0 rfl (n := 34) rfl ?_
    refine go_get C dX1_spanMeets_34 (xf1_0 q cI σ hk0) rfl inX1 (by decide) fl_X1_9 (n := 37) rfl ?_
    refine go_iload_n C dX1_spanMeets_37 rfl 1 rfl (n := 38) rfl ?_
    obtain ⟨b2, hm⟩ := bx_g hm
    refine go_iald C dX1_spanMeets_38 (xal_1 q cI σ hk0) b2 (n := 39) rfl ?_
    refine go_iload_n C dX1_spanMeets_39 rfl 3 rfl (n := 40) rfl ?_
    refine go_icmp_ge C 57 dX1_spanMeets_40 (by decide) (n := 43) rfl (fun c3 => ?_) (fun c3 => ?_)
    · have hm := bx_p c3 hm
      refine go_iconst C dX1_spanMeets_57 (v := (0 : Int32)) (by decide) (n := 58) rfl ?_
      cases hm
      exact go_zret C dX1_spanMeets_58 (Or.inl rfl)
    · have hm := bx_n c3 hm
      refine go_iload_n C dX1_spanMeets_43 rfl 2 rfl (n := 44) rfl ?_
      refine go_aload_n C dX1_spanMeets_44 rfl 0 rfl (n := 45) rfl ?_
      refine go_get C dX1_spanMeets_45 (xf1_1 q cI σ hk0) rfl inX1 (by decide) fl_X1_15 (n := 48) rfl ?_
      refine go_iload_n C dX1_spanMeets_48 rfl 1 rfl (n := 49) rfl ?_
      obtain ⟨b4, hm⟩ := bx_g hm
      refine go_iald C dX1_spanMeets_49 (xal_2 q cI σ hk0) b4 (n := 50) rfl ?_
      refine go_icmp_ge C 57 dX1_spanMeets_50 (by decide) (n := 53) rfl (fun c5 => ?_) (fun c5 => ?_)
      · have hm := bx_p c5 hm
        refine go_iconst C dX1_spanMeets_57 (v := (0 : Int32)) (by decide) (n := 58) rfl ?_
        cases hm
        exact go_zret C dX1_spanMeets_58 (Or.inl rfl)
      · have hm := bx_n c5 hm
        refine go_iconst C dX1_spanMeets_53 (v := (1 : Int32)) (by decide) (n := 54) rfl ?_
        refine go_goto C 58 dX1_spanMeets_54 (by decide) ?_
        cases hm
        exact go_zret C dX1_spanMeets_58 (Or.inr rfl)
  · have hm := bx_n c1 hm
    refine go_aload_n C dX1_spanMeets_7 rfl 0 rfl (n := 8) rfl ?_
    refine go_get C dX1_spanMeets_8 (xf1_0 q cI σ hk0) rfl inX1 (by decide) fl_X1_9 (n := 11) rfl ?_
    refine go_iload_n C dX1_spanMeets_11 rfl 1 rfl (n := 12) rfl ?_
    obtain ⟨b6, hm⟩ := bx_g hm
    refine go_iald C dX1_spanMeets_12 (xal_1 q cI σ hk0) b6 (n := 13) rfl ?_
    refine go_iload_n C dX1_spanMeets_13 rfl 3 rfl (n := 14) rfl ?_
    refine go_icmp_gt C 31 dX1_spanMeets_14 (by decide) (n := 17) rfl (fun c7 => ?_) (fun c7 => ?_)
    · have hm := bx_p c7 hm
      refine go_iconst C dX1_spanMeets_31 (v := (0 : Int32)) (by decide) (n := 32) rfl ?_
      cases hm
      exact go_zret C dX1_spanMeets_32 (Or.inl rfl)
    · have hm := bx_n c7 hm
      refine go_iload_n C dX1_spanMeets_17 rfl 2 rfl (n := 18) rfl ?_
      refine go_aload_n C dX1_spanMeets_18 rfl 0 rfl (n := 19) rfl ?_
      refine go_get C dX1_spanMeets_19 (xf1_1 q cI σ hk0) rfl inX1 (by decide) fl_X1_15 (n := 22) rfl ?_
      refine go_iload_n C dX1_spanMeets_22 rfl 1 rfl (n := 23) rfl ?_
      obtain ⟨b8, hm⟩ := bx_g hm
      refine go_iald C dX1_spanMeets_23 (xal_2 q cI σ hk0) b8 (n := 24) rfl ?_
      refine go_icmp_gt C 31 dX1_spanMeets_24 (by decide) (n := 27) rfl (fun c9 => ?_) (fun c9 => ?_)
      · have hm := bx_p c9 hm
        refine go_iconst C dX1_spanMeets_31 (v := (0 : Int32)) (by decide) (n := 32) rfl ?_
        cases hm
        exact go_zret C dX1_spanMeets_32 (Or.inl rfl)
      · have hm := bx_n c9 hm
        refine go_iconst C dX1_spanMeets_27 (v := (1 : Int32)) (by decide) (n := 28) rfl ?_
        refine go_goto C 32 dX1_spanMeets_28 (by decide) ?_
        cases hm
        exact go_zret C dX1_spanMeets_32 (Or.inr rfl)
def mX3_bit (v0 : Int32) : Int32 := ((1 : Int32) <<< (v0 &&& 31))
set_option maxRecDepth 8000 in
set_option maxHeartbeats 4000000 in
theorem ktX3_bit {l : Launch} {D : va_G} {cI cZ : ClassId} {ws : va_W} {v0 : Int32} {u : Int32} (hm : mX3_bit v0 = u) : bx_Mt l D cI cZ yX3_bit cX3_bit 1 (some .int) 1 [.int v0] ws (some (.int u)) ws := by
  refine bx_mk (by decide) (Nat.le_of_ble_eq_true rfl) (lv := [(0, .int v0)]) rfl (fun p e s m args below meth c A C => ?_)
  replace C : bx_Cx p s m args meth c 1 A D cI cZ RX3 cX3_bit (some .int) := C
  unfold mX3_bit at hm
  refine go_iconst C dX3_bit_0 (v := (1 : Int32)) (by decide) (n := 1) rfl ?_
  refine go_iload_n C dX3_bit_1 rfl 0 rfl (n := 2) rfl ?_
  refine go_ishl C dX3_bit_2 (n := 3) rfl ?_
  subst hm
  exact go_iret C dX3_bit_3
def mX3_holds (v0 : Int32) (v1 : Int32) : Int32 := (if (v0 &&& (mX3_bit v1)) = 0 then (0 : Int32) else (1 : Int32))
set_option maxRecDepth 8000 in
set_option maxHeartbeats 4000000 in
theorem ktX3_holds {l : Launch} {D : va_G} {cI cZ : ClassId} {ws : va_W} {v0 : Int32} {v1 : Int32} {u : Int32} (hm : mX3_holds v0 v1 = u) : bx_Mt l D cI cZ yX3_holds cX3_holds 2 (some .boolean) 2 [.int v0, .int v1] ws (some (.int u)) ws := by
  refine bx_mk (by decide) (Nat.le_of_ble_eq_true rfl) (lv := [(0, .int v0), (1, .int v1)]) rfl (fun p e s m args below meth c A C => ?_)
  replace C : bx_Cx p s m args meth c 2 A D cI cZ RX3 cX3_holds (some .boolean) := C
  unfold mX3_holds at hm
  refine go_iload_n C dX3_holds_0 rfl 0 rfl (n := 1) rfl ?_
  refine go_iload_n C dX3_holds_1 rfl 1 rfl (n := 2) rfl ?_
  refine go_callSi C dX3_holds_2 mw_X3_bit ml_X3_193 (rest := [.int v0]) (ktX3_bit rfl) (by decide) rfl rfl (Nat.le_of_ble_eq_true rfl) (n := 5) rfl ?_
  refine go_iand C dX3_holds_5 (n := 6) rfl ?_
  refine go_if_eq C 13 dX3_holds_6 (by decide) (n := 9) rfl (fun c1 => ?_) (fun c1 => ?_)
  · have hm := bx_p c1 hm
    refine go_iconst C dX3_holds_13 (v := (0 : Int32)) (by decide) (n := 14) rfl ?_
    subst hm
    exact go_zret C dX3_holds_14 (Or.inl rfl)
  · have hm := bx_n c1 hm
    refine go_iconst C dX3_holds_9 (v := (1 : Int32)) (by decide) (n := 10) rfl ?_
    refine go_goto C 14 dX3_holds_10 (by decide) ?_
    subst hm
    exact go_zret C dX3_holds_14 (Or.inr rfl)
def mX1_findMeets_54 (k0 : Nat) (K2 : Int32 → Int32 → Int32 → bx_St → Option bx_St) (v1 : Int32) (v2 : Int32) (v3 : Int32) (σ : bx_St) : Option bx_St := (K2 v1 v2 (v3 + 1) σ)
set_option maxRecDepth 8000 in
set_option maxHeartbeats 4000000 in
theorem mX1_findMeets_54_ok (C : bx_Cx p s m args meth c 4 A D cI cZ RX1 cX1_findMeets none) {k0 : Nat} (hk0 : bx_isL k0) (K2 : Int32 → Int32 → Int32 → bx_St → Option bx_St) (HK2 : ∀ (v1 : Int32) (v2 : Int32) (v3 : Int32) (σ : bx_St) (u : bx_St), K2 v1 v2 v3 σ = some u → bx_Go p l e (bx_rm 3) s m args below meth c 4 A D (MQ below (bx_Q none (bx_xw q cI u) D A) args s 0 0 A) (bx_xw q cI σ) 2 [(0, .ref (q k0)), (1, .int v1), (2, .int v2), (3, .int v3)] []) : ∀ (v1 : Int32) (v2 : Int32) (v3 : Int32) (σ : bx_St) (u : bx_St), mX1_findMeets_54 k0 K2 v1 v2 v3 σ = some u → bx_Go p l e (bx_rm 3) s m args below meth c 4 A D (MQ below (bx_Q none (bx_xw q cI u) D A) args s 0 0 A) (bx_xw q cI σ) 54 [(0, .ref (q k0)), (1, .int v1), (2, .int v2), (3, .int v3)] [] := by
  intro v1 v2 v3 σ u hm
  unfold mX1_findMeets_54 at hm
  refine go_iinc C (j := 3) dX1_findMeets_54 rfl (v := (v3 + 1)) rfl (by decide) (lv' := [(3, .int (v3 + 1)), (0, .ref (q k0)), (1, .int v1), (2, .int v2)]) rfl (n := 57) rfl ?_
  refine go_goto C 2 dX1_findMeets_57 (by decide) ?_
  refine go_lv (lv' := [(0, .ref (q k0)), (1, .int v1), (2, .int v2), (3, .int (v3 + 1))]) [1, 2, 3, 0] rfl ?_
  exact HK2 _ _ _ _ _ hm
def mX1_findMeets_2 (k0 : Nat) : Nat → Int32 → Int32 → Int32 → bx_St → Option bx_St
  | 0, _, _, _, _ => none
  | n + 1, v1, v2, v3, σ => (if (12 : Int32) ≤ v3 then (some σ) else (if v3 = v2 then (mX1_findMeets_54 k0 (mX1_findMeets_2 k0 n) v1 v2 v3 σ) else (if (mX3_holds v1 v3) = 0 then (mX1_findMeets_54 k0 (mX1_findMeets_2 k0 n) v1 v2 v3 σ) else (if bx_ok v3 12 then (if bx_ok v3 12 then (Option.bind (mX1_spanMeets k0 v2 (σ.1 (k0 + 1) v3.toNatClampNeg) (σ.1 (k0 + 2) v3.toNatClampNeg) σ) fun u6 => (if u6 = 0 then (mX1_findMeets_54 k0 (mX1_findMeets_2 k0 n) v1 v2 v3 σ) else (if bx_ok v2 12 then (if bx_ok v2 12 then (bx_let (bx_up σ (k0 + 4) v2.toNatClampNeg ((σ.1 (k0 + 4) v2.toNatClampNeg) ||| (mX3_bit v3))) fun σ11 => (mX1_findMeets_54 k0 (mX1_findMeets_2 k0 n) v1 v2 v3 σ11)) else none) else none))) else none) else none))))
set_option maxRecDepth 8000 in
set_option maxHeartbeats 4000000 in
theorem mX1_findMeets_2_ok (C : bx_Cx p s m args meth c 4 A D cI cZ RX1 cX1_findMeets none) {k0 : Nat} (hk0 : bx_isL k0) : ∀ (n : Nat) (v1 : Int32) (v2 : Int32) (v3 : Int32) (σ : bx_St) (u : bx_St), mX1_findMeets_2 k0 n v1 v2 v3 σ = some u → bx_Go p l e (bx_rm 3) s m args below meth c 4 A D (MQ below (bx_Q none (bx_xw q cI u) D A) args s 0 0 A) (bx_xw q cI σ) 2 [(0, .ref (q k0)), (1, .int v1), (2, .int v2), (3, .int v3)] [] := by
  intro n
  induction n with
  | zero =>
    intro v1 v2 v3 σ u hm
    cases hm
  | succ n ih =>
    intro v1 v2 v3 σ u hm
    rw [mX1_findMeets_2] at hm
    refine go_iload_n C dX1_findMeets_2 rfl 3 rfl (n := 3) rfl ?_
    refine go_bipush C dX1_findMeets_3 (v := (12 : Int32)) (by decide) (n := 5) rfl ?_
    refine go_icmp_ge C 60 dX1_findMeets_5 (by decide) (n := 8) rfl (fun c1 => ?_) (fun c1 => ?_)
    · have hm := bx_p c1 hm
      cases hm
      exact go_vret C dX1_findMeets_60
    · have hm := bx_n c1 hm
      refine go_iload_n C dX1_findMeets_8 rfl 3 rfl (n := 9) rfl ?_
      refine go_iload_n C dX1_findMeets_9 rfl 2 rfl (n := 10) rfl ?_
      refine go_icmp_eq C 54 dX1_findMeets_10 (by decide) (n := 13) rfl (fun c2 => ?_) (fun c2 => ?_)
      · have hm := bx_p c2 hm
        refine go_lv (lv' := [(0, .ref (q k0)), (1, .int v1), (2, .int v2), (3, .int v3)]) [0, 1, 2, 3] rfl ?_
        exact mX1_findMeets_54_ok C hk0 _ ih _ _ _ _ _ hm
      · have hm := bx_n c2 hm
        refine go_iload_n C dX1_findMeets_13 rfl 1 rfl (n := 14) rfl ?_
        refine go_iload_n C dX1_findMeets_14 rfl 3 rfl (n := 15) rfl ?_
        refine go_callNi C dX1_findMeets_15 mw_X3_holds (fun h => h.1) (rest := []) (ktX3_holds rfl) (by decide) rfl rfl (Nat.le_of_ble_eq_true rfl) (n := 18) rfl ?_
        refine go_if_eq C 54 dX1_findMeets_18 (by decide) (n := 21) rfl (fun c3 => ?_) (fun c3 => ?_)
        · have hm := bx_p c3 hm
          refine go_lv (lv' := [(0, .ref (q k0)), (1, .int v1), (2, .int v2), (3, .int v3)]) [0, 1, 2, 3] rfl ?_
          exact mX1_findMeets_54_ok C hk0 _ ih _ _ _ _ _ hm
        · have hm := bx_n c3 hm
          refine go_aload_n C dX1_findMeets_21 rfl 0 rfl (n := 22) rfl ?_
          refine go_iload_n C dX1_findMeets_22 rfl 2 rfl (n := 23) rfl ?_
          refine go_aload_n C dX1_findMeets_23 rfl 0 rfl (n := 24) rfl ?_
          refine go_get C dX1_findMeets_24 (xf1_0 q cI σ hk0) rfl inX1 (by decide) fl_X1_9 (n := 27) rfl ?_
          refine go_iload_n C dX1_findMeets_27 rfl 3 rfl (n := 28) rfl ?_
          obtain ⟨b4, hm⟩ := bx_g hm
          refine go_iald C dX1_findMeets_28 (xal_1 q cI σ hk0) b4 (n := 29) rfl ?_
          refine go_aload_n C dX1_findMeets_29 rfl 0 rfl (n := 30) rfl ?_
          refine go_get C dX1_findMeets_30 (xf1_1 q cI σ hk0) rfl inX1 (by decide) fl_X1_15 (n := 33) rfl ?_
          refine go_iload_n C dX1_findMeets_33 rfl 3 rfl (n := 34) rfl ?_
          obtain ⟨b5, hm⟩ := bx_g hm
          refine go_iald C dX1_findMeets_34 (xal_2 q cI σ hk0) b5 (n := 35) rfl ?_
          obtain ⟨u6, e7, hm⟩ := bx_b hm
          refine go_callVi C dX1_findMeets_35 mw_X1_spanMeets ml_X1_68 (rest := []) (ktX1_spanMeets hk0 e7) (xo1 q cI σ hk0) rfl (by decide) rfl rfl (Nat.le_of_ble_eq_true rfl) (n := 38) rfl ?_
          refine go_if_eq C 54 dX1_findMeets_38 (by decide) (n := 41) rfl (fun c8 => ?_) (fun c8 => ?_)
          · have hm := bx_p c8 hm
            refine go_lv (lv' := [(0, .ref (q k0)), (1, .int v1), (2, .int v2), (3, .int v3)]) [0, 1, 2, 3] rfl ?_
            exact mX1_findMeets_54_ok C hk0 _ ih _ _ _ _ _ hm
          · have hm := bx_n c8 hm
            refine go_aload_n C dX1_findMeets_41 rfl 0 rfl (n := 42) rfl ?_
            refine go_get C dX1_findMeets_42 (xf1_3 q cI σ hk0) rfl inX1 (by decide) fl_X1_21 (n := 45) rfl ?_
            refine go_iload_n C dX1_findMeets_45 rfl 2 rfl (n := 46) rfl ?_
            refine go_dup2_11 C dX1_findMeets_46 rfl rfl (n := 47) rfl ?_
            obtain ⟨b9, hm⟩ := bx_g hm
            refine go_iald C dX1_findMeets_47 (xal_4 q cI σ hk0) b9 (n := 48) rfl ?_
            refine go_iload_n C dX1_findMeets_48 rfl 3 rfl (n := 49) rfl ?_
            refine go_callNi C dX1_findMeets_49 mw_X3_bit (fun h => h.2) (rest := [.int (σ.1 (k0 + 4) v2.toNatClampNeg), .int v2, .ref (q (k0 + 4))]) (ktX3_bit rfl) (by decide) rfl rfl (Nat.le_of_ble_eq_true rfl) (n := 52) rfl ?_
            refine go_ior C dX1_findMeets_52 (n := 53) rfl ?_
            obtain ⟨b10, hm⟩ := bx_g hm
            obtain ⟨σ11, z12, hm⟩ := bx_lt hm
            refine go_iast C dX1_findMeets_53 (ws' := (bx_xw q cI σ11)) (by rw [z12]; exact (xul_4 q cI σ hk0 v2 ((σ.1 (k0 + 4) v2.toNatClampNeg) ||| (mX3_bit v3)))) b10 (n := 54) rfl ?_
            refine go_lv (lv' := [(0, .ref (q k0)), (1, .int v1), (2, .int v2), (3, .int v3)]) [0, 1, 2, 3] rfl ?_
            exact mX1_findMeets_54_ok C hk0 _ ih _ _ _ _ _ hm
def mX1_findMeets (k0 : Nat) (v1 : Int32) (v2 : Int32) (σ : bx_St) : Option bx_St := (mX1_findMeets_2 k0 bx_F v1 v2 (0 : Int32) σ)
set_option maxRecDepth 8000 in
set_option maxHeartbeats 4000000 in
theorem ktX1_findMeets {l : Launch} {D : va_G} {cI cZ : ClassId} {q : Nat → Nat} {k0 : Nat} (hk0 : bx_isL k0) {v1 : Int32} {v2 : Int32} {σ : bx_St} {u : bx_St} (hm : mX1_findMeets k0 v1 v2 σ = some u) : bx_Mt l D cI cZ yX1_findMeets cX1_findMeets 4 none 3 [.ref (q k0), .int v1, .int v2] (bx_xw q cI σ) none (bx_xw q cI u) := by
  refine bx_mk (by decide) (Nat.le_of_ble_eq_true rfl) (lv := [(0, .ref (q k0)), (1, .int v1), (2, .int v2)]) rfl (fun p e s m args below meth c A C => ?_)
  replace C : bx_Cx p s m args meth c 4 A D cI cZ RX1 cX1_findMeets none := C
  unfold mX1_findMeets at hm
  refine go_iconst C dX1_findMeets_0 (v := (0 : Int32)) (by decide) (n := 1) rfl ?_
  refine go_istore_n C dX1_findMeets_1 rfl (by decide) (lv' := [(3, .int (0 : Int32)), (0, .ref (q k0)), (1, .int v1), (2, .int v2)]) rfl (n := 2) rfl ?_
  refine go_lv (lv' := [(0, .ref (q k0)), (1, .int v1), (2, .int v2), (3, .int (0 : Int32))]) [1, 2, 3, 0] rfl ?_
  exact mX1_findMeets_2_ok C hk0 _ _ _ _ _ _ hm
def mX1_highEnd (v0 : Int32) : Int32 := (((2 : Int32) * v0) + (1 : Int32))
set_option maxRecDepth 8000 in
set_option maxHeartbeats 4000000 in
theorem ktX1_highEnd {l : Launch} {D : va_G} {cI cZ : ClassId} {ws : va_W} {v0 : Int32} {u : Int32} (hm : mX1_highEnd v0 = u) : bx_Mt l D cI cZ yX1_highEnd cX1_highEnd 1 (some .int) 1 [.int v0] ws (some (.int u)) ws := by
  refine bx_mk (by decide) (Nat.le_of_ble_eq_true rfl) (lv := [(0, .int v0)]) rfl (fun p e s m args below meth c A C => ?_)
  replace C : bx_Cx p s m args meth c 1 A D cI cZ RX1 cX1_highEnd (some .int) := C
  unfold mX1_highEnd at hm
  refine go_iconst C dX1_highEnd_0 (v := (2 : Int32)) (by decide) (n := 1) rfl ?_
  refine go_iload_n C dX1_highEnd_1 rfl 0 rfl (n := 2) rfl ?_
  refine go_imul C dX1_highEnd_2 (n := 3) rfl ?_
  refine go_iconst C dX1_highEnd_3 (v := (1 : Int32)) (by decide) (n := 4) rfl ?_
  refine go_iadd C dX1_highEnd_4 (n := 5) rfl ?_
  subst hm
  exact go_iret C dX1_highEnd_5
def mX1_boxOf (v0 : Int32) : Int32 := (v0 >>> ((1 : Int32) &&& 31))
set_option maxRecDepth 8000 in
set_option maxHeartbeats 4000000 in
theorem ktX1_boxOf {l : Launch} {D : va_G} {cI cZ : ClassId} {ws : va_W} {v0 : Int32} {u : Int32} (hm : mX1_boxOf v0 = u) : bx_Mt l D cI cZ yX1_boxOf cX1_boxOf 1 (some .int) 1 [.int v0] ws (some (.int u)) ws := by
  refine bx_mk (by decide) (Nat.le_of_ble_eq_true rfl) (lv := [(0, .int v0)]) rfl (fun p e s m args below meth c A C => ?_)
  replace C : bx_Cx p s m args meth c 1 A D cI cZ RX1 cX1_boxOf (some .int) := C
  unfold mX1_boxOf at hm
  refine go_iload_n C dX1_boxOf_0 rfl 0 rfl (n := 1) rfl ?_
  refine go_iconst C dX1_boxOf_1 (v := (1 : Int32)) (by decide) (n := 2) rfl ?_
  refine go_ishr C dX1_boxOf_2 (n := 3) rfl ?_
  subst hm
  exact go_iret C dX1_boxOf_3
def mX1_isHigh (v0 : Int32) : Int32 := (if (v0 &&& (1 : Int32)) = (1 : Int32) then (1 : Int32) else (0 : Int32))
set_option maxRecDepth 8000 in
set_option maxHeartbeats 4000000 in
theorem ktX1_isHigh {l : Launch} {D : va_G} {cI cZ : ClassId} {ws : va_W} {v0 : Int32} {u : Int32} (hm : mX1_isHigh v0 = u) : bx_Mt l D cI cZ yX1_isHigh cX1_isHigh 1 (some .boolean) 1 [.int v0] ws (some (.int u)) ws := by
  refine bx_mk (by decide) (Nat.le_of_ble_eq_true rfl) (lv := [(0, .int v0)]) rfl (fun p e s m args below meth c A C => ?_)
  replace C : bx_Cx p s m args meth c 1 A D cI cZ RX1 cX1_isHigh (some .boolean) := C
  unfold mX1_isHigh at hm
  refine go_iload_n C dX1_isHigh_0 rfl 0 rfl (n := 1) rfl ?_
  refine go_iconst C dX1_isHigh_1 (v := (1 : Int32)) (by decide) (n := 2) rfl ?_
  refine go_iand C dX1_isHigh_2 (n := 3) rfl ?_
  refine go_iconst C dX1_isHigh_3 (v := (1 : Int32)) (by decide) (n := 4) rfl ?_
  refine go_icmp_ne C 11 dX1_isHigh_4 (by decide) (n := 7) rfl (fun c1 => ?_) (fun c1 => ?_)
  · have hm := bx_n c1 hm
    refine go_iconst C dX1_isHigh_11 (v := (0 : Int32)) (by decide) (n := 12) rfl ?_
    subst hm
    exact go_zret C dX1_isHigh_12 (Or.inl rfl)
  · have hm := bx_p c1 hm
    refine go_iconst C dX1_isHigh_7 (v := (1 : Int32)) (by decide) (n := 8) rfl ?_
    refine go_goto C 12 dX1_isHigh_8 (by decide) ?_
    subst hm
    exact go_zret C dX1_isHigh_12 (Or.inr rfl)
def mX1_valueOf (k0 : Nat) (v1 : Int32) (σ : bx_St) : Option Int32 := (if (mX1_isHigh v1) = 0 then (if bx_ok (mX1_boxOf v1) 12 then (some (σ.1 (k0 + 1) (mX1_boxOf v1).toNatClampNeg)) else none) else (if bx_ok (mX1_boxOf v1) 12 then (some (σ.1 (k0 + 2) (mX1_boxOf v1).toNatClampNeg)) else none))
set_option maxRecDepth 8000 in
set_option maxHeartbeats 4000000 in
theorem ktX1_valueOf {l : Launch} {D : va_G} {cI cZ : ClassId} {q : Nat → Nat} {k0 : Nat} (hk0 : bx_isL k0) {v1 : Int32} {σ : bx_St} {u : Int32} (hm : mX1_valueOf k0 v1 σ = some u) : bx_Mt l D cI cZ yX1_valueOf cX1_valueOf 2 (some .int) 2 [.ref (q k0), .int v1] (bx_xw q cI σ) (some (.int u)) (bx_xw q cI σ) := by
  refine bx_mk (by decide) (Nat.le_of_ble_eq_true rfl) (lv := [(0, .ref (q k0)), (1, .int v1)]) rfl (fun p e s m args below meth c A C => ?_)
  replace C : bx_Cx p s m args meth c 2 A D cI cZ RX1 cX1_valueOf (some .int) := C
  unfold mX1_valueOf at hm
  refine go_iload_n C dX1_valueOf_0 rfl 1 rfl (n := 1) rfl ?_
  refine go_callSi C dX1_valueOf_1 mw_X1_isHigh ml_X1_32 (rest := []) (ktX1_isHigh rfl) (by decide) rfl rfl (Nat.le_of_ble_eq_true rfl) (n := 4) rfl ?_
  refine go_if_eq C 19 dX1_valueOf_4 (by decide) (n := 7) rfl (fun c1 => ?_) (fun c1 => ?_)
  · have hm := bx_p c1 hm
    refine go_aload_n C dX1_valueOf_19 rfl 0 rfl (n := 20) rfl ?_
    refine go_get C dX1_valueOf_20 (xf1_0 q cI σ hk0) rfl inX1 (by decide) fl_X1_9 (n := 23) rfl ?_
    refine go_iload_n C dX1_valueOf_23 rfl 1 rfl (n := 24) rfl ?_
    refine go_callSi C dX1_valueOf_24 mw_X1_boxOf ml_X1_36 (rest := [.ref (q (k0 + 1))]) (ktX1_boxOf rfl) (by decide) rfl rfl (Nat.le_of_ble_eq_true rfl) (n := 27) rfl ?_
    obtain ⟨b2, hm⟩ := bx_g hm
    refine go_iald C dX1_valueOf_27 (xal_1 q cI σ hk0) b2 (n := 28) rfl ?_
    cases hm
    exact go_iret C dX1_valueOf_28
  · have hm := bx_n c1 hm
    refine go_aload_n C dX1_valueOf_7 rfl 0 rfl (n := 8) rfl ?_
    refine go_get C dX1_valueOf_8 (xf1_1 q cI σ hk0) rfl inX1 (by decide) fl_X1_15 (n := 11) rfl ?_
    refine go_iload_n C dX1_valueOf_11 rfl 1 rfl (n := 12) rfl ?_
    refine go_callSi C dX1_valueOf_12 mw_X1_boxOf ml_X1_36 (rest := [.ref (q (k0 + 2))]) (ktX1_boxOf rfl) (by decide) rfl rfl (Nat.le_of_ble_eq_true rfl) (n := 15) rfl ?_
    obtain ⟨b3, hm⟩ := bx_g hm
    refine go_iald C dX1_valueOf_15 (xal_2 q cI σ hk0) b3 (n := 16) rfl ?_
    refine go_goto C 28 dX1_valueOf_16 (by decide) ?_
    cases hm
    exact go_iret C dX1_valueOf_28
def mX1_isAhead (k0 : Nat) (v1 : Int32) (v2 : Int32) (σ : bx_St) : Option Int32 := (Option.bind (mX1_valueOf k0 v1 σ) fun u1 => (Option.bind (mX1_valueOf k0 v2 σ) fun u3 => (if u1 = u3 then (if (mX1_isHigh v1) = (mX1_isHigh v2) then (if (mX1_boxOf v2) ≤ (mX1_boxOf v1) then (some (0 : Int32)) else (some (1 : Int32))) else (if (mX1_isHigh v1) = (σ.1 k0 5) then (some (0 : Int32)) else (some (1 : Int32)))) else (if u3 ≤ u1 then (some (0 : Int32)) else (some (1 : Int32))))))
set_option maxRecDepth 8000 in
set_option maxHeartbeats 4000000 in
theorem ktX1_isAhead {l : Launch} {D : va_G} {cI cZ : ClassId} {q : Nat → Nat} {k0 : Nat} (hk0 : bx_isL k0) {v1 : Int32} {v2 : Int32} {σ : bx_St} {u : Int32} (hm : mX1_isAhead k0 v1 v2 σ = some u) : bx_Mt l D cI cZ yX1_isAhead cX1_isAhead 5 (some .boolean) 3 [.ref (q k0), .int v1, .int v2] (bx_xw q cI σ) (some (.int u)) (bx_xw q cI σ) := by
  refine bx_mk (by decide) (Nat.le_of_ble_eq_true rfl) (lv := [(0, .ref (q k0)), (1, .int v1), (2, .int v2)]) rfl (fun p e s m args below meth c A C => ?_)
  replace C : bx_Cx p s m args meth c 5 A D cI cZ RX1 cX1_isAhead (some .boolean) := C
  unfold mX1_isAhead at hm
  refine go_aload_n C dX1_isAhead_0 rfl 0 rfl (n := 1) rfl ?_
  refine go_iload_n C dX1_isAhead_1 rfl 1 rfl (n := 2) rfl ?_
  obtain ⟨u1, e2, hm⟩ := bx_b hm
  refine go_callVi C dX1_isAhead_2 mw_X1_valueOf ml_X1_40 (rest := []) (ktX1_valueOf hk0 e2) (xo1 q cI σ hk0) rfl (by decide) rfl rfl (Nat.le_of_ble_eq_true rfl) (n := 5) rfl ?_
  refine go_istore_n C dX1_isAhead_5 rfl (by decide) (lv' := [(3, .int u1), (0, .ref (q k0)), (1, .int v1), (2, .int v2)]) rfl (n := 6) rfl ?_
  refine go_aload_n C dX1_isAhead_6 rfl 1 rfl (n := 7) rfl ?_
  refine go_iload_n C dX1_isAhead_7 rfl 3 rfl (n := 8) rfl ?_
  obtain ⟨u3, e4, hm⟩ := bx_b hm
  refine go_callVi C dX1_isAhead_8 mw_X1_valueOf ml_X1_40 (rest := []) (ktX1_valueOf hk0 e4) (xo1 q cI σ hk0) rfl (by decide) rfl rfl (Nat.le_of_ble_eq_true rfl) (n := 11) rfl ?_
  refine go_istore C dX1_isAhead_11 (by decide) (lv' := [(4, .int u3), (3, .int u1), (0, .ref (q k0)), (1, .int v1), (2, .int v2)]) rfl (n := 13) rfl ?_
  refine go_iload_n C dX1_isAhead_13 rfl 1 rfl (n := 14) rfl ?_
  refine go_iload C dX1_isAhead_14 0 rfl (n := 16) rfl ?_
  refine go_icmp_eq C 31 dX1_isAhead_16 (by decide) (n := 19) rfl (fun c5 => ?_) (fun c5 => ?_)
  · have hm := bx_p c5 hm
    refine go_iload_n C dX1_isAhead_31 rfl 3 rfl (n := 32) rfl ?_
    refine go_callSi C dX1_isAhead_32 mw_X1_isHigh ml_X1_32 (rest := []) (ktX1_isHigh rfl) (by decide) rfl rfl (Nat.le_of_ble_eq_true rfl) (n := 35) rfl ?_
    refine go_iload_n C dX1_isAhead_35 rfl 4 rfl (n := 36) rfl ?_
    refine go_callSi C dX1_isAhead_36 mw_X1_isHigh ml_X1_32 (rest := [.int (mX1_isHigh v1)]) (ktX1_isHigh rfl) (by decide) rfl rfl (Nat.le_of_ble_eq_true rfl) (n := 39) rfl ?_
    refine go_icmp_eq C 59 dX1_isAhead_39 (by decide) (n := 42) rfl (fun c6 => ?_) (fun c6 => ?_)
    · have hm := bx_p c6 hm
      refine go_iload_n C dX1_isAhead_59 rfl 3 rfl (n := 60) rfl ?_
      refine go_callSi C dX1_isAhead_60 mw_X1_boxOf ml_X1_36 (rest := []) (ktX1_boxOf rfl) (by decide) rfl rfl (Nat.le_of_ble_eq_true rfl) (n := 63) rfl ?_
      refine go_iload_n C dX1_isAhead_63 rfl 4 rfl (n := 64) rfl ?_
      refine go_callSi C dX1_isAhead_64 mw_X1_boxOf ml_X1_36 (rest := [.int (mX1_boxOf v1)]) (ktX1_boxOf rfl) (by decide) rfl rfl (Nat.le_of_ble_eq_true rfl) (n := 67) rfl ?_
      refine go_icmp_ge C 74 dX1_isAhead_67 (by decide) (n := 70) rfl (fun c7 => ?_) (fun c7 => ?_)
      · have hm := bx_p c7 hm
        refine go_iconst C dX1_isAhead_74 (v := (0 : Int32)) (by decide) (n := 75) rfl ?_
        cases hm
        exact go_zret C dX1_isAhead_75 (Or.inl rfl)
      · have hm := bx_n c7 hm
        refine go_iconst C dX1_isAhead_70 (v := (1 : Int32)) (by decide) (n := 71) rfl ?_
        refine go_goto C 75 dX1_isAhead_71 (by decide) ?_
        cases hm
        exact go_zret C dX1_isAhead_75 (Or.inr rfl)
    · have hm := bx_n c6 hm
      refine go_iload_n C dX1_isAhead_42 rfl 3 rfl (n := 43) rfl ?_
      refine go_callSi C dX1_isAhead_43 mw_X1_isHigh ml_X1_32 (rest := []) (ktX1_isHigh rfl) (by decide) rfl rfl (Nat.le_of_ble_eq_true rfl) (n := 46) rfl ?_
      refine go_aload_n C dX1_isAhead_46 rfl 2 rfl (n := 47) rfl ?_
      refine go_get C dX1_isAhead_47 (xf1_5 q cI σ hk0) rfl inX1 (by decide) fl_X1_28 (n := 50) rfl ?_
      refine go_icmp_eq C 57 dX1_isAhead_50 (by decide) (n := 53) rfl (fun c8 => ?_) (fun c8 => ?_)
      · have hm := bx_p c8 hm
        refine go_iconst C dX1_isAhead_57 (v := (0 : Int32)) (by decide) (n := 58) rfl ?_
        cases hm
        exact go_zret C dX1_isAhead_58 (Or.inl rfl)
      · have hm := bx_n c8 hm
        refine go_iconst C dX1_isAhead_53 (v := (1 : Int32)) (by decide) (n := 54) rfl ?_
        refine go_goto C 58 dX1_isAhead_54 (by decide) ?_
        cases hm
        exact go_zret C dX1_isAhead_58 (Or.inr rfl)
  · have hm := bx_n c5 hm
    refine go_iload_n C dX1_isAhead_19 rfl 1 rfl (n := 20) rfl ?_
    refine go_iload C dX1_isAhead_20 0 rfl (n := 22) rfl ?_
    refine go_icmp_ge C 29 dX1_isAhead_22 (by decide) (n := 25) rfl (fun c9 => ?_) (fun c9 => ?_)
    · have hm := bx_p c9 hm
      refine go_iconst C dX1_isAhead_29 (v := (0 : Int32)) (by decide) (n := 30) rfl ?_
      cases hm
      exact go_zret C dX1_isAhead_30 (Or.inl rfl)
    · have hm := bx_n c9 hm
      refine go_iconst C dX1_isAhead_25 (v := (1 : Int32)) (by decide) (n := 26) rfl ?_
      refine go_goto C 30 dX1_isAhead_26 (by decide) ?_
      cases hm
      exact go_zret C dX1_isAhead_30 (Or.inr rfl)
def mX1_insert_45 (k0 : Nat) (v1 : Int32) (v2 : Int32) (σ : bx_St) : Option bx_St := (if bx_ok v2 24 then (bx_let (bx_up (bx_up σ (k0 + 3) v2.toNatClampNeg v1) k0 4 (((bx_up σ (k0 + 3) v2.toNatClampNeg v1).1 k0 4) + (1 : Int32))) fun σ2 => (some σ2)) else none)
set_option maxRecDepth 8000 in
set_option maxHeartbeats 4000000 in
theorem mX1_insert_45_ok (C : bx_Cx p s m args meth c 3 A D cI cZ RX1 cX1_insert none) {k0 : Nat} (hk0 : bx_isL k0) : ∀ (v1 : Int32) (v2 : Int32) (σ : bx_St) (u : bx_St), mX1_insert_45 k0 v1 v2 σ = some u → bx_Go p l e (bx_rm 4) s m args below meth c 3 A D (MQ below (bx_Q none (bx_xw q cI u) D A) args s 0 0 A) (bx_xw q cI σ) 45 [(0, .ref (q k0)), (1, .int v1), (2, .int v2)] [] := by
  intro v1 v2 σ u hm
  unfold mX1_insert_45 at hm
  refine go_aload_n C dX1_insert_45 rfl 0 rfl (n := 46) rfl ?_
  refine go_get C dX1_insert_46 (xf1_2 q cI σ hk0) rfl inX1 (by decide) fl_X1_18 (n := 49) rfl ?_
  refine go_iload_n C dX1_insert_49 rfl 2 rfl (n := 50) rfl ?_
  refine go_iload_n C dX1_insert_50 rfl 1 rfl (n := 51) rfl ?_
  obtain ⟨b1, hm⟩ := bx_g hm
  refine go_iast C dX1_insert_51 (xul_3 q cI σ hk0 v2 v1) b1 (n := 52) rfl ?_
  refine go_aload_n C dX1_insert_52 rfl 0 rfl (n := 53) rfl ?_
  refine go_dup C dX1_insert_53 rfl (n := 54) rfl ?_
  refine go_get C dX1_insert_54 (xf1_4 q cI (bx_up σ (k0 + 3) v2.toNatClampNeg v1) hk0) rfl inX1 (by decide) fl_X1_24 (n := 57) rfl ?_
  refine go_iconst C dX1_insert_57 (v := (1 : Int32)) (by decide) (n := 58) rfl ?_
  refine go_iadd C dX1_insert_58 (n := 59) rfl ?_
  obtain ⟨σ2, z3, hm⟩ := bx_lt hm
  refine go_put C dX1_insert_59 (ws' := (bx_xw q cI σ2)) (by rw [z3]; exact (xp1_4 q cI (bx_up σ (k0 + 3) v2.toNatClampNeg v1) hk0 (((bx_up σ (k0 + 3) v2.toNatClampNeg v1).1 k0 4) + (1 : Int32)))) rfl inX1 tyX1_ok nmX1 (by decide) fl_X1_24 rfl (ty := .int) (by decide +kernel) (by rfl) (by rfl) (n := 62) rfl ?_
  cases hm
  exact go_vret C dX1_insert_62
def mX1_insert_5 (k0 : Nat) : Nat → Int32 → Int32 → bx_St → Option bx_St
  | 0, _, _, _ => none
  | n + 1, v1, v2, σ => (if v2 ≤ 0 then (mX1_insert_45 k0 v1 v2 σ) else (if bx_ok (v2 - (1 : Int32)) 24 then (Option.bind (mX1_isAhead k0 v1 (σ.1 (k0 + 3) (v2 - (1 : Int32)).toNatClampNeg) σ) fun u3 => (if u3 = 0 then (mX1_insert_45 k0 v1 v2 σ) else (if bx_ok (v2 - (1 : Int32)) 24 then (if bx_ok v2 24 then (bx_let (bx_up σ (k0 + 3) v2.toNatClampNeg (σ.1 (k0 + 3) (v2 - (1 : Int32)).toNatClampNeg)) fun σ8 => (mX1_insert_5 k0 n v1 (v2 + (-1)) σ8)) else none) else none))) else none))
set_option maxRecDepth 8000 in
set_option maxHeartbeats 4000000 in
theorem mX1_insert_5_ok (C : bx_Cx p s m args meth c 3 A D cI cZ RX1 cX1_insert none) {k0 : Nat} (hk0 : bx_isL k0) : ∀ (n : Nat) (v1 : Int32) (v2 : Int32) (σ : bx_St) (u : bx_St), mX1_insert_5 k0 n v1 v2 σ = some u → bx_Go p l e (bx_rm 4) s m args below meth c 3 A D (MQ below (bx_Q none (bx_xw q cI u) D A) args s 0 0 A) (bx_xw q cI σ) 5 [(0, .ref (q k0)), (1, .int v1), (2, .int v2)] [] := by
  intro n
  induction n with
  | zero =>
    intro v1 v2 σ u hm
    cases hm
  | succ n ih =>
    intro v1 v2 σ u hm
    rw [mX1_insert_5] at hm
    refine go_iload_n C dX1_insert_5 rfl 2 rfl (n := 6) rfl ?_
    refine go_if_le C 45 dX1_insert_6 (by decide) (n := 9) rfl (fun c1 => ?_) (fun c1 => ?_)
    · have hm := bx_p c1 hm
      refine go_lv (lv' := [(0, .ref (q k0)), (1, .int v1), (2, .int v2)]) [0, 1, 2] rfl ?_
      exact mX1_insert_45_ok C hk0 _ _ _ _ hm
    · have hm := bx_n c1 hm
      refine go_aload_n C dX1_insert_9 rfl 0 rfl (n := 10) rfl ?_
      refine go_iload_n C dX1_insert_10 rfl 1 rfl (n := 11) rfl ?_
      refine go_aload_n C dX1_insert_11 rfl 0 rfl (n := 12) rfl ?_
      refine go_get C dX1_insert_12 (xf1_2 q cI σ hk0) rfl inX1 (by decide) fl_X1_18 (n := 15) rfl ?_
      refine go_iload_n C dX1_insert_15 rfl 2 rfl (n := 16) rfl ?_
      refine go_iconst C dX1_insert_16 (v := (1 : Int32)) (by decide) (n := 17) rfl ?_
      refine go_isub C dX1_insert_17 (n := 18) rfl ?_
      obtain ⟨b2, hm⟩ := bx_g hm
      refine go_iald C dX1_insert_18 (xal_3 q cI σ hk0) b2 (n := 19) rfl ?_
      obtain ⟨u3, e4, hm⟩ := bx_b hm
      refine go_callVi C dX1_insert_19 mw_X1_isAhead ml_X1_65 (rest := []) (ktX1_isAhead hk0 e4) (xo1 q cI σ hk0) rfl (by decide) rfl rfl (Nat.le_of_ble_eq_true rfl) (n := 22) rfl ?_
      refine go_if_eq C 45 dX1_insert_22 (by decide) (n := 25) rfl (fun c5 => ?_) (fun c5 => ?_)
      · have hm := bx_p c5 hm
        refine go_lv (lv' := [(0, .ref (q k0)), (1, .int v1), (2, .int v2)]) [0, 1, 2] rfl ?_
        exact mX1_insert_45_ok C hk0 _ _ _ _ hm
      · have hm := bx_n c5 hm
        refine go_aload_n C dX1_insert_25 rfl 0 rfl (n := 26) rfl ?_
        refine go_get C dX1_insert_26 (xf1_2 q cI σ hk0) rfl inX1 (by decide) fl_X1_18 (n := 29) rfl ?_
        refine go_iload_n C dX1_insert_29 rfl 2 rfl (n := 30) rfl ?_
        refine go_aload_n C dX1_insert_30 rfl 0 rfl (n := 31) rfl ?_
        refine go_get C dX1_insert_31 (xf1_2 q cI σ hk0) rfl inX1 (by decide) fl_X1_18 (n := 34) rfl ?_
        refine go_iload_n C dX1_insert_34 rfl 2 rfl (n := 35) rfl ?_
        refine go_iconst C dX1_insert_35 (v := (1 : Int32)) (by decide) (n := 36) rfl ?_
        refine go_isub C dX1_insert_36 (n := 37) rfl ?_
        obtain ⟨b6, hm⟩ := bx_g hm
        refine go_iald C dX1_insert_37 (xal_3 q cI σ hk0) b6 (n := 38) rfl ?_
        obtain ⟨b7, hm⟩ := bx_g hm
        obtain ⟨σ8, z9, hm⟩ := bx_lt hm
        refine go_iast C dX1_insert_38 (ws' := (bx_xw q cI σ8)) (by rw [z9]; exact (xul_3 q cI σ hk0 v2 (σ.1 (k0 + 3) (v2 - (1 : Int32)).toNatClampNeg))) b7 (n := 39) rfl ?_
        refine go_iinc C (j := 2) dX1_insert_39 rfl (v := (v2 + (-1))) rfl (by decide) (lv' := [(2, .int (v2 + (-1))), (0, .ref (q k0)), (1, .int v1)]) rfl (n := 42) rfl ?_
        refine go_goto C 5 dX1_insert_42 (by decide) ?_
        refine go_lv (lv' := [(0, .ref (q k0)), (1, .int v1), (2, .int (v2 + (-1)))]) [1, 2, 0] rfl ?_
        exact ih _ _ _ _ hm
def mX1_insert (k0 : Nat) (v1 : Int32) (σ : bx_St) : Option bx_St := (mX1_insert_5 k0 bx_F v1 (σ.1 k0 4) σ)
set_option maxRecDepth 8000 in
set_option maxHeartbeats 4000000 in
theorem ktX1_insert {l : Launch} {D : va_G} {cI cZ : ClassId} {q : Nat → Nat} {k0 : Nat} (hk0 : bx_isL k0) {v1 : Int32} {σ : bx_St} {u : bx_St} (hm : mX1_insert k0 v1 σ = some u) : bx_Mt l D cI cZ yX1_insert cX1_insert 3 none 4 [.ref (q k0), .int v1] (bx_xw q cI σ) none (bx_xw q cI u) := by
  refine bx_mk (by decide) (Nat.le_of_ble_eq_true rfl) (lv := [(0, .ref (q k0)), (1, .int v1)]) rfl (fun p e s m args below meth c A C => ?_)
  replace C : bx_Cx p s m args meth c 3 A D cI cZ RX1 cX1_insert none := C
  unfold mX1_insert at hm
  refine go_aload_n C dX1_insert_0 rfl 0 rfl (n := 1) rfl ?_
  refine go_get C dX1_insert_1 (xf1_4 q cI σ hk0) rfl inX1 (by decide) fl_X1_24 (n := 4) rfl ?_
  refine go_istore_n C dX1_insert_4 rfl (by decide) (lv' := [(2, .int (σ.1 k0 4)), (0, .ref (q k0)), (1, .int v1)]) rfl (n := 5) rfl ?_
  refine go_lv (lv' := [(0, .ref (q k0)), (1, .int v1), (2, .int (σ.1 k0 4))]) [1, 2, 0] rfl ?_
  exact mX1_insert_5_ok C hk0 _ _ _ _ _ hm
def mX1_lowEnd (v0 : Int32) : Int32 := ((2 : Int32) * v0)
set_option maxRecDepth 8000 in
set_option maxHeartbeats 4000000 in
theorem ktX1_lowEnd {l : Launch} {D : va_G} {cI cZ : ClassId} {ws : va_W} {v0 : Int32} {u : Int32} (hm : mX1_lowEnd v0 = u) : bx_Mt l D cI cZ yX1_lowEnd cX1_lowEnd 1 (some .int) 1 [.int v0] ws (some (.int u)) ws := by
  refine bx_mk (by decide) (Nat.le_of_ble_eq_true rfl) (lv := [(0, .int v0)]) rfl (fun p e s m args below meth c A C => ?_)
  replace C : bx_Cx p s m args meth c 1 A D cI cZ RX1 cX1_lowEnd (some .int) := C
  unfold mX1_lowEnd at hm
  refine go_iconst C dX1_lowEnd_0 (v := (2 : Int32)) (by decide) (n := 1) rfl ?_
  refine go_iload_n C dX1_lowEnd_1 rfl 0 rfl (n := 2) rfl ?_
  refine go_imul C dX1_lowEnd_2 (n := 3) rfl ?_
  subst hm
  exact go_iret C dX1_lowEnd_3
end
