section
variable {p : Program} {l : Launch} {e : Env} {s : State} {m : MethodId} {args : Array Value} {below : List Frame} {meth : Method} {c : Code} {A : Nat → Prop} {D : va_G} {cI cZ : ClassId} {q : Nat → Nat} {ws : va_W}
def mX4_isHeap_60 (K19 : Int32 → Int32 → Int32 → bx_St → Option Int32) (v1 : Int32) (v3 : Int32) (s0 : Int32) (σ : bx_St) : Option Int32 := (K19 v1 s0 (v3 + 1) σ)
set_option maxRecDepth 8000 in
set_option maxHeartbeats 4000000 in
theorem mX4_isHeap_60_ok (C : bx_Cx p s m args meth c 4 A D cI cZ RX4 cX4_isHeap (some .boolean)) (K19 : Int32 → Int32 → Int32 → bx_St → Option Int32) (HK19 : ∀ (v1 : Int32) (v2 : Int32) (v3 : Int32) (σ : bx_St) (u : Int32), K19 v1 v2 v3 σ = some u → bx_Go p l e (bx_rm 3) s m args below meth c 4 A D (MQ below (bx_Q (some (.int u)) (bx_mw q cI cZ σ) D A) args s 0 0 A) (bx_mw q cI cZ σ) 19 [(0, .ref (q 0)), (1, .int v1), (2, .int v2), (3, .int v3)] []) : ∀ (v1 : Int32) (v3 : Int32) (s0 : Int32) (σ : bx_St) (u : Int32), mX4_isHeap_60 K19 v1 v3 s0 σ = some u → bx_Go p l e (bx_rm 3) s m args below meth c 4 A D (MQ below (bx_Q (some (.int u)) (bx_mw q cI cZ σ) D A) args s 0 0 A) (bx_mw q cI cZ σ) 60 [(0, .ref (q 0)), (1, .int v1), (3, .int v3)] [.int s0] := by
  intro v1 v3 s0 σ u hm
  unfold mX4_isHeap_60 at hm
  refine go_istore_n C dX4_isHeap_60 rfl (by decide) (lv' := [(2, .int s0), (0, .ref (q 0)), (1, .int v1), (3, .int v3)]) rfl (n := 61) rfl ?_
  refine go_iinc C (j := 3) dX4_isHeap_61 rfl (v := (v3 + 1)) rfl (by decide) (lv' := [(3, .int (v3 + 1)), (2, .int s0), (0, .ref (q 0)), (1, .int v1)]) rfl (n := 64) rfl ?_
  refine go_goto C 19 dX4_isHeap_64 (by decide) ?_
  refine go_lv (lv' := [(0, .ref (q 0)), (1, .int v1), (2, .int s0), (3, .int (v3 + 1))]) [2, 3, 1, 0] rfl ?_
  exact HK19 _ _ _ _ _ hm
def mX4_isHeap_55 (K19 : Int32 → Int32 → Int32 → bx_St → Option Int32) (v1 : Int32) (v3 : Int32) (σ : bx_St) : Option Int32 := (mX4_isHeap_60 K19 v1 v3 (1 : Int32) σ)
set_option maxRecDepth 8000 in
set_option maxHeartbeats 4000000 in
theorem mX4_isHeap_55_ok (C : bx_Cx p s m args meth c 4 A D cI cZ RX4 cX4_isHeap (some .boolean)) (K19 : Int32 → Int32 → Int32 → bx_St → Option Int32) (HK19 : ∀ (v1 : Int32) (v2 : Int32) (v3 : Int32) (σ : bx_St) (u : Int32), K19 v1 v2 v3 σ = some u → bx_Go p l e (bx_rm 3) s m args below meth c 4 A D (MQ below (bx_Q (some (.int u)) (bx_mw q cI cZ σ) D A) args s 0 0 A) (bx_mw q cI cZ σ) 19 [(0, .ref (q 0)), (1, .int v1), (2, .int v2), (3, .int v3)] []) : ∀ (v1 : Int32) (v3 : Int32) (σ : bx_St) (u : Int32), mX4_isHeap_55 K19 v1 v3 σ = some u → bx_Go p l e (bx_rm 3) s m args below meth c 4 A D (MQ below (bx_Q (some (.int u)) (bx_mw q cI cZ σ) D A) args s 0 0 A) (bx_mw q cI cZ σ) 55 [(0, .ref (q 0)), (1, .int v1), (3, .int v3)] [] := by
  intro v1 v3 σ u hm
  unfold mX4_isHeap_55 at hm
  refine go_iconst C dX4_isHeap_55 (v := (1 : Int32)) (by decide) (n := 56) rfl ?_
  refine go_goto C 60 dX4_isHeap_56 (by decide) ?_
  refine go_lv (lv' := [(0, .ref (q 0)), (1, .int v1), (3, .int v3)]) [0, 1, 2] rfl ?_
  exact mX4_isHeap_60_ok C _ HK19 _ _ _ _ _ hm
def mX4_isHeap_19 : Nat → Int32 → Int32 → Int32 → bx_St → Option Int32
  | 0, _, _, _, _ => none
  | n + 1, v1, v2, v3, σ => (if (12 : Int32) ≤ v3 then (if bx_bo v2 then (some v2) else none) else (if v2 = 0 then (if bx_bo v2 then (some v2) else none) else (if (mX4_has v1 v3) = 0 then (mX4_isHeap_55 (mX4_isHeap_19 n) v1 v3 σ) else (Option.bind (mX4_overBits v3 σ) fun u6 => (if ((v1 &&& (((1 : Int32) <<< (v3 &&& 31)) ^^^ (-1 : Int32))) &&& (u6 ^^^ (-1 : Int32))) = 0 then (mX4_isHeap_55 (mX4_isHeap_19 n) v1 v3 σ) else (mX4_isHeap_60 (mX4_isHeap_19 n) v1 v3 (0 : Int32) σ))))))
set_option maxRecDepth 8000 in
set_option maxHeartbeats 4000000 in
theorem mX4_isHeap_19_ok (C : bx_Cx p s m args meth c 4 A D cI cZ RX4 cX4_isHeap (some .boolean)) : ∀ (n : Nat) (v1 : Int32) (v2 : Int32) (v3 : Int32) (σ : bx_St) (u : Int32), mX4_isHeap_19 n v1 v2 v3 σ = some u → bx_Go p l e (bx_rm 3) s m args below meth c 4 A D (MQ below (bx_Q (some (.int u)) (bx_mw q cI cZ σ) D A) args s 0 0 A) (bx_mw q cI cZ σ) 19 [(0, .ref (q 0)), (1, .int v1), (2, .int v2), (3, .int v3)] [] := by
  intro n
  induction n with
  | zero =>
    intro v1 v2 v3 σ u hm
    cases hm
  | succ n ih =>
    intro v1 v2 v3 σ u hm
    rw [mX4_isHeap_19] at hm
    refine go_iload_n C dX4_isHeap_19 rfl 3 rfl (n := 20) rfl ?_
    refine go_bipush C dX4_isHeap_20 (v := (12 : Int32)) (by decide) (n := 22) rfl ?_
    refine go_icmp_ge C 67 dX4_isHeap_22 (by decide) (n := 25) rfl (fun c1 => ?_) (fun c1 => ?_)
    · have hm := bx_p c1 hm
      refine go_iload_n C dX4_isHeap_67 rfl 2 rfl (n := 68) rfl ?_
      obtain ⟨b2, hm⟩ := bx_g hm
      cases hm
      exact go_zret C dX4_isHeap_68 b2
    · have hm := bx_n c1 hm
      refine go_iload_n C dX4_isHeap_25 rfl 2 rfl (n := 26) rfl ?_
      refine go_if_eq C 67 dX4_isHeap_26 (by decide) (n := 29) rfl (fun c3 => ?_) (fun c3 => ?_)
      · have hm := bx_p c3 hm
        refine go_iload_n C dX4_isHeap_67 rfl 2 rfl (n := 68) rfl ?_
        obtain ⟨b4, hm⟩ := bx_g hm
        cases hm
        exact go_zret C dX4_isHeap_68 b4
      · have hm := bx_n c3 hm
        refine go_iload_n C dX4_isHeap_29 rfl 1 rfl (n := 30) rfl ?_
        refine go_iload_n C dX4_isHeap_30 rfl 3 rfl (n := 31) rfl ?_
        refine go_callSi C dX4_isHeap_31 mw_X4_has ml_X4_86 (rest := []) (ktX4_has rfl) (by decide) rfl rfl (Nat.le_of_ble_eq_true rfl) (n := 34) rfl ?_
        refine go_if_eq C 55 dX4_isHeap_34 (by decide) (n := 37) rfl (fun c5 => ?_) (fun c5 => ?_)
        · have hm := bx_p c5 hm
          refine go_lv (lv' := [(0, .ref (q 0)), (1, .int v1), (3, .int v3)]) [0, 1, 3] rfl ?_
          exact mX4_isHeap_55_ok C _ ih _ _ _ _ hm
        · have hm := bx_n c5 hm
          refine go_iload_n C dX4_isHeap_37 rfl 1 rfl (n := 38) rfl ?_
          refine go_iconst C dX4_isHeap_38 (v := (1 : Int32)) (by decide) (n := 39) rfl ?_
          refine go_iload_n C dX4_isHeap_39 rfl 3 rfl (n := 40) rfl ?_
          refine go_ishl C dX4_isHeap_40 (n := 41) rfl ?_
          refine go_iconst C dX4_isHeap_41 (v := (-1 : Int32)) (by decide) (n := 42) rfl ?_
          refine go_ixor C dX4_isHeap_42 (n := 43) rfl ?_
          refine go_iand C dX4_isHeap_43 (n := 44) rfl ?_
          refine go_aload_n C dX4_isHeap_44 rfl 0 rfl (n := 45) rfl ?_
          refine go_iload_n C dX4_isHeap_45 rfl 3 rfl (n := 46) rfl ?_
          obtain ⟨u6, e7, hm⟩ := bx_b hm
          refine go_callVi C dX4_isHeap_46 mw_X4_overBits ml_X4_179 (rest := [.int (v1 &&& (((1 : Int32) <<< (v3 &&& 31)) ^^^ (-1 : Int32)))]) (ktX4_overBits e7) (mo4 q cI cZ σ) rfl (by decide) rfl rfl (Nat.le_of_ble_eq_true rfl) (n := 49) rfl ?_
          refine go_iconst C dX4_isHeap_49 (v := (-1 : Int32)) (by decide) (n := 50) rfl ?_
          refine go_ixor C dX4_isHeap_50 (n := 51) rfl ?_
          refine go_iand C dX4_isHeap_51 (n := 52) rfl ?_
          refine go_if_ne C 59 dX4_isHeap_52 (by decide) (n := 55) rfl (fun c8 => ?_) (fun c8 => ?_)
          · have hm := bx_n c8 hm
            refine go_iconst C dX4_isHeap_59 (v := (0 : Int32)) (by decide) (n := 60) rfl ?_
            refine go_lv (lv' := [(0, .ref (q 0)), (1, .int v1), (3, .int v3)]) [0, 1, 3] rfl ?_
            exact mX4_isHeap_60_ok C _ ih _ _ _ _ _ hm
          · have hm := bx_p c8 hm
            refine go_lv (lv' := [(0, .ref (q 0)), (1, .int v1), (3, .int v3)]) [0, 1, 3] rfl ?_
            exact mX4_isHeap_55_ok C _ ih _ _ _ _ hm
def mX4_isHeap_16 (v1 : Int32) (s0 : Int32) (σ : bx_St) : Option Int32 := (mX4_isHeap_19 bx_F v1 s0 (0 : Int32) σ)
set_option maxRecDepth 8000 in
set_option maxHeartbeats 4000000 in
theorem mX4_isHeap_16_ok (C : bx_Cx p s m args meth c 4 A D cI cZ RX4 cX4_isHeap (some .boolean)) : ∀ (v1 : Int32) (s0 : Int32) (σ : bx_St) (u : Int32), mX4_isHeap_16 v1 s0 σ = some u → bx_Go p l e (bx_rm 3) s m args below meth c 4 A D (MQ below (bx_Q (some (.int u)) (bx_mw q cI cZ σ) D A) args s 0 0 A) (bx_mw q cI cZ σ) 16 [(0, .ref (q 0)), (1, .int v1)] [.int s0] := by
  intro v1 s0 σ u hm
  unfold mX4_isHeap_16 at hm
  refine go_istore_n C dX4_isHeap_16 rfl (by decide) (lv' := [(2, .int s0), (0, .ref (q 0)), (1, .int v1)]) rfl (n := 17) rfl ?_
  refine go_iconst C dX4_isHeap_17 (v := (0 : Int32)) (by decide) (n := 18) rfl ?_
  refine go_istore_n C dX4_isHeap_18 rfl (by decide) (lv' := [(3, .int (0 : Int32)), (2, .int s0), (0, .ref (q 0)), (1, .int v1)]) rfl (n := 19) rfl ?_
  refine go_lv (lv' := [(0, .ref (q 0)), (1, .int v1), (2, .int s0), (3, .int (0 : Int32))]) [2, 3, 1, 0] rfl ?_
  exact mX4_isHeap_19_ok C _ _ _ _ _ _ hm
def mX4_isHeap (v1 : Int32) (σ : bx_St) : Option Int32 := (if (v1 &&& ((σ.1 0 2) ^^^ (-1 : Int32))) = 0 then (mX4_isHeap_16 v1 (1 : Int32) σ) else (mX4_isHeap_16 v1 (0 : Int32) σ))
set_option maxRecDepth 8000 in
set_option maxHeartbeats 4000000 in
theorem ktX4_isHeap {l : Launch} {D : va_G} {cI cZ : ClassId} {q : Nat → Nat} {v1 : Int32} {σ : bx_St} {u : Int32} (hm : mX4_isHeap v1 σ = some u) : bx_Mt l D cI cZ yX4_isHeap cX4_isHeap 4 (some .boolean) 3 [.ref (q 0), .int v1] (bx_mw q cI cZ σ) (some (.int u)) (bx_mw q cI cZ σ) := by
  refine bx_mk (by decide) (Nat.le_of_ble_eq_true rfl) (lv := [(0, .ref (q 0)), (1, .int v1)]) rfl (fun p e s m args below meth c A C => ?_)
  replace C : bx_Cx p s m args meth c 4 A D cI cZ RX4 cX4_isHeap (some .boolean) := C
  unfold mX4_isHeap at hm
  refine go_iload_n C dX4_isHeap_0 rfl 1 rfl (n := 1) rfl ?_
  refine go_aload_n C dX4_isHeap_1 rfl 0 rfl (n := 2) rfl ?_
  refine go_get C dX4_isHeap_2 (mf4_2 q cI cZ σ) rfl inX4 (by decide) fl_X4_73 (n := 5) rfl ?_
  refine go_iconst C dX4_isHeap_5 (v := (-1 : Int32)) (by decide) (n := 6) rfl ?_
  refine go_ixor C dX4_isHeap_6 (n := 7) rfl ?_
  refine go_iand C dX4_isHeap_7 (n := 8) rfl ?_
  refine go_if_ne C 15 dX4_isHeap_8 (by decide) (n := 11) rfl (fun c1 => ?_) (fun c1 => ?_)
  · have hm := bx_n c1 hm
    refine go_iconst C dX4_isHeap_15 (v := (0 : Int32)) (by decide) (n := 16) rfl ?_
    refine go_lv (lv' := [(0, .ref (q 0)), (1, .int v1)]) [0, 1] rfl ?_
    exact mX4_isHeap_16_ok C _ _ _ _ hm
  · have hm := bx_p c1 hm
    refine go_iconst C dX4_isHeap_11 (v := (1 : Int32)) (by decide) (n := 12) rfl ?_
    refine go_goto C 16 dX4_isHeap_12 (by decide) ?_
    refine go_lv (lv' := [(0, .ref (q 0)), (1, .int v1)]) [0, 1] rfl ?_
    exact mX4_isHeap_16_ok C _ _ _ _ hm
def mX4_deepest_35 (K4 : Int32 → Int32 → bx_St → Option Int32) (v2 : Int32) (s0 : Int32) (σ : bx_St) : Option Int32 := (K4 s0 (v2 + 1) σ)
set_option maxRecDepth 8000 in
set_option maxHeartbeats 4000000 in
theorem mX4_deepest_35_ok (C : bx_Cx p s m args meth c 3 A D cI cZ RX4 cX4_deepest (some .int)) (K4 : Int32 → Int32 → bx_St → Option Int32) (HK4 : ∀ (v1 : Int32) (v2 : Int32) (σ : bx_St) (u : Int32), K4 v1 v2 σ = some u → bx_Go p l e (bx_rm 4) s m args below meth c 3 A D (MQ below (bx_Q (some (.int u)) (bx_mw q cI cZ σ) D A) args s 0 0 A) (bx_mw q cI cZ σ) 4 [(0, .ref (q 0)), (1, .int v1), (2, .int v2)] []) : ∀ (v2 : Int32) (s0 : Int32) (σ : bx_St) (u : Int32), mX4_deepest_35 K4 v2 s0 σ = some u → bx_Go p l e (bx_rm 4) s m args below meth c 3 A D (MQ below (bx_Q (some (.int u)) (bx_mw q cI cZ σ) D A) args s 0 0 A) (bx_mw q cI cZ σ) 35 [(0, .ref (q 0)), (2, .int v2)] [.int s0] := by
  intro v2 s0 σ u hm
  unfold mX4_deepest_35 at hm
  refine go_istore_n C dX4_deepest_35 rfl (by decide) (lv' := [(1, .int s0), (0, .ref (q 0)), (2, .int v2)]) rfl (n := 36) rfl ?_
  refine go_iinc C (j := 2) dX4_deepest_36 rfl (v := (v2 + 1)) rfl (by decide) (lv' := [(2, .int (v2 + 1)), (1, .int s0), (0, .ref (q 0))]) rfl (n := 39) rfl ?_
  refine go_goto C 4 dX4_deepest_39 (by decide) ?_
  refine go_lv (lv' := [(0, .ref (q 0)), (1, .int s0), (2, .int (v2 + 1))]) [2, 1, 0] rfl ?_
  exact HK4 _ _ _ _ hm
def mX4_deepest_34 (K4 : Int32 → Int32 → bx_St → Option Int32) (v1 : Int32) (v2 : Int32) (σ : bx_St) : Option Int32 := (mX4_deepest_35 K4 v2 v1 σ)
set_option maxRecDepth 8000 in
set_option maxHeartbeats 4000000 in
theorem mX4_deepest_34_ok (C : bx_Cx p s m args meth c 3 A D cI cZ RX4 cX4_deepest (some .int)) (K4 : Int32 → Int32 → bx_St → Option Int32) (HK4 : ∀ (v1 : Int32) (v2 : Int32) (σ : bx_St) (u : Int32), K4 v1 v2 σ = some u → bx_Go p l e (bx_rm 4) s m args below meth c 3 A D (MQ below (bx_Q (some (.int u)) (bx_mw q cI cZ σ) D A) args s 0 0 A) (bx_mw q cI cZ σ) 4 [(0, .ref (q 0)), (1, .int v1), (2, .int v2)] []) : ∀ (v1 : Int32) (v2 : Int32) (σ : bx_St) (u : Int32), mX4_deepest_34 K4 v1 v2 σ = some u → bx_Go p l e (bx_rm 4) s m args below meth c 3 A D (MQ below (bx_Q (some (.int u)) (bx_mw q cI cZ σ) D A) args s 0 0 A) (bx_mw q cI cZ σ) 34 [(0, .ref (q 0)), (1, .int v1), (2, .int v2)] [] := by
  intro v1 v2 σ u hm
  unfold mX4_deepest_34 at hm
  refine go_iload_n C dX4_deepest_34 rfl 1 rfl (n := 35) rfl ?_
  refine go_lv (lv' := [(0, .ref (q 0)), (2, .int v2)]) [0, 2] rfl ?_
  exact mX4_deepest_35_ok C _ HK4 _ _ _ _ hm
def mX4_deepest_4 : Nat → Int32 → Int32 → bx_St → Option Int32
  | 0, _, _, _ => none
  | n + 1, v1, v2, σ => (if (4096 : Int32) ≤ v2 then (some v1) else (Option.bind (mX4_ones v2) fun u2 => (Option.bind (mX4_ones v1) fun u4 => (if u2 ≤ u4 then (mX4_deepest_34 (mX4_deepest_4 n) v1 v2 σ) else (Option.bind (mX4_isHeap v2 σ) fun u7 => (if u7 = 0 then (mX4_deepest_34 (mX4_deepest_4 n) v1 v2 σ) else (mX4_deepest_35 (mX4_deepest_4 n) v2 v2 σ)))))))
set_option maxRecDepth 8000 in
set_option maxHeartbeats 4000000 in
theorem mX4_deepest_4_ok (C : bx_Cx p s m args meth c 3 A D cI cZ RX4 cX4_deepest (some .int)) : ∀ (n : Nat) (v1 : Int32) (v2 : Int32) (σ : bx_St) (u : Int32), mX4_deepest_4 n v1 v2 σ = some u → bx_Go p l e (bx_rm 4) s m args below meth c 3 A D (MQ below (bx_Q (some (.int u)) (bx_mw q cI cZ σ) D A) args s 0 0 A) (bx_mw q cI cZ σ) 4 [(0, .ref (q 0)), (1, .int v1), (2, .int v2)] [] := by
  intro n
  induction n with
  | zero =>
    intro v1 v2 σ u hm
    cases hm
  | succ n ih =>
    intro v1 v2 σ u hm
    rw [mX4_deepest_4] at hm
    refine go_iload_n C dX4_deepest_4 rfl 2 rfl (n := 5) rfl ?_
    refine go_sipush C dX4_deepest_5 (v := (4096 : Int32)) (by decide) (n := 8) rfl ?_
    refine go_icmp_ge C 42 dX4_deepest_8 (by decide) (n := 11) rfl (fun c1 => ?_) (fun c1 => ?_)
    · have hm := bx_p c1 hm
      refine go_iload_n C dX4_deepest_42 rfl 1 rfl (n := 43) rfl ?_
      cases hm
      exact go_iret C dX4_deepest_43
    · have hm := bx_n c1 hm
      refine go_iload_n C dX4_deepest_11 rfl 2 rfl (n := 12) rfl ?_
      obtain ⟨u2, e3, hm⟩ := bx_b hm
      refine go_callSi C dX4_deepest_12 mw_X4_ones ml_X4_183 (rest := []) (ktX4_ones e3) (by decide) rfl rfl (Nat.le_of_ble_eq_true rfl) (n := 15) rfl ?_
      refine go_iload_n C dX4_deepest_15 rfl 1 rfl (n := 16) rfl ?_
      obtain ⟨u4, e5, hm⟩ := bx_b hm
      refine go_callSi C dX4_deepest_16 mw_X4_ones ml_X4_183 (rest := [.int u2]) (ktX4_ones e5) (by decide) rfl rfl (Nat.le_of_ble_eq_true rfl) (n := 19) rfl ?_
      refine go_icmp_le C 34 dX4_deepest_19 (by decide) (n := 22) rfl (fun c6 => ?_) (fun c6 => ?_)
      · have hm := bx_p c6 hm
        refine go_lv (lv' := [(0, .ref (q 0)), (1, .int v1), (2, .int v2)]) [0, 1, 2] rfl ?_
        exact mX4_deepest_34_ok C _ ih _ _ _ _ hm
      · have hm := bx_n c6 hm
        refine go_aload_n C dX4_deepest_22 rfl 0 rfl (n := 23) rfl ?_
        refine go_iload_n C dX4_deepest_23 rfl 2 rfl (n := 24) rfl ?_
        obtain ⟨u7, e8, hm⟩ := bx_b hm
        refine go_callVi C dX4_deepest_24 mw_X4_isHeap ml_X4_215 (rest := []) (ktX4_isHeap e8) (mo4 q cI cZ σ) rfl (by decide) rfl rfl (Nat.le_of_ble_eq_true rfl) (n := 27) rfl ?_
        refine go_if_eq C 34 dX4_deepest_27 (by decide) (n := 30) rfl (fun c9 => ?_) (fun c9 => ?_)
        · have hm := bx_p c9 hm
          refine go_lv (lv' := [(0, .ref (q 0)), (1, .int v1), (2, .int v2)]) [0, 1, 2] rfl ?_
          exact mX4_deepest_34_ok C _ ih _ _ _ _ hm
        · have hm := bx_n c9 hm
          refine go_iload_n C dX4_deepest_30 rfl 2 rfl (n := 31) rfl ?_
          refine go_goto C 35 dX4_deepest_31 (by decide) ?_
          refine go_lv (lv' := [(0, .ref (q 0)), (2, .int v2)]) [0, 2] rfl ?_
          exact mX4_deepest_35_ok C _ ih _ _ _ _ hm
def mX4_deepest (σ : bx_St) : Option Int32 := (mX4_deepest_4 bx_F (0 : Int32) (1 : Int32) σ)
set_option maxRecDepth 8000 in
set_option maxHeartbeats 4000000 in
theorem ktX4_deepest {l : Launch} {D : va_G} {cI cZ : ClassId} {q : Nat → Nat} {σ : bx_St} {u : Int32} (hm : mX4_deepest σ = some u) : bx_Mt l D cI cZ yX4_deepest cX4_deepest 3 (some .int) 4 [.ref (q 0)] (bx_mw q cI cZ σ) (some (.int u)) (bx_mw q cI cZ σ) := by
  refine bx_mk (by decide) (Nat.le_of_ble_eq_true rfl) (lv := [(0, .ref (q 0))]) rfl (fun p e s m args below meth c A C => ?_)
  replace C : bx_Cx p s m args meth c 3 A D cI cZ RX4 cX4_deepest (some .int) := C
  unfold mX4_deepest at hm
  refine go_iconst C dX4_deepest_0 (v := (0 : Int32)) (by decide) (n := 1) rfl ?_
  refine go_istore_n C dX4_deepest_1 rfl (by decide) (lv' := [(1, .int (0 : Int32)), (0, .ref (q 0))]) rfl (n := 2) rfl ?_
  refine go_iconst C dX4_deepest_2 (v := (1 : Int32)) (by decide) (n := 3) rfl ?_
  refine go_istore_n C dX4_deepest_3 rfl (by decide) (lv' := [(2, .int (1 : Int32)), (1, .int (0 : Int32)), (0, .ref (q 0))]) rfl (n := 4) rfl ?_
  refine go_lv (lv' := [(0, .ref (q 0)), (1, .int (0 : Int32)), (2, .int (1 : Int32))]) [2, 1, 0] rfl ?_
  exact mX4_deepest_4_ok C _ _ _ _ _ hm
def mX4_endNow (v1 : Int32) (v2 : Int32) (v3 : Int32) (σ : bx_St) : Option Int32 := (if bx_ok (((24 : Int32) * v1) + v2) 72 then (if v3 = 0 then (some ((σ.1 3 (((24 : Int32) * v1) + v2).toNatClampNeg) / (2 : Int32))) else (if v3 = (1 : Int32) then (some (bx_rem (σ.1 3 (((24 : Int32) * v1) + v2).toNatClampNeg) (2 : Int32))) else (Option.bind (mX4_valueOf (σ.1 3 (((24 : Int32) * v1) + v2).toNatClampNeg) v1 σ) fun u4 => (some u4)))) else none)
set_option maxRecDepth 8000 in
set_option maxHeartbeats 4000000 in
theorem ktX4_endNow {l : Launch} {D : va_G} {cI cZ : ClassId} {q : Nat → Nat} {v1 : Int32} {v2 : Int32} {v3 : Int32} {σ : bx_St} {u : Int32} (hm : mX4_endNow v1 v2 v3 σ = some u) : bx_Mt l D cI cZ yX4_endNow cX4_endNow 5 (some .int) 2 [.ref (q 0), .int v1, .int v2, .int v3] (bx_mw q cI cZ σ) (some (.int u)) (bx_mw q cI cZ σ) := by
  refine bx_mk (by decide) (Nat.le_of_ble_eq_true rfl) (lv := [(0, .ref (q 0)), (1, .int v1), (2, .int v2), (3, .int v3)]) rfl (fun p e s m args below meth c A C => ?_)
  replace C : bx_Cx p s m args meth c 5 A D cI cZ RX4 cX4_endNow (some .int) := C
  unfold mX4_endNow at hm
  refine go_aload_n C dX4_endNow_0 rfl 0 rfl (n := 1) rfl ?_
  refine go_get C dX4_endNow_1 (mf4_6 q cI cZ σ) rfl inX4 (by decide) fl_X4_16 (n := 4) rfl ?_
  refine go_bipush C dX4_endNow_4 (v := (24 : Int32)) (by decide) (n := 6) rfl ?_
  refine go_iload_n C dX4_endNow_6 rfl 1 rfl (n := 7) rfl ?_
  refine go_imul C dX4_endNow_7 (n := 8) rfl ?_
  refine go_iload_n C dX4_endNow_8 rfl 2 rfl (n := 9) rfl ?_
  refine go_iadd C dX4_endNow_9 (n := 10) rfl ?_
  obtain ⟨b1, hm⟩ := bx_g hm
  refine go_iald C dX4_endNow_10 (ma_3 q cI cZ σ) b1 (n := 11) rfl ?_
  refine go_istore C dX4_endNow_11 (by decide) (lv' := [(4, .int (σ.1 3 (((24 : Int32) * v1) + v2).toNatClampNeg)), (0, .ref (q 0)), (1, .int v1), (2, .int v2), (3, .int v3)]) rfl (n := 13) rfl ?_
  refine go_iload_n C dX4_endNow_13 rfl 4 rfl (n := 14) rfl ?_
  refine go_if_ne C 24 dX4_endNow_14 (by decide) (n := 17) rfl (fun c2 => ?_) (fun c2 => ?_)
  · have hm := bx_n c2 hm
    refine go_iload_n C dX4_endNow_24 rfl 4 rfl (n := 25) rfl ?_
    refine go_iconst C dX4_endNow_25 (v := (1 : Int32)) (by decide) (n := 26) rfl ?_
    refine go_icmp_ne C 36 dX4_endNow_26 (by decide) (n := 29) rfl (fun c3 => ?_) (fun c3 => ?_)
    · have hm := bx_n c3 hm
      refine go_aload_n C dX4_endNow_36 rfl 1 rfl (n := 37) rfl ?_
      refine go_iload C dX4_endNow_37 0 rfl (n := 39) rfl ?_
      refine go_iload_n C dX4_endNow_39 rfl 2 rfl (n := 40) rfl ?_
      obtain ⟨u4, e5, hm⟩ := bx_b hm
      refine go_callVi C dX4_endNow_40 mw_X4_valueOf ml_X4_97 (rest := []) (ktX4_valueOf e5) (mo4 q cI cZ σ) rfl (by decide) rfl rfl (Nat.le_of_ble_eq_true rfl) (n := 43) rfl ?_
      cases hm
      exact go_iret C dX4_endNow_43
    · have hm := bx_p c3 hm
      refine go_iload C dX4_endNow_29 0 rfl (n := 31) rfl ?_
      refine go_iconst C dX4_endNow_31 (v := (2 : Int32)) (by decide) (n := 32) rfl ?_
      refine go_irem C dX4_endNow_32 (by decide) (n := 33) rfl ?_
      refine go_goto C 43 dX4_endNow_33 (by decide) ?_
      cases hm
      exact go_iret C dX4_endNow_43
  · have hm := bx_p c2 hm
    refine go_iload C dX4_endNow_17 0 rfl (n := 19) rfl ?_
    refine go_iconst C dX4_endNow_19 (v := (2 : Int32)) (by decide) (n := 20) rfl ?_
    refine go_idiv C dX4_endNow_20 (by decide) (n := 21) rfl ?_
    refine go_goto C 43 dX4_endNow_21 (by decide) ?_
    cases hm
    exact go_iret C dX4_endNow_43
def mX4_greatest_44 (K4 : Int32 → Int32 → bx_St → Option Int32) (v2 : Int32) (s0 : Int32) (σ : bx_St) : Option Int32 := (K4 s0 (v2 + 1) σ)
set_option maxRecDepth 8000 in
set_option maxHeartbeats 4000000 in
theorem mX4_greatest_44_ok (C : bx_Cx p s m args meth c 4 A D cI cZ RX4 cX4_greatest (some .int)) (K4 : Int32 → Int32 → bx_St → Option Int32) (HK4 : ∀ (v1 : Int32) (v2 : Int32) (σ : bx_St) (u : Int32), K4 v1 v2 σ = some u → bx_Go p l e (bx_rm 4) s m args below meth c 4 A D (MQ below (bx_Q (some (.int u)) (bx_mw q cI cZ σ) D A) args s 0 0 A) (bx_mw q cI cZ σ) 4 [(0, .ref (q 0)), (1, .int v1), (2, .int v2)] []) : ∀ (v2 : Int32) (s0 : Int32) (σ : bx_St) (u : Int32), mX4_greatest_44 K4 v2 s0 σ = some u → bx_Go p l e (bx_rm 4) s m args below meth c 4 A D (MQ below (bx_Q (some (.int u)) (bx_mw q cI cZ σ) D A) args s 0 0 A) (bx_mw q cI cZ σ) 44 [(0, .ref (q 0)), (2, .int v2)] [.int s0] := by
  intro v2 s0 σ u hm
  unfold mX4_greatest_44 at hm
  refine go_istore_n C dX4_greatest_44 rfl (by decide) (lv' := [(1, .int s0), (0, .ref (q 0)), (2, .int v2)]) rfl (n := 45) rfl ?_
  refine go_iinc C (j := 2) dX4_greatest_45 rfl (v := (v2 + 1)) rfl (by decide) (lv' := [(2, .int (v2 + 1)), (1, .int s0), (0, .ref (q 0))]) rfl (n := 48) rfl ?_
  refine go_goto C 4 dX4_greatest_48 (by decide) ?_
  refine go_lv (lv' := [(0, .ref (q 0)), (1, .int s0), (2, .int (v2 + 1))]) [2, 1, 0] rfl ?_
  exact HK4 _ _ _ _ hm
def mX4_greatest_33 (K4 : Int32 → Int32 → bx_St → Option Int32) (v1 : Int32) (v2 : Int32) (s0 : Int32) (σ : bx_St) : Option Int32 := (if s0 ≤ v1 then (mX4_greatest_44 K4 v2 v1 σ) else (mX4_greatest_44 K4 v2 s0 σ))
set_option maxRecDepth 8000 in
set_option maxHeartbeats 4000000 in
theorem mX4_greatest_33_ok (C : bx_Cx p s m args meth c 4 A D cI cZ RX4 cX4_greatest (some .int)) (K4 : Int32 → Int32 → bx_St → Option Int32) (HK4 : ∀ (v1 : Int32) (v2 : Int32) (σ : bx_St) (u : Int32), K4 v1 v2 σ = some u → bx_Go p l e (bx_rm 4) s m args below meth c 4 A D (MQ below (bx_Q (some (.int u)) (bx_mw q cI cZ σ) D A) args s 0 0 A) (bx_mw q cI cZ σ) 4 [(0, .ref (q 0)), (1, .int v1), (2, .int v2)] []) : ∀ (v1 : Int32) (v2 : Int32) (s0 : Int32) (σ : bx_St) (u : Int32), mX4_greatest_33 K4 v1 v2 s0 σ = some u → bx_Go p l e (bx_rm 4) s m args below meth c 4 A D (MQ below (bx_Q (some (.int u)) (bx_mw q cI cZ σ) D A) args s 0 0 A) (bx_mw q cI cZ σ) 33 [(0, .ref (q 0)), (1, .int v1), (2, .int v2)] [.int s0] := by
  intro v1 v2 s0 σ u hm
  unfold mX4_greatest_33 at hm
  refine go_istore_n C dX4_greatest_33 rfl (by decide) (lv' := [(3, .int s0), (0, .ref (q 0)), (1, .int v1), (2, .int v2)]) rfl (n := 34) rfl ?_
  refine go_iload_n C dX4_greatest_34 rfl 0 rfl (n := 35) rfl ?_
  refine go_iload_n C dX4_greatest_35 rfl 2 rfl (n := 36) rfl ?_
  refine go_icmp_le C 43 dX4_greatest_36 (by decide) (n := 39) rfl (fun c1 => ?_) (fun c1 => ?_)
  · have hm := bx_p c1 hm
    refine go_iload_n C dX4_greatest_43 rfl 2 rfl (n := 44) rfl ?_
    refine go_lv (lv' := [(0, .ref (q 0)), (2, .int v2)]) [1, 3] rfl ?_
    exact mX4_greatest_44_ok C _ HK4 _ _ _ _ hm
  · have hm := bx_n c1 hm
    refine go_iload_n C dX4_greatest_39 rfl 0 rfl (n := 40) rfl ?_
    refine go_goto C 44 dX4_greatest_40 (by decide) ?_
    refine go_lv (lv' := [(0, .ref (q 0)), (2, .int v2)]) [1, 3] rfl ?_
    exact mX4_greatest_44_ok C _ HK4 _ _ _ _ hm
def mX4_greatest_4 : Nat → Int32 → Int32 → bx_St → Option Int32
  | 0, _, _, _ => none
  | n + 1, v1, v2, σ => (if (12 : Int32) ≤ v2 then (some v1) else (if (mX4_has (σ.1 0 2) v2) = 0 then (mX4_greatest_33 (mX4_greatest_4 n) v1 v2 (0 : Int32) σ) else (Option.bind (mX4_groupOf v2 σ) fun u3 => (Option.bind (mX4_ones u3) fun u5 => (mX4_greatest_33 (mX4_greatest_4 n) v1 v2 u5 σ)))))
set_option maxRecDepth 8000 in
set_option maxHeartbeats 4000000 in
theorem mX4_greatest_4_ok (C : bx_Cx p s m args meth c 4 A D cI cZ RX4 cX4_greatest (some .int)) : ∀ (n : Nat) (v1 : Int32) (v2 : Int32) (σ : bx_St) (u : Int32), mX4_greatest_4 n v1 v2 σ = some u → bx_Go p l e (bx_rm 4) s m args below meth c 4 A D (MQ below (bx_Q (some (.int u)) (bx_mw q cI cZ σ) D A) args s 0 0 A) (bx_mw q cI cZ σ) 4 [(0, .ref (q 0)), (1, .int v1), (2, .int v2)] [] := by
  intro n
  induction n with
  | zero =>
    intro v1 v2 σ u hm
    cases hm
  | succ n ih =>
    intro v1 v2 σ u hm
    rw [mX4_greatest_4] at hm
    refine go_iload_n C dX4_greatest_4 rfl 2 rfl (n := 5) rfl ?_
    refine go_bipush C dX4_greatest_5 (v := (12 : Int32)) (by decide) (n := 7) rfl ?_
    refine go_icmp_ge C 51 dX4_greatest_7 (by decide) (n := 10) rfl (fun c1 => ?_) (fun c1 => ?_)
    · have hm := bx_p c1 hm
      refine go_iload_n C dX4_greatest_51 rfl 1 rfl (n := 52) rfl ?_
      cases hm
      exact go_iret C dX4_greatest_52
    · have hm := bx_n c1 hm
      refine go_aload_n C dX4_greatest_10 rfl 0 rfl (n := 11) rfl ?_
      refine go_get C dX4_greatest_11 (mf4_2 q cI cZ σ) rfl inX4 (by decide) fl_X4_73 (n := 14) rfl ?_
      refine go_iload_n C dX4_greatest_14 rfl 2 rfl (n := 15) rfl ?_
      refine go_callSi C dX4_greatest_15 mw_X4_has ml_X4_86 (rest := []) (ktX4_has rfl) (by decide) rfl rfl (Nat.le_of_ble_eq_true rfl) (n := 18) rfl ?_
      refine go_if_eq C 32 dX4_greatest_18 (by decide) (n := 21) rfl (fun c2 => ?_) (fun c2 => ?_)
      · have hm := bx_p c2 hm
        refine go_iconst C dX4_greatest_32 (v := (0 : Int32)) (by decide) (n := 33) rfl ?_
        refine go_lv (lv' := [(0, .ref (q 0)), (1, .int v1), (2, .int v2)]) [0, 1, 2] rfl ?_
        exact mX4_greatest_33_ok C _ ih _ _ _ _ _ hm
      · have hm := bx_n c2 hm
        refine go_aload_n C dX4_greatest_21 rfl 0 rfl (n := 22) rfl ?_
        refine go_iload_n C dX4_greatest_22 rfl 2 rfl (n := 23) rfl ?_
        obtain ⟨u3, e4, hm⟩ := bx_b hm
        refine go_callVi C dX4_greatest_23 mw_X4_groupOf ml_X4_186 (rest := []) (ktX4_groupOf e4) (mo4 q cI cZ σ) rfl (by decide) rfl rfl (Nat.le_of_ble_eq_true rfl) (n := 26) rfl ?_
        obtain ⟨u5, e6, hm⟩ := bx_b hm
        refine go_callSi C dX4_greatest_26 mw_X4_ones ml_X4_183 (rest := []) (ktX4_ones e6) (by decide) rfl rfl (Nat.le_of_ble_eq_true rfl) (n := 29) rfl ?_
        refine go_goto C 33 dX4_greatest_29 (by decide) ?_
        refine go_lv (lv' := [(0, .ref (q 0)), (1, .int v1), (2, .int v2)]) [0, 1, 2] rfl ?_
        exact mX4_greatest_33_ok C _ ih _ _ _ _ _ hm
def mX4_greatest (σ : bx_St) : Option Int32 := (mX4_greatest_4 bx_F (0 : Int32) (0 : Int32) σ)
set_option maxRecDepth 8000 in
set_option maxHeartbeats 4000000 in
theorem ktX4_greatest {l : Launch} {D : va_G} {cI cZ : ClassId} {q : Nat → Nat} {σ : bx_St} {u : Int32} (hm : mX4_greatest σ = some u) : bx_Mt l D cI cZ yX4_greatest cX4_greatest 4 (some .int) 4 [.ref (q 0)] (bx_mw q cI cZ σ) (some (.int u)) (bx_mw q cI cZ σ) := by
  refine bx_mk (by decide) (Nat.le_of_ble_eq_true rfl) (lv := [(0, .ref (q 0))]) rfl (fun p e s m args below meth c A C => ?_)
  replace C : bx_Cx p s m args meth c 4 A D cI cZ RX4 cX4_greatest (some .int) := C
  unfold mX4_greatest at hm
  refine go_iconst C dX4_greatest_0 (v := (0 : Int32)) (by decide) (n := 1) rfl ?_
  refine go_istore_n C dX4_greatest_1 rfl (by decide) (lv' := [(1, .int (0 : Int32)), (0, .ref (q 0))]) rfl (n := 2) rfl ?_
  refine go_iconst C dX4_greatest_2 (v := (0 : Int32)) (by decide) (n := 3) rfl ?_
  refine go_istore_n C dX4_greatest_3 rfl (by decide) (lv' := [(2, .int (0 : Int32)), (1, .int (0 : Int32)), (0, .ref (q 0))]) rfl (n := 4) rfl ?_
  refine go_lv (lv' := [(0, .ref (q 0)), (1, .int (0 : Int32)), (2, .int (0 : Int32))]) [2, 1, 0] rfl ?_
  exact mX4_greatest_4_ok C _ _ _ _ _ hm
def mX4_groups_39 (K4 : Int32 → Int32 → bx_St → Option Int32) (v2 : Int32) (s0 : Int32) (s1 : Int32) (σ : bx_St) : Option Int32 := (K4 (s1 + s0) (v2 + 1) σ)
set_option maxRecDepth 8000 in
set_option maxHeartbeats 4000000 in
theorem mX4_groups_39_ok (C : bx_Cx p s m args meth c 3 A D cI cZ RX4 cX4_groups (some .int)) (K4 : Int32 → Int32 → bx_St → Option Int32) (HK4 : ∀ (v1 : Int32) (v2 : Int32) (σ : bx_St) (u : Int32), K4 v1 v2 σ = some u → bx_Go p l e (bx_rm 4) s m args below meth c 3 A D (MQ below (bx_Q (some (.int u)) (bx_mw q cI cZ σ) D A) args s 0 0 A) (bx_mw q cI cZ σ) 4 [(0, .ref (q 0)), (1, .int v1), (2, .int v2)] []) : ∀ (v2 : Int32) (s0 : Int32) (s1 : Int32) (σ : bx_St) (u : Int32), mX4_groups_39 K4 v2 s0 s1 σ = some u → bx_Go p l e (bx_rm 4) s m args below meth c 3 A D (MQ below (bx_Q (some (.int u)) (bx_mw q cI cZ σ) D A) args s 0 0 A) (bx_mw q cI cZ σ) 39 [(0, .ref (q 0)), (2, .int v2)] [.int s0, .int s1] := by
  intro v2 s0 s1 σ u hm
  unfold mX4_groups_39 at hm
  refine go_iadd C dX4_groups_39 (n := 40) rfl ?_
  refine go_istore_n C dX4_groups_40 rfl (by decide) (lv' := [(1, .int (s1 + s0)), (0, .ref (q 0)), (2, .int v2)]) rfl (n := 41) rfl ?_
  refine go_iinc C (j := 2) dX4_groups_41 rfl (v := (v2 + 1)) rfl (by decide) (lv' := [(2, .int (v2 + 1)), (1, .int (s1 + s0)), (0, .ref (q 0))]) rfl (n := 44) rfl ?_
  refine go_goto C 4 dX4_groups_44 (by decide) ?_
  refine go_lv (lv' := [(0, .ref (q 0)), (1, .int (s1 + s0)), (2, .int (v2 + 1))]) [2, 1, 0] rfl ?_
  exact HK4 _ _ _ _ hm
def mX4_groups_38 (K4 : Int32 → Int32 → bx_St → Option Int32) (v2 : Int32) (s0 : Int32) (σ : bx_St) : Option Int32 := (mX4_groups_39 K4 v2 (0 : Int32) s0 σ)
set_option maxRecDepth 8000 in
set_option maxHeartbeats 4000000 in
theorem mX4_groups_38_ok (C : bx_Cx p s m args meth c 3 A D cI cZ RX4 cX4_groups (some .int)) (K4 : Int32 → Int32 → bx_St → Option Int32) (HK4 : ∀ (v1 : Int32) (v2 : Int32) (σ : bx_St) (u : Int32), K4 v1 v2 σ = some u → bx_Go p l e (bx_rm 4) s m args below meth c 3 A D (MQ below (bx_Q (some (.int u)) (bx_mw q cI cZ σ) D A) args s 0 0 A) (bx_mw q cI cZ σ) 4 [(0, .ref (q 0)), (1, .int v1), (2, .int v2)] []) : ∀ (v2 : Int32) (s0 : Int32) (σ : bx_St) (u : Int32), mX4_groups_38 K4 v2 s0 σ = some u → bx_Go p l e (bx_rm 4) s m args below meth c 3 A D (MQ below (bx_Q (some (.int u)) (bx_mw q cI cZ σ) D A) args s 0 0 A) (bx_mw q cI cZ σ) 38 [(0, .ref (q 0)), (2, .int v2)] [.int s0] := by
  intro v2 s0 σ u hm
  unfold mX4_groups_38 at hm
  refine go_iconst C dX4_groups_38 (v := (0 : Int32)) (by decide) (n := 39) rfl ?_
  refine go_lv (lv' := [(0, .ref (q 0)), (2, .int v2)]) [0, 1] rfl ?_
  exact mX4_groups_39_ok C _ HK4 _ _ _ _ _ hm
def mX4_groups_4 : Nat → Int32 → Int32 → bx_St → Option Int32
  | 0, _, _, _ => none
  | n + 1, v1, v2, σ => (if (12 : Int32) ≤ v2 then (some v1) else (if (mX4_has (σ.1 0 2) v2) = 0 then (mX4_groups_38 (mX4_groups_4 n) v2 v1 σ) else (Option.bind (mX4_groupOf v2 σ) fun u3 => (Option.bind (mX4_least u3) fun u5 => (if u5 = v2 then (mX4_groups_39 (mX4_groups_4 n) v2 (1 : Int32) v1 σ) else (mX4_groups_38 (mX4_groups_4 n) v2 v1 σ))))))
set_option maxRecDepth 8000 in
set_option maxHeartbeats 4000000 in
theorem mX4_groups_4_ok (C : bx_Cx p s m args meth c 3 A D cI cZ RX4 cX4_groups (some .int)) : ∀ (n : Nat) (v1 : Int32) (v2 : Int32) (σ : bx_St) (u : Int32), mX4_groups_4 n v1 v2 σ = some u → bx_Go p l e (bx_rm 4) s m args below meth c 3 A D (MQ below (bx_Q (some (.int u)) (bx_mw q cI cZ σ) D A) args s 0 0 A) (bx_mw q cI cZ σ) 4 [(0, .ref (q 0)), (1, .int v1), (2, .int v2)] [] := by
  intro n
  induction n with
  | zero =>
    intro v1 v2 σ u hm
    cases hm
  | succ n ih =>
    intro v1 v2 σ u hm
    rw [mX4_groups_4] at hm
    refine go_iload_n C dX4_groups_4 rfl 2 rfl (n := 5) rfl ?_
    refine go_bipush C dX4_groups_5 (v := (12 : Int32)) (by decide) (n := 7) rfl ?_
    refine go_icmp_ge C 47 dX4_groups_7 (by decide) (n := 10) rfl (fun c1 => ?_) (fun c1 => ?_)
    · have hm := bx_p c1 hm
      refine go_iload_n C dX4_groups_47 rfl 1 rfl (n := 48) rfl ?_
      cases hm
      exact go_iret C dX4_groups_48
    · have hm := bx_n c1 hm
      refine go_iload_n C dX4_groups_10 rfl 1 rfl (n := 11) rfl ?_
      refine go_aload_n C dX4_groups_11 rfl 0 rfl (n := 12) rfl ?_
      refine go_get C dX4_groups_12 (mf4_2 q cI cZ σ) rfl inX4 (by decide) fl_X4_73 (n := 15) rfl ?_
      refine go_iload_n C dX4_groups_15 rfl 2 rfl (n := 16) rfl ?_
      refine go_callSi C dX4_groups_16 mw_X4_has ml_X4_86 (rest := [.int v1]) (ktX4_has rfl) (by decide) rfl rfl (Nat.le_of_ble_eq_true rfl) (n := 19) rfl ?_
      refine go_if_eq C 38 dX4_groups_19 (by decide) (n := 22) rfl (fun c2 => ?_) (fun c2 => ?_)
      · have hm := bx_p c2 hm
        refine go_lv (lv' := [(0, .ref (q 0)), (2, .int v2)]) [0, 2] rfl ?_
        exact mX4_groups_38_ok C _ ih _ _ _ _ hm
      · have hm := bx_n c2 hm
        refine go_aload_n C dX4_groups_22 rfl 0 rfl (n := 23) rfl ?_
        refine go_iload_n C dX4_groups_23 rfl 2 rfl (n := 24) rfl ?_
        obtain ⟨u3, e4, hm⟩ := bx_b hm
        refine go_callVi C dX4_groups_24 mw_X4_groupOf ml_X4_186 (rest := [.int v1]) (ktX4_groupOf e4) (mo4 q cI cZ σ) rfl (by decide) rfl rfl (Nat.le_of_ble_eq_true rfl) (n := 27) rfl ?_
        obtain ⟨u5, e6, hm⟩ := bx_b hm
        refine go_callSi C dX4_groups_27 mw_X4_least ml_X4_189 (rest := [.int v1]) (ktX4_least e6) (by decide) rfl rfl (Nat.le_of_ble_eq_true rfl) (n := 30) rfl ?_
        refine go_iload_n C dX4_groups_30 rfl 2 rfl (n := 31) rfl ?_
        refine go_icmp_ne C 38 dX4_groups_31 (by decide) (n := 34) rfl (fun c7 => ?_) (fun c7 => ?_)
        · have hm := bx_n c7 hm
          refine go_lv (lv' := [(0, .ref (q 0)), (2, .int v2)]) [0, 2] rfl ?_
          exact mX4_groups_38_ok C _ ih _ _ _ _ hm
        · have hm := bx_p c7 hm
          refine go_iconst C dX4_groups_34 (v := (1 : Int32)) (by decide) (n := 35) rfl ?_
          refine go_goto C 39 dX4_groups_35 (by decide) ?_
          refine go_lv (lv' := [(0, .ref (q 0)), (2, .int v2)]) [0, 2] rfl ?_
          exact mX4_groups_39_ok C _ ih _ _ _ _ _ hm
def mX4_groups (σ : bx_St) : Option Int32 := (mX4_groups_4 bx_F (0 : Int32) (0 : Int32) σ)
set_option maxRecDepth 8000 in
set_option maxHeartbeats 4000000 in
theorem ktX4_groups {l : Launch} {D : va_G} {cI cZ : ClassId} {q : Nat → Nat} {σ : bx_St} {u : Int32} (hm : mX4_groups σ = some u) : bx_Mt l D cI cZ yX4_groups cX4_groups 3 (some .int) 4 [.ref (q 0)] (bx_mw q cI cZ σ) (some (.int u)) (bx_mw q cI cZ σ) := by
  refine bx_mk (by decide) (Nat.le_of_ble_eq_true rfl) (lv := [(0, .ref (q 0))]) rfl (fun p e s m args below meth c A C => ?_)
  replace C : bx_Cx p s m args meth c 3 A D cI cZ RX4 cX4_groups (some .int) := C
  unfold mX4_groups at hm
  refine go_iconst C dX4_groups_0 (v := (0 : Int32)) (by decide) (n := 1) rfl ?_
  refine go_istore_n C dX4_groups_1 rfl (by decide) (lv' := [(1, .int (0 : Int32)), (0, .ref (q 0))]) rfl (n := 2) rfl ?_
  refine go_iconst C dX4_groups_2 (v := (0 : Int32)) (by decide) (n := 3) rfl ?_
  refine go_istore_n C dX4_groups_3 rfl (by decide) (lv' := [(2, .int (0 : Int32)), (1, .int (0 : Int32)), (0, .ref (q 0))]) rfl (n := 4) rfl ?_
  refine go_lv (lv' := [(0, .ref (q 0)), (1, .int (0 : Int32)), (2, .int (0 : Int32))]) [2, 1, 0] rfl ?_
  exact mX4_groups_4_ok C _ _ _ _ _ hm
def mX4_heapNow (v1 : Int32) (σ : bx_St) : Option Int32 := (if v1 = (0 : Int32) then (Option.bind (mX4_groups σ) fun u2 => (some u2)) else (if v1 = (1 : Int32) then (Option.bind (mX4_greatest σ) fun u5 => (some u5)) else (if v1 = (2 : Int32) then (Option.bind (mX4_deepest σ) fun u8 => (some u8)) else (Option.bind (mX4_deepest σ) fun u10 => (Option.bind (mX4_ones u10) fun u12 => (some u12))))))
set_option maxRecDepth 8000 in
set_option maxHeartbeats 4000000 in
theorem ktX4_heapNow {l : Launch} {D : va_G} {cI cZ : ClassId} {q : Nat → Nat} {v1 : Int32} {σ : bx_St} {u : Int32} (hm : mX4_heapNow v1 σ = some u) : bx_Mt l D cI cZ yX4_heapNow cX4_heapNow 2 (some .int) 5 [.ref (q 0), .int v1] (bx_mw q cI cZ σ) (some (.int u)) (bx_mw q cI cZ σ) := by
  refine bx_mk (by decide) (Nat.le_of_ble_eq_true rfl) (lv := [(0, .ref (q 0)), (1, .int v1)]) rfl (fun p e s m args below meth c A C => ?_)
  replace C : bx_Cx p s m args meth c 2 A D cI cZ RX4 cX4_heapNow (some .int) := C
  unfold mX4_heapNow at hm
  refine go_iload_n C dX4_heapNow_0 rfl 1 rfl (n := 1) rfl ?_
  by_cases c1 : v1 = (0 : Int32)
  · have hm := bx_p c1 hm
    refine go_tableIn C 28 dX4_heapNow_1 (off := 27) (by rw [c1]; decide) (by rw [c1]; decide) (by rw [c1]; decide) (by decide) ?_
    refine go_aload_n C dX4_heapNow_28 rfl 0 rfl (n := 29) rfl ?_
    obtain ⟨u2, e3, hm⟩ := bx_b hm
    refine go_callVi C dX4_heapNow_29 mw_X4_groups ml_X4_218 (rest := []) (ktX4_groups e3) (mo4 q cI cZ σ) rfl (by decide) rfl rfl (Nat.le_of_ble_eq_true rfl) (n := 32) rfl ?_
    cases hm
    exact go_iret C dX4_heapNow_32
  have hm := bx_n c1 hm
  by_cases c4 : v1 = (1 : Int32)
  · have hm := bx_p c4 hm
    refine go_tableIn C 33 dX4_heapNow_1 (off := 32) (by rw [c4]; decide) (by rw [c4]; decide) (by rw [c4]; decide) (by decide) ?_
    refine go_aload_n C dX4_heapNow_33 rfl 0 rfl (n := 34) rfl ?_
    obtain ⟨u5, e6, hm⟩ := bx_b hm
    refine go_callVi C dX4_heapNow_34 mw_X4_greatest ml_X4_221 (rest := []) (ktX4_greatest e6) (mo4 q cI cZ σ) rfl (by decide) rfl rfl (Nat.le_of_ble_eq_true rfl) (n := 37) rfl ?_
    cases hm
    exact go_iret C dX4_heapNow_37
  have hm := bx_n c4 hm
  by_cases c7 : v1 = (2 : Int32)
  · have hm := bx_p c7 hm
    refine go_tableIn C 38 dX4_heapNow_1 (off := 37) (by rw [c7]; decide) (by rw [c7]; decide) (by rw [c7]; decide) (by decide) ?_
    refine go_aload_n C dX4_heapNow_38 rfl 0 rfl (n := 39) rfl ?_
    obtain ⟨u8, e9, hm⟩ := bx_b hm
    refine go_callVi C dX4_heapNow_39 mw_X4_deepest ml_X4_224 (rest := []) (ktX4_deepest e9) (mo4 q cI cZ σ) rfl (by decide) rfl rfl (Nat.le_of_ble_eq_true rfl) (n := 42) rfl ?_
    cases hm
    exact go_iret C dX4_heapNow_42
  have hm := bx_n c7 hm
  have nc1 := bx_ne (n := 0) (0 : Int32) (by decide) c1
  have nc4 := bx_ne (n := 1) (1 : Int32) (by decide) c4
  have nc7 := bx_ne (n := 2) (2 : Int32) (by decide) c7
  refine go_tableOut C 43 dX4_heapNow_1 (by omega) (by decide) ?_
  refine go_aload_n C dX4_heapNow_43 rfl 0 rfl (n := 44) rfl ?_
  obtain ⟨u10, e11, hm⟩ := bx_b hm
  refine go_callVi C dX4_heapNow_44 mw_X4_deepest ml_X4_224 (rest := []) (ktX4_deepest e11) (mo4 q cI cZ σ) rfl (by decide) rfl rfl (Nat.le_of_ble_eq_true rfl) (n := 47) rfl ?_
  obtain ⟨u12, e13, hm⟩ := bx_b hm
  refine go_callSi C dX4_heapNow_47 mw_X4_ones ml_X4_183 (rest := []) (ktX4_ones e13) (by decide) rfl rfl (Nat.le_of_ble_eq_true rfl) (n := 50) rfl ?_
  cases hm
  exact go_iret C dX4_heapNow_50
def mX4_latestNow (v1 : Int32) (σ : bx_St) : Option Int32 := (if v1 = (0 : Int32) then (some (σ.1 0 8)) else (if v1 = (1 : Int32) then (some (σ.1 0 11)) else (if v1 = (2 : Int32) then (some ((σ.1 0 8) - (σ.1 0 11))) else (if v1 = (3 : Int32) then (some (σ.1 0 12)) else (if bx_ok (v1 - (4 : Int32)) 3 then (some (σ.1 7 (v1 - (4 : Int32)).toNatClampNeg)) else none)))))
set_option maxRecDepth 8000 in
set_option maxHeartbeats 4000000 in
theorem ktX4_latestNow {l : Launch} {D : va_G} {cI cZ : ClassId} {q : Nat → Nat} {v1 : Int32} {σ : bx_St} {u : Int32} (hm : mX4_latestNow v1 σ = some u) : bx_Mt l D cI cZ yX4_latestNow cX4_latestNow 2 (some .int) 1 [.ref (q 0), .int v1] (bx_mw q cI cZ σ) (some (.int u)) (bx_mw q cI cZ σ) := by
  refine bx_mk (by decide) (Nat.le_of_ble_eq_true rfl) (lv := [(0, .ref (q 0)), (1, .int v1)]) rfl (fun p e s m args below meth c A C => ?_)
  replace C : bx_Cx p s m args meth c 2 A D cI cZ RX4 cX4_latestNow (some .int) := C
  unfold mX4_latestNow at hm
  refine go_iload_n C dX4_latestNow_0 rfl 1 rfl (n := 1) rfl ?_
  by_cases c1 : v1 = (0 : Int32)
  · have hm := bx_p c1 hm
    refine go_tableIn C 32 dX4_latestNow_1 (off := 31) (by rw [c1]; decide) (by rw [c1]; decide) (by rw [c1]; decide) (by decide) ?_
    refine go_aload_n C dX4_latestNow_32 rfl 0 rfl (n := 33) rfl ?_
    refine go_get C dX4_latestNow_33 (mf4_8 q cI cZ σ) rfl inX4 (by decide) fl_X4_126 (n := 36) rfl ?_
    cases hm
    exact go_iret C dX4_latestNow_36
  have hm := bx_n c1 hm
  by_cases c2 : v1 = (1 : Int32)
  · have hm := bx_p c2 hm
    refine go_tableIn C 37 dX4_latestNow_1 (off := 36) (by rw [c2]; decide) (by rw [c2]; decide) (by rw [c2]; decide) (by decide) ?_
    refine go_aload_n C dX4_latestNow_37 rfl 0 rfl (n := 38) rfl ?_
    refine go_get C dX4_latestNow_38 (mf4_11 q cI cZ σ) rfl inX4 (by decide) fl_X4_129 (n := 41) rfl ?_
    cases hm
    exact go_iret C dX4_latestNow_41
  have hm := bx_n c2 hm
  by_cases c3 : v1 = (2 : Int32)
  · have hm := bx_p c3 hm
    refine go_tableIn C 42 dX4_latestNow_1 (off := 41) (by rw [c3]; decide) (by rw [c3]; decide) (by rw [c3]; decide) (by decide) ?_
    refine go_aload_n C dX4_latestNow_42 rfl 0 rfl (n := 43) rfl ?_
    refine go_get C dX4_latestNow_43 (mf4_8 q cI cZ σ) rfl inX4 (by decide) fl_X4_126 (n := 46) rfl ?_
    refine go_aload_n C dX4_latestNow_46 rfl 0 rfl (n := 47) rfl ?_
    refine go_get C dX4_latestNow_47 (mf4_11 q cI cZ σ) rfl inX4 (by decide) fl_X4_129 (n := 50) rfl ?_
    refine go_isub C dX4_latestNow_50 (n := 51) rfl ?_
    cases hm
    exact go_iret C dX4_latestNow_51
  have hm := bx_n c3 hm
  by_cases c4 : v1 = (3 : Int32)
  · have hm := bx_p c4 hm
    refine go_tableIn C 52 dX4_latestNow_1 (off := 51) (by rw [c4]; decide) (by rw [c4]; decide) (by rw [c4]; decide) (by decide) ?_
    refine go_aload_n C dX4_latestNow_52 rfl 0 rfl (n := 53) rfl ?_
    refine go_get C dX4_latestNow_53 (mf4_12 q cI cZ σ) rfl inX4 (by decide) fl_X4_135 (n := 56) rfl ?_
    cases hm
    exact go_iret C dX4_latestNow_56
  have hm := bx_n c4 hm
  have nc1 := bx_ne (n := 0) (0 : Int32) (by decide) c1
  have nc2 := bx_ne (n := 1) (1 : Int32) (by decide) c2
  have nc3 := bx_ne (n := 2) (2 : Int32) (by decide) c3
  have nc4 := bx_ne (n := 3) (3 : Int32) (by decide) c4
  refine go_tableOut C 57 dX4_latestNow_1 (by omega) (by decide) ?_
  refine go_aload_n C dX4_latestNow_57 rfl 0 rfl (n := 58) rfl ?_
  refine go_get C dX4_latestNow_58 (mf4_13 q cI cZ σ) rfl inX4 (by decide) fl_X4_28 (n := 61) rfl ?_
  refine go_iload_n C dX4_latestNow_61 rfl 1 rfl (n := 62) rfl ?_
  refine go_iconst C dX4_latestNow_62 (v := (4 : Int32)) (by decide) (n := 63) rfl ?_
  refine go_isub C dX4_latestNow_63 (n := 64) rfl ?_
  obtain ⟨b5, hm⟩ := bx_g hm
  refine go_iald C dX4_latestNow_64 (ma_7 q cI cZ σ) b5 (n := 65) rfl ?_
  cases hm
  exact go_iret C dX4_latestNow_65
def mX4_mix (w1 : Int64) (σ : bx_St) : bx_St := (σ.1, (((31 : Int64) * σ.2) + w1))
set_option maxRecDepth 8000 in
set_option maxHeartbeats 4000000 in
theorem ktX4_mix {l : Launch} {D : va_G} {cI cZ : ClassId} {q : Nat → Nat} {w1 : Int64} {σ : bx_St} {u : bx_St} (hm : mX4_mix w1 σ = u) : bx_Mt l D cI cZ yX4_mix cX4_mix 3 none 1 [.ref (q 0), .long w1] (bx_mw q cI cZ σ) none (bx_mw q cI cZ u) := by
  refine bx_mk (by decide) (Nat.le_of_ble_eq_true rfl) (lv := [(0, .ref (q 0)), (1, .long w1)]) rfl (fun p e s m args below meth c A C => ?_)
  replace C : bx_Cx p s m args meth c 3 A D cI cZ RX4 cX4_mix none := C
  unfold mX4_mix at hm
  refine go_aload_n C dX4_mix_0 rfl 0 rfl (n := 1) rfl ?_
  refine go_ldc2 C dX4_mix_1 (v := (31 : Int64)) kc_X4_239 (n := 4) rfl ?_
  refine go_aload_n C dX4_mix_4 rfl 0 rfl (n := 5) rfl ?_
  refine go_get C dX4_mix_5 (mf4_27 q cI cZ σ) rfl inX4 (by decide) fl_X4_241 (n := 8) rfl ?_
  refine go_lmul C dX4_mix_8 (n := 9) rfl ?_
  refine go_lload_n C dX4_mix_9 rfl 1 rfl (n := 10) rfl ?_
  refine go_ladd C dX4_mix_10 (n := 11) rfl ?_
  refine go_put C dX4_mix_11 (mp4_27 q cI cZ σ (((31 : Int64) * σ.2) + w1)) rfl inX4 tyX4_ok nmX4 (by decide) fl_X4_241 rfl (ty := .long) (by decide +kernel) (by rfl) (by rfl) (n := 14) rfl ?_
  subst hm
  exact go_vret C dX4_mix_14
def mX4_letBy_142 (v6 : Int32) (s0 : Int32) (σ : bx_St) : Option Int32 := (if 0 ≤ s0 then (some ((s0 + (1 : Int32)) - v6)) else (some (-10001 : Int32)))
set_option maxRecDepth 8000 in
set_option maxHeartbeats 4000000 in
theorem mX4_letBy_142_ok (C : bx_Cx p s m args meth c 8 A D cI cZ RX4 cX4_letBy (some .int)) : ∀ (v6 : Int32) (s0 : Int32) (σ : bx_St) (u : Int32), mX4_letBy_142 v6 s0 σ = some u → bx_Go p l e (bx_rm 2) s m args below meth c 8 A D (MQ below (bx_Q (some (.int u)) (bx_mw q cI cZ σ) D A) args s 0 0 A) (bx_mw q cI cZ σ) 142 [(6, .int v6)] [.int s0] := by
  intro v6 s0 σ u hm
  unfold mX4_letBy_142 at hm
  refine go_istore C dX4_letBy_142 (by decide) (lv' := [(7, .int s0), (6, .int v6)]) rfl (n := 144) rfl ?_
  refine go_iload C dX4_letBy_144 0 rfl (n := 146) rfl ?_
  refine go_if_ge C 155 dX4_letBy_146 (by decide) (n := 149) rfl (fun c1 => ?_) (fun c1 => ?_)
  · have hm := bx_p c1 hm
    refine go_iload C dX4_letBy_155 0 rfl (n := 157) rfl ?_
    refine go_iconst C dX4_letBy_157 (v := (1 : Int32)) (by decide) (n := 158) rfl ?_
    refine go_iadd C dX4_letBy_158 (n := 159) rfl ?_
    refine go_iload C dX4_letBy_159 1 rfl (n := 161) rfl ?_
    refine go_isub C dX4_letBy_161 (n := 162) rfl ?_
    cases hm
    exact go_iret C dX4_letBy_162
  · have hm := bx_n c1 hm
    refine go_sipush C dX4_letBy_149 (v := (-10001 : Int32)) (by decide) (n := 152) rfl ?_
    refine go_goto C 162 dX4_letBy_152 (by decide) ?_
    cases hm
    exact go_iret C dX4_letBy_162
def mX4_letBy_45 (v1 : Int32) (v2 : Int32) (v3 : Int32) (v4 : Int32) (s0 : Int32) (σ : bx_St) : Option Int32 := (if bx_ok (((12 : Int32) * v1) + v2) 144 then (if (mX4_has (σ.1 4 (((12 : Int32) * v1) + v2).toNatClampNeg) v3) = 0 then (if v4 = (1 : Int32) then (Option.bind (mX4_lowOf v2 v3 σ) fun u8 => (Option.bind (mX4_highOf v1 v3 σ) fun u10 => (mX4_letBy_142 s0 (u8 - u10) σ))) else (Option.bind (mX4_lowOf v1 v3 σ) fun u4 => (Option.bind (mX4_highOf v2 v3 σ) fun u6 => (mX4_letBy_142 s0 (u4 - u6) σ)))) else (if v4 = (1 : Int32) then (Option.bind (mX4_highOf v2 v3 σ) fun u17 => (Option.bind (mX4_lowOf v1 v3 σ) fun u19 => (some ((u17 - u19) + s0)))) else (Option.bind (mX4_highOf v1 v3 σ) fun u13 => (Option.bind (mX4_lowOf v2 v3 σ) fun u15 => (some ((u13 - u15) + s0)))))) else none)
set_option maxRecDepth 8000 in
set_option maxHeartbeats 4000000 in
theorem mX4_letBy_45_ok (C : bx_Cx p s m args meth c 8 A D cI cZ RX4 cX4_letBy (some .int)) : ∀ (v1 : Int32) (v2 : Int32) (v3 : Int32) (v4 : Int32) (s0 : Int32) (σ : bx_St) (u : Int32), mX4_letBy_45 v1 v2 v3 v4 s0 σ = some u → bx_Go p l e (bx_rm 2) s m args below meth c 8 A D (MQ below (bx_Q (some (.int u)) (bx_mw q cI cZ σ) D A) args s 0 0 A) (bx_mw q cI cZ σ) 45 [(0, .ref (q 0)), (1, .int v1), (2, .int v2), (3, .int v3), (4, .int v4)] [.int s0] := by
  intro v1 v2 v3 v4 s0 σ u hm
  unfold mX4_letBy_45 at hm
  refine go_istore C dX4_letBy_45 (by decide) (lv' := [(6, .int s0), (0, .ref (q 0)), (1, .int v1), (2, .int v2), (3, .int v3), (4, .int v4)]) rfl (n := 47) rfl ?_
  refine go_aload_n C dX4_letBy_47 rfl 1 rfl (n := 48) rfl ?_
  refine go_get C dX4_letBy_48 (mf4_7 q cI cZ σ) rfl inX4 (by decide) fl_X4_19 (n := 51) rfl ?_
  refine go_bipush C dX4_letBy_51 (v := (12 : Int32)) (by decide) (n := 53) rfl ?_
  refine go_iload_n C dX4_letBy_53 rfl 2 rfl (n := 54) rfl ?_
  refine go_imul C dX4_letBy_54 (n := 55) rfl ?_
  refine go_iload_n C dX4_letBy_55 rfl 3 rfl (n := 56) rfl ?_
  refine go_iadd C dX4_letBy_56 (n := 57) rfl ?_
  obtain ⟨b1, hm⟩ := bx_g hm
  refine go_iald C dX4_letBy_57 (ma_4 q cI cZ σ) b1 (n := 58) rfl ?_
  refine go_iload_n C dX4_letBy_58 rfl 4 rfl (n := 59) rfl ?_
  refine go_callSi C dX4_letBy_59 mw_X4_has ml_X4_86 (rest := []) (ktX4_has rfl) (by decide) rfl rfl (Nat.le_of_ble_eq_true rfl) (n := 62) rfl ?_
  refine go_if_eq C 107 dX4_letBy_62 (by decide) (n := 65) rfl (fun c2 => ?_) (fun c2 => ?_)
  · have hm := bx_p c2 hm
    refine go_iload C dX4_letBy_107 5 rfl (n := 109) rfl ?_
    refine go_iconst C dX4_letBy_109 (v := (1 : Int32)) (by decide) (n := 110) rfl ?_
    refine go_icmp_ne C 129 dX4_letBy_110 (by decide) (n := 113) rfl (fun c3 => ?_) (fun c3 => ?_)
    · have hm := bx_n c3 hm
      refine go_aload_n C dX4_letBy_129 rfl 1 rfl (n := 130) rfl ?_
      refine go_iload_n C dX4_letBy_130 rfl 2 rfl (n := 131) rfl ?_
      refine go_iload_n C dX4_letBy_131 rfl 4 rfl (n := 132) rfl ?_
      obtain ⟨u4, e5, hm⟩ := bx_b hm
      refine go_callVi C dX4_letBy_132 mw_X4_lowOf ml_X4_104 (rest := []) (ktX4_lowOf e5) (mo4 q cI cZ σ) rfl (by decide) rfl rfl (Nat.le_of_ble_eq_true rfl) (n := 135) rfl ?_
      refine go_aload_n C dX4_letBy_135 rfl 1 rfl (n := 136) rfl ?_
      refine go_iload_n C dX4_letBy_136 rfl 3 rfl (n := 137) rfl ?_
      refine go_iload_n C dX4_letBy_137 rfl 4 rfl (n := 138) rfl ?_
      obtain ⟨u6, e7, hm⟩ := bx_b hm
      refine go_callVi C dX4_letBy_138 mw_X4_highOf ml_X4_107 (rest := [.int u4]) (ktX4_highOf e7) (mo4 q cI cZ σ) rfl (by decide) rfl rfl (Nat.le_of_ble_eq_true rfl) (n := 141) rfl ?_
      refine go_isub C dX4_letBy_141 (n := 142) rfl ?_
      refine go_lv (lv' := [(6, .int s0)]) [0] rfl ?_
      exact mX4_letBy_142_ok C _ _ _ _ hm
    · have hm := bx_p c3 hm
      refine go_aload_n C dX4_letBy_113 rfl 1 rfl (n := 114) rfl ?_
      refine go_iload_n C dX4_letBy_114 rfl 3 rfl (n := 115) rfl ?_
      refine go_iload_n C dX4_letBy_115 rfl 4 rfl (n := 116) rfl ?_
      obtain ⟨u8, e9, hm⟩ := bx_b hm
      refine go_callVi C dX4_letBy_116 mw_X4_lowOf ml_X4_104 (rest := []) (ktX4_lowOf e9) (mo4 q cI cZ σ) rfl (by decide) rfl rfl (Nat.le_of_ble_eq_true rfl) (n := 119) rfl ?_
      refine go_aload_n C dX4_letBy_119 rfl 1 rfl (n := 120) rfl ?_
      refine go_iload_n C dX4_letBy_120 rfl 2 rfl (n := 121) rfl ?_
      refine go_iload_n C dX4_letBy_121 rfl 4 rfl (n := 122) rfl ?_
      obtain ⟨u10, e11, hm⟩ := bx_b hm
      refine go_callVi C dX4_letBy_122 mw_X4_highOf ml_X4_107 (rest := [.int u8]) (ktX4_highOf e11) (mo4 q cI cZ σ) rfl (by decide) rfl rfl (Nat.le_of_ble_eq_true rfl) (n := 125) rfl ?_
      refine go_isub C dX4_letBy_125 (n := 126) rfl ?_
      refine go_goto C 142 dX4_letBy_126 (by decide) ?_
      refine go_lv (lv' := [(6, .int s0)]) [0] rfl ?_
      exact mX4_letBy_142_ok C _ _ _ _ hm
  · have hm := bx_n c2 hm
    refine go_iload C dX4_letBy_65 5 rfl (n := 67) rfl ?_
    refine go_iconst C dX4_letBy_67 (v := (1 : Int32)) (by decide) (n := 68) rfl ?_
    refine go_icmp_ne C 90 dX4_letBy_68 (by decide) (n := 71) rfl (fun c12 => ?_) (fun c12 => ?_)
    · have hm := bx_n c12 hm
      refine go_aload_n C dX4_letBy_90 rfl 1 rfl (n := 91) rfl ?_
      refine go_iload_n C dX4_letBy_91 rfl 2 rfl (n := 92) rfl ?_
      refine go_iload_n C dX4_letBy_92 rfl 4 rfl (n := 93) rfl ?_
      obtain ⟨u13, e14, hm⟩ := bx_b hm
      refine go_callVi C dX4_letBy_93 mw_X4_highOf ml_X4_107 (rest := []) (ktX4_highOf e14) (mo4 q cI cZ σ) rfl (by decide) rfl rfl (Nat.le_of_ble_eq_true rfl) (n := 96) rfl ?_
      refine go_aload_n C dX4_letBy_96 rfl 1 rfl (n := 97) rfl ?_
      refine go_iload_n C dX4_letBy_97 rfl 3 rfl (n := 98) rfl ?_
      refine go_iload_n C dX4_letBy_98 rfl 4 rfl (n := 99) rfl ?_
      obtain ⟨u15, e16, hm⟩ := bx_b hm
      refine go_callVi C dX4_letBy_99 mw_X4_lowOf ml_X4_104 (rest := [.int u13]) (ktX4_lowOf e16) (mo4 q cI cZ σ) rfl (by decide) rfl rfl (Nat.le_of_ble_eq_true rfl) (n := 102) rfl ?_
      refine go_isub C dX4_letBy_102 (n := 103) rfl ?_
      refine go_iload C dX4_letBy_103 0 rfl (n := 105) rfl ?_
      refine go_iadd C dX4_letBy_105 (n := 106) rfl ?_
      cases hm
      exact go_iret C dX4_letBy_106
    · have hm := bx_p c12 hm
      refine go_aload_n C dX4_letBy_71 rfl 1 rfl (n := 72) rfl ?_
      refine go_iload_n C dX4_letBy_72 rfl 3 rfl (n := 73) rfl ?_
      refine go_iload_n C dX4_letBy_73 rfl 4 rfl (n := 74) rfl ?_
      obtain ⟨u17, e18, hm⟩ := bx_b hm
      refine go_callVi C dX4_letBy_74 mw_X4_highOf ml_X4_107 (rest := []) (ktX4_highOf e18) (mo4 q cI cZ σ) rfl (by decide) rfl rfl (Nat.le_of_ble_eq_true rfl) (n := 77) rfl ?_
      refine go_aload_n C dX4_letBy_77 rfl 1 rfl (n := 78) rfl ?_
      refine go_iload_n C dX4_letBy_78 rfl 2 rfl (n := 79) rfl ?_
      refine go_iload_n C dX4_letBy_79 rfl 4 rfl (n := 80) rfl ?_
      obtain ⟨u19, e20, hm⟩ := bx_b hm
      refine go_callVi C dX4_letBy_80 mw_X4_lowOf ml_X4_104 (rest := [.int u17]) (ktX4_lowOf e20) (mo4 q cI cZ σ) rfl (by decide) rfl rfl (Nat.le_of_ble_eq_true rfl) (n := 83) rfl ?_
      refine go_isub C dX4_letBy_83 (n := 84) rfl ?_
      refine go_iload C dX4_letBy_84 0 rfl (n := 86) rfl ?_
      refine go_iadd C dX4_letBy_86 (n := 87) rfl ?_
      refine go_goto C 106 dX4_letBy_87 (by decide) ?_
      cases hm
      exact go_iret C dX4_letBy_106
def mX4_letBy (v1 : Int32) (v2 : Int32) (v3 : Int32) (v4 : Int32) (σ : bx_St) : Option Int32 := (if bx_ok (((12 : Int32) * v1) + v2) 144 then (if ((σ.1 4 (((12 : Int32) * v1) + v2).toNatClampNeg) &&& ((7 : Int32) &&& (((1 : Int32) <<< (v3 &&& 31)) ^^^ (-1 : Int32)))) = ((7 : Int32) &&& (((1 : Int32) <<< (v3 &&& 31)) ^^^ (-1 : Int32))) then (if (σ.1 0 3) = 0 then (mX4_letBy_45 v1 v2 v3 v4 (0 : Int32) σ) else (mX4_letBy_45 v1 v2 v3 v4 (1 : Int32) σ)) else (some (-10001 : Int32))) else none)
set_option maxRecDepth 8000 in
set_option maxHeartbeats 4000000 in
theorem ktX4_letBy {l : Launch} {D : va_G} {cI cZ : ClassId} {q : Nat → Nat} {v1 : Int32} {v2 : Int32} {v3 : Int32} {v4 : Int32} {σ : bx_St} {u : Int32} (hm : mX4_letBy v1 v2 v3 v4 σ = some u) : bx_Mt l D cI cZ yX4_letBy cX4_letBy 8 (some .int) 2 [.ref (q 0), .int v1, .int v2, .int v3, .int v4] (bx_mw q cI cZ σ) (some (.int u)) (bx_mw q cI cZ σ) := by
  refine bx_mk (by decide) (Nat.le_of_ble_eq_true rfl) (lv := [(0, .ref (q 0)), (1, .int v1), (2, .int v2), (3, .int v3), (4, .int v4)]) rfl (fun p e s m args below meth c A C => ?_)
  replace C : bx_Cx p s m args meth c 8 A D cI cZ RX4 cX4_letBy (some .int) := C
  unfold mX4_letBy at hm
  refine go_bipush C dX4_letBy_0 (v := (7 : Int32)) (by decide) (n := 2) rfl ?_
  refine go_iconst C dX4_letBy_2 (v := (1 : Int32)) (by decide) (n := 3) rfl ?_
  refine go_iload_n C dX4_letBy_3 rfl 3 rfl (n := 4) rfl ?_
  refine go_ishl C dX4_letBy_4 (n := 5) rfl ?_
  refine go_iconst C dX4_letBy_5 (v := (-1 : Int32)) (by decide) (n := 6) rfl ?_
  refine go_ixor C dX4_letBy_6 (n := 7) rfl ?_
  refine go_iand C dX4_letBy_7 (n := 8) rfl ?_
  refine go_istore C dX4_letBy_8 (by decide) (lv' := [(5, .int ((7 : Int32) &&& (((1 : Int32) <<< (v3 &&& 31)) ^^^ (-1 : Int32)))), (0, .ref (q 0)), (1, .int v1), (2, .int v2), (3, .int v3), (4, .int v4)]) rfl (n := 10) rfl ?_
  refine go_aload_n C dX4_letBy_10 rfl 1 rfl (n := 11) rfl ?_
  refine go_get C dX4_letBy_11 (mf4_7 q cI cZ σ) rfl inX4 (by decide) fl_X4_19 (n := 14) rfl ?_
  refine go_bipush C dX4_letBy_14 (v := (12 : Int32)) (by decide) (n := 16) rfl ?_
  refine go_iload_n C dX4_letBy_16 rfl 2 rfl (n := 17) rfl ?_
  refine go_imul C dX4_letBy_17 (n := 18) rfl ?_
  refine go_iload_n C dX4_letBy_18 rfl 3 rfl (n := 19) rfl ?_
  refine go_iadd C dX4_letBy_19 (n := 20) rfl ?_
  obtain ⟨b1, hm⟩ := bx_g hm
  refine go_iald C dX4_letBy_20 (ma_4 q cI cZ σ) b1 (n := 21) rfl ?_
  refine go_iload C dX4_letBy_21 0 rfl (n := 23) rfl ?_
  refine go_iand C dX4_letBy_23 (n := 24) rfl ?_
  refine go_iload C dX4_letBy_24 0 rfl (n := 26) rfl ?_
  refine go_icmp_eq C 33 dX4_letBy_26 (by decide) (n := 29) rfl (fun c2 => ?_) (fun c2 => ?_)
  · have hm := bx_p c2 hm
    refine go_aload_n C dX4_letBy_33 rfl 1 rfl (n := 34) rfl ?_
    refine go_get C dX4_letBy_34 (mf4_3 q cI cZ σ) rfl inX4 (by decide) fl_X4_101 (n := 37) rfl ?_
    refine go_if_eq C 44 dX4_letBy_37 (by decide) (n := 40) rfl (fun c3 => ?_) (fun c3 => ?_)
    · have hm := bx_p c3 hm
      refine go_iconst C dX4_letBy_44 (v := (0 : Int32)) (by decide) (n := 45) rfl ?_
      refine go_lv (lv' := [(0, .ref (q 0)), (1, .int v1), (2, .int v2), (3, .int v3), (4, .int v4)]) [1, 2, 3, 4, 5] rfl ?_
      exact mX4_letBy_45_ok C _ _ _ _ _ _ _ hm
    · have hm := bx_n c3 hm
      refine go_iconst C dX4_letBy_40 (v := (1 : Int32)) (by decide) (n := 41) rfl ?_
      refine go_goto C 45 dX4_letBy_41 (by decide) ?_
      refine go_lv (lv' := [(0, .ref (q 0)), (1, .int v1), (2, .int v2), (3, .int v3), (4, .int v4)]) [1, 2, 3, 4, 5] rfl ?_
      exact mX4_letBy_45_ok C _ _ _ _ _ _ _ hm
  · have hm := bx_n c2 hm
    refine go_sipush C dX4_letBy_29 (v := (-10001 : Int32)) (by decide) (n := 32) rfl ?_
    cases hm
    exact go_iret C dX4_letBy_32
end
