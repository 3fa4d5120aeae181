section
variable {p : Program} {l : Launch} {e : Env} {s : State} {m : MethodId} {args : Array Value} {below : List Frame} {meth : Method} {c : Code} {A : Nat → Prop} {D : va_G} {cI cZ : ClassId} {q : Nat → Nat} {ws : va_W}
def mX4_layRow_115 (K7 : Int32 → Int32 → bx_St → Option bx_St) (v1 : Int32) (v2 : Int32) (σ : bx_St) : Option bx_St := (K7 v1 (v2 + 1) σ)
set_option maxRecDepth 8000 in
set_option maxHeartbeats 4000000 in
theorem mX4_layRow_115_ok (C : bx_Cx p s m args meth c 4 A D cI cZ RX4 cX4_layRow none) (K7 : Int32 → Int32 → bx_St → Option bx_St) (HK7 : ∀ (v1 : Int32) (v2 : Int32) (σ : bx_St) (u : bx_St), K7 v1 v2 σ = some u → bx_Go p l e (bx_rm 3) s m args below meth c 4 A D (MQ below (bx_Q none (bx_mw q cI cZ u) D A) args s 0 0 A) (bx_mw q cI cZ σ) 7 [(0, .ref (q 0)), (1, .int v1), (2, .int v2)] []) : ∀ (v1 : Int32) (v2 : Int32) (σ : bx_St) (u : bx_St), mX4_layRow_115 K7 v1 v2 σ = some u → bx_Go p l e (bx_rm 3) s m args below meth c 4 A D (MQ below (bx_Q none (bx_mw q cI cZ u) D A) args s 0 0 A) (bx_mw q cI cZ σ) 115 [(0, .ref (q 0)), (1, .int v1), (2, .int v2)] [] := by
  intro v1 v2 σ u hm
  unfold mX4_layRow_115 at hm
  refine go_iinc C (j := 2) dX4_layRow_115 rfl (v := (v2 + 1)) rfl (by decide) (lv' := [(2, .int (v2 + 1)), (0, .ref (q 0)), (1, .int v1)]) rfl (n := 118) rfl ?_
  refine go_goto C 7 dX4_layRow_118 (by decide) ?_
  refine go_lv (lv' := [(0, .ref (q 0)), (1, .int v1), (2, .int (v2 + 1))]) [1, 2, 0] rfl ?_
  exact HK7 _ _ _ _ hm
def mX4_layRow_93 (K7 : Int32 → Int32 → bx_St → Option bx_St) (v1 : Int32) (v2 : Int32) (v3 : Int32) (σ : bx_St) : Option bx_St := (if bx_ok (((24 : Int32) * v1) + v3) 72 then (bx_let (bx_up σ 3 (((24 : Int32) * v1) + v3).toNatClampNeg v2) fun σ2 => (mX4_layRow_115 K7 v1 v2 (bx_up σ2 0 5 ((σ2.1 0 5) + (1 : Int32))))) else none)
set_option maxRecDepth 8000 in
set_option maxHeartbeats 4000000 in
theorem mX4_layRow_93_ok (C : bx_Cx p s m args meth c 4 A D cI cZ RX4 cX4_layRow none) (K7 : Int32 → Int32 → bx_St → Option bx_St) (HK7 : ∀ (v1 : Int32) (v2 : Int32) (σ : bx_St) (u : bx_St), K7 v1 v2 σ = some u → bx_Go p l e (bx_rm 3) s m args below meth c 4 A D (MQ below (bx_Q none (bx_mw q cI cZ u) D A) args s 0 0 A) (bx_mw q cI cZ σ) 7 [(0, .ref (q 0)), (1, .int v1), (2, .int v2)] []) : ∀ (v1 : Int32) (v2 : Int32) (v3 : Int32) (σ : bx_St) (u : bx_St), mX4_layRow_93 K7 v1 v2 v3 σ = some u → bx_Go p l e (bx_rm 3) s m args below meth c 4 A D (MQ below (bx_Q none (bx_mw q cI cZ u) D A) args s 0 0 A) (bx_mw q cI cZ σ) 93 [(0, .ref (q 0)), (1, .int v1), (2, .int v2), (3, .int v3)] [] := by
  intro v1 v2 v3 σ u hm
  unfold mX4_layRow_93 at hm
  refine go_aload_n C dX4_layRow_93 rfl 0 rfl (n := 94) rfl ?_
  refine go_get C dX4_layRow_94 (mf4_6 q cI cZ σ) rfl inX4 (by decide) fl_X4_16 (n := 97) rfl ?_
  refine go_bipush C dX4_layRow_97 (v := (24 : Int32)) (by decide) (n := 99) rfl ?_
  refine go_iload_n C dX4_layRow_99 rfl 1 rfl (n := 100) rfl ?_
  refine go_imul C dX4_layRow_100 (n := 101) rfl ?_
  refine go_iload_n C dX4_layRow_101 rfl 3 rfl (n := 102) rfl ?_
  refine go_iadd C dX4_layRow_102 (n := 103) rfl ?_
  refine go_iload_n C dX4_layRow_103 rfl 2 rfl (n := 104) rfl ?_
  obtain ⟨b1, hm⟩ := bx_g hm
  obtain ⟨σ2, z3, hm⟩ := bx_lt hm
  refine go_iast C dX4_layRow_104 (ws' := (bx_mw q cI cZ σ2)) (by rw [z3]; exact (mu_3 q cI cZ σ (((24 : Int32) * v1) + v3) v2)) b1 (n := 105) rfl ?_
  refine go_aload_n C dX4_layRow_105 rfl 0 rfl (n := 106) rfl ?_
  refine go_dup C dX4_layRow_106 rfl (n := 107) rfl ?_
  refine go_get C dX4_layRow_107 (mf4_5 q cI cZ σ2) rfl inX4 (by decide) fl_X4_110 (n := 110) rfl ?_
  refine go_iconst C dX4_layRow_110 (v := (1 : Int32)) (by decide) (n := 111) rfl ?_
  refine go_iadd C dX4_layRow_111 (n := 112) rfl ?_
  refine go_put C dX4_layRow_112 (mp4_5 q cI cZ σ2 ((σ2.1 0 5) + (1 : Int32))) rfl inX4 tyX4_ok nmX4 (by decide) fl_X4_110 rfl (ty := .int) (by decide +kernel) (by rfl) (by rfl) (n := 115) rfl ?_
  refine go_lv (lv' := [(0, .ref (q 0)), (1, .int v1), (2, .int v2)]) [0, 1, 2] rfl ?_
  exact mX4_layRow_115_ok C _ HK7 _ _ _ _ hm
def mX4_layRow_31 (K7 : Int32 → Int32 → bx_St → Option bx_St) : Nat → Int32 → Int32 → Int32 → bx_St → Option bx_St
  | 0, _, _, _, _ => none
  | n + 1, v1, v2, v3, σ => (if v3 ≤ 0 then (mX4_layRow_93 K7 v1 v2 v3 σ) else (Option.bind (mX4_valueOf v2 v1 σ) fun u2 => (if bx_ok ((((24 : Int32) * v1) + v3) - (1 : Int32)) 72 then (Option.bind (mX4_isAhead v2 u2 (σ.1 3 ((((24 : Int32) * v1) + v3) - (1 : Int32)).toNatClampNeg) v1 σ) fun u5 => (if u5 = 0 then (mX4_layRow_93 K7 v1 v2 v3 σ) else (if bx_ok ((((24 : Int32) * v1) + v3) - (1 : Int32)) 72 then (if bx_ok (((24 : Int32) * v1) + v3) 72 then (bx_let (bx_up σ 3 (((24 : Int32) * v1) + v3).toNatClampNeg (σ.1 3 ((((24 : Int32) * v1) + v3) - (1 : Int32)).toNatClampNeg)) fun σ10 => (mX4_layRow_31 K7 n v1 v2 (v3 + (-1)) σ10)) else none) else none))) else none)))
set_option maxRecDepth 8000 in
set_option maxHeartbeats 4000000 in
theorem mX4_layRow_31_ok (C : bx_Cx p s m args meth c 4 A D cI cZ RX4 cX4_layRow none) (K7 : Int32 → Int32 → bx_St → Option bx_St) (HK7 : ∀ (v1 : Int32) (v2 : Int32) (σ : bx_St) (u : bx_St), K7 v1 v2 σ = some u → bx_Go p l e (bx_rm 3) s m args below meth c 4 A D (MQ below (bx_Q none (bx_mw q cI cZ u) D A) args s 0 0 A) (bx_mw q cI cZ σ) 7 [(0, .ref (q 0)), (1, .int v1), (2, .int v2)] []) : ∀ (n : Nat) (v1 : Int32) (v2 : Int32) (v3 : Int32) (σ : bx_St) (u : bx_St), mX4_layRow_31 K7 n v1 v2 v3 σ = some u → bx_Go p l e (bx_rm 3) s m args below meth c 4 A D (MQ below (bx_Q none (bx_mw q cI cZ u) D A) args s 0 0 A) (bx_mw q cI cZ σ) 31 [(0, .ref (q 0)), (1, .int v1), (2, .int v2), (3, .int v3)] [] := by
  intro n
  induction n with
  | zero =>
    intro v1 v2 v3 σ u hm
    cases hm
  | succ n ih =>
    intro v1 v2 v3 σ u hm
    rw [mX4_layRow_31] at hm
    refine go_iload_n C dX4_layRow_31 rfl 3 rfl (n := 32) rfl ?_
    refine go_if_le C 93 dX4_layRow_32 (by decide) (n := 35) rfl (fun c1 => ?_) (fun c1 => ?_)
    · have hm := bx_p c1 hm
      refine go_lv (lv' := [(0, .ref (q 0)), (1, .int v1), (2, .int v2), (3, .int v3)]) [0, 1, 2, 3] rfl ?_
      exact mX4_layRow_93_ok C _ HK7 _ _ _ _ _ hm
    · have hm := bx_n c1 hm
      refine go_aload_n C dX4_layRow_35 rfl 0 rfl (n := 36) rfl ?_
      refine go_iload_n C dX4_layRow_36 rfl 2 rfl (n := 37) rfl ?_
      refine go_aload_n C dX4_layRow_37 rfl 0 rfl (n := 38) rfl ?_
      refine go_iload_n C dX4_layRow_38 rfl 2 rfl (n := 39) rfl ?_
      refine go_iload_n C dX4_layRow_39 rfl 1 rfl (n := 40) rfl ?_
      obtain ⟨u2, e3, hm⟩ := bx_b hm
      refine go_callVi C dX4_layRow_40 mw_X4_valueOf ml_X4_97 (rest := [.int v2, .ref (q 0)]) (ktX4_valueOf e3) (mo4 q cI cZ σ) rfl (by decide) rfl rfl (Nat.le_of_ble_eq_true rfl) (n := 43) rfl ?_
      refine go_aload_n C dX4_layRow_43 rfl 0 rfl (n := 44) rfl ?_
      refine go_get C dX4_layRow_44 (mf4_6 q cI cZ σ) rfl inX4 (by decide) fl_X4_16 (n := 47) rfl ?_
      refine go_bipush C dX4_layRow_47 (v := (24 : Int32)) (by decide) (n := 49) rfl ?_
      refine go_iload_n C dX4_layRow_49 rfl 1 rfl (n := 50) rfl ?_
      refine go_imul C dX4_layRow_50 (n := 51) rfl ?_
      refine go_iload_n C dX4_layRow_51 rfl 3 rfl (n := 52) rfl ?_
      refine go_iadd C dX4_layRow_52 (n := 53) rfl ?_
      refine go_iconst C dX4_layRow_53 (v := (1 : Int32)) (by decide) (n := 54) rfl ?_
      refine go_isub C dX4_layRow_54 (n := 55) rfl ?_
      obtain ⟨b4, hm⟩ := bx_g hm
      refine go_iald C dX4_layRow_55 (ma_3 q cI cZ σ) b4 (n := 56) rfl ?_
      refine go_iload_n C dX4_layRow_56 rfl 1 rfl (n := 57) rfl ?_
      obtain ⟨u5, e6, hm⟩ := bx_b hm
      refine go_callVi C dX4_layRow_57 mw_X4_isAhead ml_X4_113 (rest := []) (ktX4_isAhead e6) (mo4 q cI cZ σ) rfl (by decide) rfl rfl (Nat.le_of_ble_eq_true rfl) (n := 60) rfl ?_
      refine go_if_eq C 93 dX4_layRow_60 (by decide) (n := 63) rfl (fun c7 => ?_) (fun c7 => ?_)
      · have hm := bx_p c7 hm
        refine go_lv (lv' := [(0, .ref (q 0)), (1, .int v1), (2, .int v2), (3, .int v3)]) [0, 1, 2, 3] rfl ?_
        exact mX4_layRow_93_ok C _ HK7 _ _ _ _ _ hm
      · have hm := bx_n c7 hm
        refine go_aload_n C dX4_layRow_63 rfl 0 rfl (n := 64) rfl ?_
        refine go_get C dX4_layRow_64 (mf4_6 q cI cZ σ) rfl inX4 (by decide) fl_X4_16 (n := 67) rfl ?_
        refine go_bipush C dX4_layRow_67 (v := (24 : Int32)) (by decide) (n := 69) rfl ?_
        refine go_iload_n C dX4_layRow_69 rfl 1 rfl (n := 70) rfl ?_
        refine go_imul C dX4_layRow_70 (n := 71) rfl ?_
        refine go_iload_n C dX4_layRow_71 rfl 3 rfl (n := 72) rfl ?_
        refine go_iadd C dX4_layRow_72 (n := 73) rfl ?_
        refine go_aload_n C dX4_layRow_73 rfl 0 rfl (n := 74) rfl ?_
        refine go_get C dX4_layRow_74 (mf4_6 q cI cZ σ) rfl inX4 (by decide) fl_X4_16 (n := 77) rfl ?_
        refine go_bipush C dX4_layRow_77 (v := (24 : Int32)) (by decide) (n := 79) rfl ?_
        refine go_iload_n C dX4_layRow_79 rfl 1 rfl (n := 80) rfl ?_
        refine go_imul C dX4_layRow_80 (n := 81) rfl ?_
        refine go_iload_n C dX4_layRow_81 rfl 3 rfl (n := 82) rfl ?_
        refine go_iadd C dX4_layRow_82 (n := 83) rfl ?_
        refine go_iconst C dX4_layRow_83 (v := (1 : Int32)) (by decide) (n := 84) rfl ?_
        refine go_isub C dX4_layRow_84 (n := 85) rfl ?_
        obtain ⟨b8, hm⟩ := bx_g hm
        refine go_iald C dX4_layRow_85 (ma_3 q cI cZ σ) b8 (n := 86) rfl ?_
        obtain ⟨b9, hm⟩ := bx_g hm
        obtain ⟨σ10, z11, hm⟩ := bx_lt hm
        refine go_iast C dX4_layRow_86 (ws' := (bx_mw q cI cZ σ10)) (by rw [z11]; exact (mu_3 q cI cZ σ (((24 : Int32) * v1) + v3) (σ.1 3 ((((24 : Int32) * v1) + v3) - (1 : Int32)).toNatClampNeg))) b9 (n := 87) rfl ?_
        refine go_iinc C (j := 3) dX4_layRow_87 rfl (v := (v3 + (-1))) rfl (by decide) (lv' := [(3, .int (v3 + (-1))), (0, .ref (q 0)), (1, .int v1), (2, .int v2)]) rfl (n := 90) rfl ?_
        refine go_goto C 31 dX4_layRow_90 (by decide) ?_
        refine go_lv (lv' := [(0, .ref (q 0)), (1, .int v1), (2, .int v2), (3, .int (v3 + (-1)))]) [1, 2, 3, 0] rfl ?_
        exact ih _ _ _ _ _ hm
def mX4_layRow_7 : Nat → Int32 → Int32 → bx_St → Option bx_St
  | 0, _, _, _ => none
  | n + 1, v1, v2, σ => (if (24 : Int32) ≤ v2 then (some σ) else (if (mX4_has (σ.1 0 2) (v2 / (2 : Int32))) = 0 then (mX4_layRow_115 (mX4_layRow_7 n) v1 v2 σ) else (mX4_layRow_31 (mX4_layRow_7 n) bx_F v1 v2 (σ.1 0 5) σ)))
set_option maxRecDepth 8000 in
set_option maxHeartbeats 4000000 in
theorem mX4_layRow_7_ok (C : bx_Cx p s m args meth c 4 A D cI cZ RX4 cX4_layRow none) : ∀ (n : Nat) (v1 : Int32) (v2 : Int32) (σ : bx_St) (u : bx_St), mX4_layRow_7 n v1 v2 σ = some u → bx_Go p l e (bx_rm 3) s m args below meth c 4 A D (MQ below (bx_Q none (bx_mw q cI cZ u) D A) args s 0 0 A) (bx_mw q cI cZ σ) 7 [(0, .ref (q 0)), (1, .int v1), (2, .int v2)] [] := by
  intro n
  induction n with
  | zero =>
    intro v1 v2 σ u hm
    cases hm
  | succ n ih =>
    intro v1 v2 σ u hm
    rw [mX4_layRow_7] at hm
    refine go_iload_n C dX4_layRow_7 rfl 2 rfl (n := 8) rfl ?_
    refine go_bipush C dX4_layRow_8 (v := (24 : Int32)) (by decide) (n := 10) rfl ?_
    refine go_icmp_ge C 121 dX4_layRow_10 (by decide) (n := 13) rfl (fun c1 => ?_) (fun c1 => ?_)
    · have hm := bx_p c1 hm
      cases hm
      exact go_vret C dX4_layRow_121
    · have hm := bx_n c1 hm
      refine go_aload_n C dX4_layRow_13 rfl 0 rfl (n := 14) rfl ?_
      refine go_get C dX4_layRow_14 (mf4_2 q cI cZ σ) rfl inX4 (by decide) fl_X4_73 (n := 17) rfl ?_
      refine go_iload_n C dX4_layRow_17 rfl 2 rfl (n := 18) rfl ?_
      refine go_iconst C dX4_layRow_18 (v := (2 : Int32)) (by decide) (n := 19) rfl ?_
      refine go_idiv C dX4_layRow_19 (by decide) (n := 20) rfl ?_
      refine go_callSi C dX4_layRow_20 mw_X4_has ml_X4_86 (rest := []) (ktX4_has rfl) (by decide) rfl rfl (Nat.le_of_ble_eq_true rfl) (n := 23) rfl ?_
      refine go_if_eq C 115 dX4_layRow_23 (by decide) (n := 26) rfl (fun c2 => ?_) (fun c2 => ?_)
      · have hm := bx_p c2 hm
        refine go_lv (lv' := [(0, .ref (q 0)), (1, .int v1), (2, .int v2)]) [0, 1, 2] rfl ?_
        exact mX4_layRow_115_ok C _ ih _ _ _ _ hm
      · have hm := bx_n c2 hm
        refine go_aload_n C dX4_layRow_26 rfl 0 rfl (n := 27) rfl ?_
        refine go_get C dX4_layRow_27 (mf4_5 q cI cZ σ) rfl inX4 (by decide) fl_X4_110 (n := 30) rfl ?_
        refine go_istore_n C dX4_layRow_30 rfl (by decide) (lv' := [(3, .int (σ.1 0 5)), (0, .ref (q 0)), (1, .int v1), (2, .int v2)]) rfl (n := 31) rfl ?_
        refine go_lv (lv' := [(0, .ref (q 0)), (1, .int v1), (2, .int v2), (3, .int (σ.1 0 5))]) [1, 2, 3, 0] rfl ?_
        exact mX4_layRow_31_ok C _ ih _ _ _ _ _ _ hm
def mX4_layRow (v1 : Int32) (σ : bx_St) : Option bx_St := (mX4_layRow_7 bx_F v1 (0 : Int32) (bx_up σ 0 5 (0 : Int32)))
set_option maxRecDepth 8000 in
set_option maxHeartbeats 4000000 in
theorem ktX4_layRow {l : Launch} {D : va_G} {cI cZ : ClassId} {q : Nat → Nat} {v1 : Int32} {σ : bx_St} {u : bx_St} (hm : mX4_layRow v1 σ = some u) : bx_Mt l D cI cZ yX4_layRow cX4_layRow 4 none 3 [.ref (q 0), .int v1] (bx_mw q cI cZ σ) none (bx_mw q cI cZ u) := by
  refine bx_mk (by decide) (Nat.le_of_ble_eq_true rfl) (lv := [(0, .ref (q 0)), (1, .int v1)]) rfl (fun p e s m args below meth c A C => ?_)
  replace C : bx_Cx p s m args meth c 4 A D cI cZ RX4 cX4_layRow none := C
  unfold mX4_layRow at hm
  refine go_aload_n C dX4_layRow_0 rfl 0 rfl (n := 1) rfl ?_
  refine go_iconst C dX4_layRow_1 (v := (0 : Int32)) (by decide) (n := 2) rfl ?_
  refine go_put C dX4_layRow_2 (mp4_5 q cI cZ σ (0 : Int32)) rfl inX4 tyX4_ok nmX4 (by decide) fl_X4_110 rfl (ty := .int) (by decide +kernel) (by rfl) (by rfl) (n := 5) rfl ?_
  refine go_iconst C dX4_layRow_5 (v := (0 : Int32)) (by decide) (n := 6) rfl ?_
  refine go_istore_n C dX4_layRow_6 rfl (by decide) (lv' := [(2, .int (0 : Int32)), (0, .ref (q 0)), (1, .int v1)]) rfl (n := 7) rfl ?_
  refine go_lv (lv' := [(0, .ref (q 0)), (1, .int v1), (2, .int (0 : Int32))]) [1, 2, 0] rfl ?_
  exact mX4_layRow_7_ok C _ _ _ _ _ hm
def mX4_layAll_114 (K20 : Int32 → bx_St → Option bx_St) (v1 : Int32) (σ : bx_St) : Option bx_St := (K20 (v1 + 1) σ)
set_option maxRecDepth 8000 in
set_option maxHeartbeats 4000000 in
theorem mX4_layAll_114_ok (C : bx_Cx p s m args meth c 5 A D cI cZ RX4 cX4_layAll none) (K20 : Int32 → bx_St → Option bx_St) (HK20 : ∀ (v1 : Int32) (σ : bx_St) (u : bx_St), K20 v1 σ = some u → bx_Go p l e (bx_rm 4) s m args below meth c 5 A D (MQ below (bx_Q none (bx_mw q cI cZ u) D A) args s 0 0 A) (bx_mw q cI cZ σ) 20 [(0, .ref (q 0)), (1, .int v1)] []) : ∀ (v1 : Int32) (σ : bx_St) (u : bx_St), mX4_layAll_114 K20 v1 σ = some u → bx_Go p l e (bx_rm 4) s m args below meth c 5 A D (MQ below (bx_Q none (bx_mw q cI cZ u) D A) args s 0 0 A) (bx_mw q cI cZ σ) 114 [(0, .ref (q 0)), (1, .int v1)] [] := by
  intro v1 σ u hm
  unfold mX4_layAll_114 at hm
  refine go_iinc C (j := 1) dX4_layAll_114 rfl (v := (v1 + 1)) rfl (by decide) (lv' := [(1, .int (v1 + 1)), (0, .ref (q 0))]) rfl (n := 117) rfl ?_
  refine go_goto C 20 dX4_layAll_117 (by decide) ?_
  refine go_lv (lv' := [(0, .ref (q 0)), (1, .int (v1 + 1))]) [1, 0] rfl ?_
  exact HK20 _ _ _ hm
def mX4_layAll_106 (K20 : Int32 → bx_St → Option bx_St) (K47 : Int32 → Int32 → Int32 → Int32 → bx_St → Option bx_St) (v1 : Int32) (v2 : Int32) (v3 : Int32) (v4 : Int32) (s0 : Int32) (s1 : Int32) (s2 : Int32) (σ : bx_St) : Option bx_St := (if bx_ok s2 144 then (K47 v1 v2 v3 (v4 + 1) (bx_up σ 4 s2.toNatClampNeg (s1 ||| s0))) else none)
set_option maxRecDepth 8000 in
set_option maxHeartbeats 4000000 in
theorem mX4_layAll_106_ok (C : bx_Cx p s m args meth c 5 A D cI cZ RX4 cX4_layAll none) (K20 : Int32 → bx_St → Option bx_St) (HK20 : ∀ (v1 : Int32) (σ : bx_St) (u : bx_St), K20 v1 σ = some u → bx_Go p l e (bx_rm 4) s m args below meth c 5 A D (MQ below (bx_Q none (bx_mw q cI cZ u) D A) args s 0 0 A) (bx_mw q cI cZ σ) 20 [(0, .ref (q 0)), (1, .int v1)] []) (K47 : Int32 → Int32 → Int32 → Int32 → bx_St → Option bx_St) (HK47 : ∀ (v1 : Int32) (v2 : Int32) (v3 : Int32) (v4 : Int32) (σ : bx_St) (u : bx_St), K47 v1 v2 v3 v4 σ = some u → bx_Go p l e (bx_rm 4) s m args below meth c 5 A D (MQ below (bx_Q none (bx_mw q cI cZ u) D A) args s 0 0 A) (bx_mw q cI cZ σ) 47 [(0, .ref (q 0)), (1, .int v1), (2, .int v2), (3, .int v3), (4, .int v4)] []) : ∀ (v1 : Int32) (v2 : Int32) (v3 : Int32) (v4 : Int32) (s0 : Int32) (s1 : Int32) (s2 : Int32) (σ : bx_St) (u : bx_St), mX4_layAll_106 K20 K47 v1 v2 v3 v4 s0 s1 s2 σ = some u → bx_Go p l e (bx_rm 4) s m args below meth c 5 A D (MQ below (bx_Q none (bx_mw q cI cZ u) D A) args s 0 0 A) (bx_mw q cI cZ σ) 106 [(0, .ref (q 0)), (1, .int v1), (2, .int v2), (3, .int v3), (4, .int v4)] [.int s0, .int s1, .int s2, .ref (q 4)] := by
  intro v1 v2 v3 v4 s0 s1 s2 σ u hm
  unfold mX4_layAll_106 at hm
  refine go_ior C dX4_layAll_106 (n := 107) rfl ?_
  obtain ⟨b1, hm⟩ := bx_g hm
  refine go_iast C dX4_layAll_107 (mu_4 q cI cZ σ s2 (s1 ||| s0)) b1 (n := 108) rfl ?_
  refine go_iinc C (j := 4) dX4_layAll_108 rfl (v := (v4 + 1)) rfl (by decide) (lv' := [(4, .int (v4 + 1)), (0, .ref (q 0)), (1, .int v1), (2, .int v2), (3, .int v3)]) rfl (n := 111) rfl ?_
  refine go_goto C 47 dX4_layAll_111 (by decide) ?_
  refine go_lv (lv' := [(0, .ref (q 0)), (1, .int v1), (2, .int v2), (3, .int v3), (4, .int (v4 + 1))]) [1, 2, 3, 4, 0] rfl ?_
  exact HK47 _ _ _ _ _ _ hm
def mX4_layAll_47 (K20 : Int32 → bx_St → Option bx_St) : Nat → Int32 → Int32 → Int32 → Int32 → bx_St → Option bx_St
  | 0, _, _, _, _, _ => none
  | n + 1, v1, v2, v3, v4, σ => (if (3 : Int32) ≤ v4 then (mX4_layAll_114 K20 v1 σ) else (if v2 = v3 then (mX4_layAll_114 K20 v1 σ) else (if (mX4_has (σ.1 0 2) v2) = 0 then (mX4_layAll_114 K20 v1 σ) else (if (mX4_has (σ.1 0 2) v3) = 0 then (mX4_layAll_114 K20 v1 σ) else (if bx_ok v1 144 then (Option.bind (mX4_areMeeting v2 v3 v4 σ) fun u6 => (if u6 = 0 then (mX4_layAll_106 K20 (mX4_layAll_47 K20 n) v1 v2 v3 v4 (0 : Int32) (σ.1 4 v1.toNatClampNeg) v1 σ) else (mX4_layAll_106 K20 (mX4_layAll_47 K20 n) v1 v2 v3 v4 ((1 : Int32) <<< (v4 &&& 31)) (σ.1 4 v1.toNatClampNeg) v1 σ))) else none)))))
set_option maxRecDepth 8000 in
set_option maxHeartbeats 4000000 in
theorem mX4_layAll_47_ok (C : bx_Cx p s m args meth c 5 A D cI cZ RX4 cX4_layAll none) (K20 : Int32 → bx_St → Option bx_St) (HK20 : ∀ (v1 : Int32) (σ : bx_St) (u : bx_St), K20 v1 σ = some u → bx_Go p l e (bx_rm 4) s m args below meth c 5 A D (MQ below (bx_Q none (bx_mw q cI cZ u) D A) args s 0 0 A) (bx_mw q cI cZ σ) 20 [(0, .ref (q 0)), (1, .int v1)] []) : ∀ (n : Nat) (v1 : Int32) (v2 : Int32) (v3 : Int32) (v4 : Int32) (σ : bx_St) (u : bx_St), mX4_layAll_47 K20 n v1 v2 v3 v4 σ = some u → bx_Go p l e (bx_rm 4) s m args below meth c 5 A D (MQ below (bx_Q none (bx_mw q cI cZ u) D A) args s 0 0 A) (bx_mw q cI cZ σ) 47 [(0, .ref (q 0)), (1, .int v1), (2, .int v2), (3, .int v3), (4, .int v4)] [] := by
  intro n
  induction n with
  | zero =>
    intro v1 v2 v3 v4 σ u hm
    cases hm
  | succ n ih =>
    intro v1 v2 v3 v4 σ u hm
    rw [mX4_layAll_47] at hm
    refine go_iload C dX4_layAll_47 4 rfl (n := 49) rfl ?_
    refine go_iconst C dX4_layAll_49 (v := (3 : Int32)) (by decide) (n := 50) rfl ?_
    refine go_icmp_ge C 114 dX4_layAll_50 (by decide) (n := 53) rfl (fun c1 => ?_) (fun c1 => ?_)
    · have hm := bx_p c1 hm
      refine go_lv (lv' := [(0, .ref (q 0)), (1, .int v1)]) [0, 1] rfl ?_
      exact mX4_layAll_114_ok C _ HK20 _ _ _ hm
    · have hm := bx_n c1 hm
      refine go_iload_n C dX4_layAll_53 rfl 2 rfl (n := 54) rfl ?_
      refine go_iload_n C dX4_layAll_54 rfl 3 rfl (n := 55) rfl ?_
      refine go_icmp_eq C 114 dX4_layAll_55 (by decide) (n := 58) rfl (fun c2 => ?_) (fun c2 => ?_)
      · have hm := bx_p c2 hm
        refine go_lv (lv' := [(0, .ref (q 0)), (1, .int v1)]) [0, 1] rfl ?_
        exact mX4_layAll_114_ok C _ HK20 _ _ _ hm
      · have hm := bx_n c2 hm
        refine go_aload_n C dX4_layAll_58 rfl 0 rfl (n := 59) rfl ?_
        refine go_get C dX4_layAll_59 (mf4_2 q cI cZ σ) rfl inX4 (by decide) fl_X4_73 (n := 62) rfl ?_
        refine go_iload_n C dX4_layAll_62 rfl 2 rfl (n := 63) rfl ?_
        refine go_callSi C dX4_layAll_63 mw_X4_has ml_X4_86 (rest := []) (ktX4_has rfl) (by decide) rfl rfl (Nat.le_of_ble_eq_true rfl) (n := 66) rfl ?_
        refine go_if_eq C 114 dX4_layAll_66 (by decide) (n := 69) rfl (fun c3 => ?_) (fun c3 => ?_)
        · have hm := bx_p c3 hm
          refine go_lv (lv' := [(0, .ref (q 0)), (1, .int v1)]) [0, 1] rfl ?_
          exact mX4_layAll_114_ok C _ HK20 _ _ _ hm
        · have hm := bx_n c3 hm
          refine go_aload_n C dX4_layAll_69 rfl 0 rfl (n := 70) rfl ?_
          refine go_get C dX4_layAll_70 (mf4_2 q cI cZ σ) rfl inX4 (by decide) fl_X4_73 (n := 73) rfl ?_
          refine go_iload_n C dX4_layAll_73 rfl 3 rfl (n := 74) rfl ?_
          refine go_callSi C dX4_layAll_74 mw_X4_has ml_X4_86 (rest := []) (ktX4_has rfl) (by decide) rfl rfl (Nat.le_of_ble_eq_true rfl) (n := 77) rfl ?_
          refine go_if_eq C 114 dX4_layAll_77 (by decide) (n := 80) rfl (fun c4 => ?_) (fun c4 => ?_)
          · have hm := bx_p c4 hm
            refine go_lv (lv' := [(0, .ref (q 0)), (1, .int v1)]) [0, 1] rfl ?_
            exact mX4_layAll_114_ok C _ HK20 _ _ _ hm
          · have hm := bx_n c4 hm
            refine go_aload_n C dX4_layAll_80 rfl 0 rfl (n := 81) rfl ?_
            refine go_get C dX4_layAll_81 (mf4_7 q cI cZ σ) rfl inX4 (by decide) fl_X4_19 (n := 84) rfl ?_
            refine go_iload_n C dX4_layAll_84 rfl 1 rfl (n := 85) rfl ?_
            refine go_dup2_11 C dX4_layAll_85 rfl rfl (n := 86) rfl ?_
            obtain ⟨b5, hm⟩ := bx_g hm
            refine go_iald C dX4_layAll_86 (ma_4 q cI cZ σ) b5 (n := 87) rfl ?_
            refine go_aload_n C dX4_layAll_87 rfl 0 rfl (n := 88) rfl ?_
            refine go_iload_n C dX4_layAll_88 rfl 2 rfl (n := 89) rfl ?_
            refine go_iload_n C dX4_layAll_89 rfl 3 rfl (n := 90) rfl ?_
            refine go_iload C dX4_layAll_90 4 rfl (n := 92) rfl ?_
            obtain ⟨u6, e7, hm⟩ := bx_b hm
            refine go_callVi C dX4_layAll_92 mw_X4_areMeeting ml_X4_120 (rest := [.int (σ.1 4 v1.toNatClampNeg), .int v1, .ref (q 4)]) (ktX4_areMeeting e7) (mo4 q cI cZ σ) rfl (by decide) rfl rfl (Nat.le_of_ble_eq_true rfl) (n := 95) rfl ?_
            refine go_if_eq C 105 dX4_layAll_95 (by decide) (n := 98) rfl (fun c8 => ?_) (fun c8 => ?_)
            · have hm := bx_p c8 hm
              refine go_iconst C dX4_layAll_105 (v := (0 : Int32)) (by decide) (n := 106) rfl ?_
              refine go_lv (lv' := [(0, .ref (q 0)), (1, .int v1), (2, .int v2), (3, .int v3), (4, .int v4)]) [0, 1, 2, 3, 4] rfl ?_
              exact mX4_layAll_106_ok C _ HK20 _ ih _ _ _ _ _ _ _ _ _ hm
            · have hm := bx_n c8 hm
              refine go_iconst C dX4_layAll_98 (v := (1 : Int32)) (by decide) (n := 99) rfl ?_
              refine go_iload C dX4_layAll_99 4 rfl (n := 101) rfl ?_
              refine go_ishl C dX4_layAll_101 (n := 102) rfl ?_
              refine go_goto C 106 dX4_layAll_102 (by decide) ?_
              refine go_lv (lv' := [(0, .ref (q 0)), (1, .int v1), (2, .int v2), (3, .int v3), (4, .int v4)]) [0, 1, 2, 3, 4] rfl ?_
              exact mX4_layAll_106_ok C _ HK20 _ ih _ _ _ _ _ _ _ _ _ hm
def mX4_layAll_20 : Nat → Int32 → bx_St → Option bx_St
  | 0, _, _ => none
  | n + 1, v1, σ => (if (144 : Int32) ≤ v1 then (some σ) else (if bx_ok v1 144 then (mX4_layAll_47 (mX4_layAll_20 n) bx_F v1 (v1 / (12 : Int32)) (bx_rem v1 (12 : Int32)) (0 : Int32) (bx_up σ 4 v1.toNatClampNeg (0 : Int32))) else none))
set_option maxRecDepth 8000 in
set_option maxHeartbeats 4000000 in
theorem mX4_layAll_20_ok (C : bx_Cx p s m args meth c 5 A D cI cZ RX4 cX4_layAll none) : ∀ (n : Nat) (v1 : Int32) (σ : bx_St) (u : bx_St), mX4_layAll_20 n v1 σ = some u → bx_Go p l e (bx_rm 4) s m args below meth c 5 A D (MQ below (bx_Q none (bx_mw q cI cZ u) D A) args s 0 0 A) (bx_mw q cI cZ σ) 20 [(0, .ref (q 0)), (1, .int v1)] [] := by
  intro n
  induction n with
  | zero =>
    intro v1 σ u hm
    cases hm
  | succ n ih =>
    intro v1 σ u hm
    rw [mX4_layAll_20] at hm
    refine go_iload_n C dX4_layAll_20 rfl 1 rfl (n := 21) rfl ?_
    refine go_sipush C dX4_layAll_21 (v := (144 : Int32)) (by decide) (n := 24) rfl ?_
    refine go_icmp_ge C 120 dX4_layAll_24 (by decide) (n := 27) rfl (fun c1 => ?_) (fun c1 => ?_)
    · have hm := bx_p c1 hm
      cases hm
      exact go_vret C dX4_layAll_120
    · have hm := bx_n c1 hm
      refine go_iload_n C dX4_layAll_27 rfl 1 rfl (n := 28) rfl ?_
      refine go_bipush C dX4_layAll_28 (v := (12 : Int32)) (by decide) (n := 30) rfl ?_
      refine go_idiv C dX4_layAll_30 (by decide) (n := 31) rfl ?_
      refine go_istore_n C dX4_layAll_31 rfl (by decide) (lv' := [(2, .int (v1 / (12 : Int32))), (0, .ref (q 0)), (1, .int v1)]) rfl (n := 32) rfl ?_
      refine go_iload_n C dX4_layAll_32 rfl 2 rfl (n := 33) rfl ?_
      refine go_bipush C dX4_layAll_33 (v := (12 : Int32)) (by decide) (n := 35) rfl ?_
      refine go_irem C dX4_layAll_35 (by decide) (n := 36) rfl ?_
      refine go_istore_n C dX4_layAll_36 rfl (by decide) (lv' := [(3, .int (bx_rem v1 (12 : Int32))), (2, .int (v1 / (12 : Int32))), (0, .ref (q 0)), (1, .int v1)]) rfl (n := 37) rfl ?_
      refine go_aload_n C dX4_layAll_37 rfl 2 rfl (n := 38) rfl ?_
      refine go_get C dX4_layAll_38 (mf4_7 q cI cZ σ) rfl inX4 (by decide) fl_X4_19 (n := 41) rfl ?_
      refine go_iload_n C dX4_layAll_41 rfl 3 rfl (n := 42) rfl ?_
      refine go_iconst C dX4_layAll_42 (v := (0 : Int32)) (by decide) (n := 43) rfl ?_
      obtain ⟨b2, hm⟩ := bx_g hm
      refine go_iast C dX4_layAll_43 (mu_4 q cI cZ σ v1 (0 : Int32)) b2 (n := 44) rfl ?_
      refine go_iconst C dX4_layAll_44 (v := (0 : Int32)) (by decide) (n := 45) rfl ?_
      refine go_istore C dX4_layAll_45 (by decide) (lv' := [(4, .int (0 : Int32)), (3, .int (bx_rem v1 (12 : Int32))), (2, .int (v1 / (12 : Int32))), (0, .ref (q 0)), (1, .int v1)]) rfl (n := 47) rfl ?_
      refine go_lv (lv' := [(0, .ref (q 0)), (1, .int v1), (2, .int (v1 / (12 : Int32))), (3, .int (bx_rem v1 (12 : Int32))), (4, .int (0 : Int32))]) [3, 4, 2, 1, 0] rfl ?_
      exact mX4_layAll_47_ok C _ ih _ _ _ _ _ _ _ hm
def mX4_layAll_2 : Nat → Int32 → bx_St → Option bx_St
  | 0, _, _ => none
  | n + 1, v1, σ => (if (3 : Int32) ≤ v1 then (mX4_layAll_20 bx_F (0 : Int32) σ) else (Option.bind (mX4_layRow v1 σ) fun u2 => (mX4_layAll_2 n (v1 + 1) u2)))
set_option maxRecDepth 8000 in
set_option maxHeartbeats 4000000 in
theorem mX4_layAll_2_ok (C : bx_Cx p s m args meth c 5 A D cI cZ RX4 cX4_layAll none) : ∀ (n : Nat) (v1 : Int32) (σ : bx_St) (u : bx_St), mX4_layAll_2 n v1 σ = some u → bx_Go p l e (bx_rm 4) s m args below meth c 5 A D (MQ below (bx_Q none (bx_mw q cI cZ u) D A) args s 0 0 A) (bx_mw q cI cZ σ) 2 [(0, .ref (q 0)), (1, .int v1)] [] := by
  intro n
  induction n with
  | zero =>
    intro v1 σ u hm
    cases hm
  | succ n ih =>
    intro v1 σ u hm
    rw [mX4_layAll_2] at hm
    refine go_iload_n C dX4_layAll_2 rfl 1 rfl (n := 3) rfl ?_
    refine go_iconst C dX4_layAll_3 (v := (3 : Int32)) (by decide) (n := 4) rfl ?_
    refine go_icmp_ge C 18 dX4_layAll_4 (by decide) (n := 7) rfl (fun c1 => ?_) (fun c1 => ?_)
    · have hm := bx_p c1 hm
      refine go_iconst C dX4_layAll_18 (v := (0 : Int32)) (by decide) (n := 19) rfl ?_
      refine go_istore_n C dX4_layAll_19 rfl (by decide) (lv' := [(1, .int (0 : Int32)), (0, .ref (q 0))]) rfl (n := 20) rfl ?_
      refine go_lv (lv' := [(0, .ref (q 0)), (1, .int (0 : Int32))]) [1, 0] rfl ?_
      exact mX4_layAll_20_ok C _ _ _ _ hm
    · have hm := bx_n c1 hm
      refine go_aload_n C dX4_layAll_7 rfl 0 rfl (n := 8) rfl ?_
      refine go_iload_n C dX4_layAll_8 rfl 1 rfl (n := 9) rfl ?_
      obtain ⟨u2, e3, hm⟩ := bx_b hm
      refine go_callVv C dX4_layAll_9 mw_X4_layRow ml_X4_117 (rest := []) (ktX4_layRow e3) (mo4 q cI cZ σ) rfl (by decide) rfl rfl (Nat.le_of_ble_eq_true rfl) (n := 12) rfl ?_
      refine go_iinc C (j := 1) dX4_layAll_12 rfl (v := (v1 + 1)) rfl (by decide) (lv' := [(1, .int (v1 + 1)), (0, .ref (q 0))]) rfl (n := 15) rfl ?_
      refine go_goto C 2 dX4_layAll_15 (by decide) ?_
      refine go_lv (lv' := [(0, .ref (q 0)), (1, .int (v1 + 1))]) [1, 0] rfl ?_
      exact ih _ _ _ hm
def mX4_layAll (σ : bx_St) : Option bx_St := (mX4_layAll_2 bx_F (0 : Int32) σ)
set_option maxRecDepth 8000 in
set_option maxHeartbeats 4000000 in
theorem ktX4_layAll {l : Launch} {D : va_G} {cI cZ : ClassId} {q : Nat → Nat} {σ : bx_St} {u : bx_St} (hm : mX4_layAll σ = some u) : bx_Mt l D cI cZ yX4_layAll cX4_layAll 5 none 4 [.ref (q 0)] (bx_mw q cI cZ σ) none (bx_mw q cI cZ u) := by
  refine bx_mk (by decide) (Nat.le_of_ble_eq_true rfl) (lv := [(0, .ref (q 0))]) rfl (fun p e s m args below meth c A C => ?_)
  replace C : bx_Cx p s m args meth c 5 A D cI cZ RX4 cX4_layAll none := C
  unfold mX4_layAll at hm
  refine go_iconst C dX4_layAll_0 (v := (0 : Int32)) (by decide) (n := 1) rfl ?_
  refine go_istore_n C dX4_layAll_1 rfl (by decide) (lv' := [(1, .int (0 : Int32)), (0, .ref (q 0))]) rfl (n := 2) rfl ?_
  refine go_lv (lv' := [(0, .ref (q 0)), (1, .int (0 : Int32))]) [1, 0] rfl ?_
  exact mX4_layAll_2_ok C _ _ _ _ hm
def mX4_boxes_79 (K40 : Int32 → Int32 → bx_St → Option (Int32 × bx_St)) : Nat → Int32 → Int32 → Int32 → Int32 → bx_St → Option (Int32 × bx_St)
  | 0, _, _, _, _, _ => none
  | n + 1, v1, v2, v3, v4, σ => (if (6 : Int32) ≤ v4 then (K40 v1 (v2 + 1) σ) else (if bx_ok (((6 : Int32) * v2) + v4) 24 then (if bx_ok (((6 : Int32) * v3) + v4) 72 then (bx_let (bx_up σ 2 (((6 : Int32) * v3) + v4).toNatClampNeg (σ.1 8 (((6 : Int32) * v2) + v4).toNatClampNeg)) fun σ4 => (mX4_boxes_79 K40 n v1 v2 v3 (v4 + 1) σ4)) else none) else none))
set_option maxRecDepth 8000 in
set_option maxHeartbeats 4000000 in
theorem mX4_boxes_79_ok (C : bx_Cx p s m args meth c 5 A D cI cZ RX4 cX4_boxes (some .int)) (K40 : Int32 → Int32 → bx_St → Option (Int32 × bx_St)) (HK40 : ∀ (v1 : Int32) (v2 : Int32) (σ : bx_St) (u : (Int32 × bx_St)), K40 v1 v2 σ = some u → bx_Go p l e (bx_rm 5) s m args below meth c 5 A D (MQ below (bx_Q (some (.int u.1)) (bx_mw q cI cZ u.2) D A) args s 0 0 A) (bx_mw q cI cZ σ) 40 [(0, .ref (q 0)), (1, .int v1), (2, .int v2)] []) : ∀ (n : Nat) (v1 : Int32) (v2 : Int32) (v3 : Int32) (v4 : Int32) (σ : bx_St) (u : (Int32 × bx_St)), mX4_boxes_79 K40 n v1 v2 v3 v4 σ = some u → bx_Go p l e (bx_rm 5) s m args below meth c 5 A D (MQ below (bx_Q (some (.int u.1)) (bx_mw q cI cZ u.2) D A) args s 0 0 A) (bx_mw q cI cZ σ) 79 [(0, .ref (q 0)), (1, .int v1), (2, .int v2), (3, .int v3), (4, .int v4)] [] := by
  intro n
  induction n with
  | zero =>
    intro v1 v2 v3 v4 σ u hm
    cases hm
  | succ n ih =>
    intro v1 v2 v3 v4 σ u hm
    rw [mX4_boxes_79] at hm
    refine go_iload C dX4_boxes_79 4 rfl (n := 81) rfl ?_
    refine go_bipush C dX4_boxes_81 (v := (6 : Int32)) (by decide) (n := 83) rfl ?_
    refine go_icmp_ge C 116 dX4_boxes_83 (by decide) (n := 86) rfl (fun c1 => ?_) (fun c1 => ?_)
    · have hm := bx_p c1 hm
      refine go_iinc C (j := 2) dX4_boxes_116 rfl (v := (v2 + 1)) rfl (by decide) (lv' := [(2, .int (v2 + 1)), (0, .ref (q 0)), (1, .int v1), (3, .int v3), (4, .int v4)]) rfl (n := 119) rfl ?_
      refine go_goto C 40 dX4_boxes_119 (by decide) ?_
      refine go_lv (lv' := [(0, .ref (q 0)), (1, .int v1), (2, .int (v2 + 1))]) [1, 2, 0] rfl ?_
      exact HK40 _ _ _ _ hm
    · have hm := bx_n c1 hm
      refine go_aload_n C dX4_boxes_86 rfl 0 rfl (n := 87) rfl ?_
      refine go_get C dX4_boxes_87 (mf4_4 q cI cZ σ) rfl inX4 (by decide) fl_X4_13 (n := 90) rfl ?_
      refine go_bipush C dX4_boxes_90 (v := (6 : Int32)) (by decide) (n := 92) rfl ?_
      refine go_iload_n C dX4_boxes_92 rfl 3 rfl (n := 93) rfl ?_
      refine go_imul C dX4_boxes_93 (n := 94) rfl ?_
      refine go_iload C dX4_boxes_94 4 rfl (n := 96) rfl ?_
      refine go_iadd C dX4_boxes_96 (n := 97) rfl ?_
      refine go_aload_n C dX4_boxes_97 rfl 0 rfl (n := 98) rfl ?_
      refine go_get C dX4_boxes_98 (mf4_20 q cI cZ σ) rfl inX4 (by decide) fl_X4_31 (n := 101) rfl ?_
      refine go_bipush C dX4_boxes_101 (v := (6 : Int32)) (by decide) (n := 103) rfl ?_
      refine go_iload_n C dX4_boxes_103 rfl 2 rfl (n := 104) rfl ?_
      refine go_imul C dX4_boxes_104 (n := 105) rfl ?_
      refine go_iload C dX4_boxes_105 4 rfl (n := 107) rfl ?_
      refine go_iadd C dX4_boxes_107 (n := 108) rfl ?_
      obtain ⟨b2, hm⟩ := bx_g hm
      refine go_iald C dX4_boxes_108 (ma_8 q cI cZ σ) b2 (n := 109) rfl ?_
      obtain ⟨b3, hm⟩ := bx_g hm
      obtain ⟨σ4, z5, hm⟩ := bx_lt hm
      refine go_iast C dX4_boxes_109 (ws' := (bx_mw q cI cZ σ4)) (by rw [z5]; exact (mu_2 q cI cZ σ (((6 : Int32) * v3) + v4) (σ.1 8 (((6 : Int32) * v2) + v4).toNatClampNeg))) b3 (n := 110) rfl ?_
      refine go_iinc C (j := 4) dX4_boxes_110 rfl (v := (v4 + 1)) rfl (by decide) (lv' := [(4, .int (v4 + 1)), (0, .ref (q 0)), (1, .int v1), (2, .int v2), (3, .int v3)]) rfl (n := 113) rfl ?_
      refine go_goto C 79 dX4_boxes_113 (by decide) ?_
      refine go_lv (lv' := [(0, .ref (q 0)), (1, .int v1), (2, .int v2), (3, .int v3), (4, .int (v4 + 1))]) [1, 2, 3, 4, 0] rfl ?_
      exact ih _ _ _ _ _ _ hm
def mX4_boxes_47 (K40 : Int32 → Int32 → bx_St → Option (Int32 × bx_St)) : Nat → Int32 → Int32 → Int32 → bx_St → Option (Int32 × bx_St)
  | 0, _, _, _, _ => none
  | n + 1, v1, v2, v3, σ => (if (mX4_has (σ.1 0 2) v3) = 0 then (bx_let (bx_up σ 0 2 ((σ.1 0 2) ||| ((1 : Int32) <<< (v3 &&& 31)))) fun σ2 => (mX4_boxes_79 K40 bx_F v1 v2 v3 (0 : Int32) σ2)) else (mX4_boxes_47 K40 n v1 v2 (v3 + 1) σ))
set_option maxRecDepth 8000 in
set_option maxHeartbeats 4000000 in
theorem mX4_boxes_47_ok (C : bx_Cx p s m args meth c 5 A D cI cZ RX4 cX4_boxes (some .int)) (K40 : Int32 → Int32 → bx_St → Option (Int32 × bx_St)) (HK40 : ∀ (v1 : Int32) (v2 : Int32) (σ : bx_St) (u : (Int32 × bx_St)), K40 v1 v2 σ = some u → bx_Go p l e (bx_rm 5) s m args below meth c 5 A D (MQ below (bx_Q (some (.int u.1)) (bx_mw q cI cZ u.2) D A) args s 0 0 A) (bx_mw q cI cZ σ) 40 [(0, .ref (q 0)), (1, .int v1), (2, .int v2)] []) : ∀ (n : Nat) (v1 : Int32) (v2 : Int32) (v3 : Int32) (σ : bx_St) (u : (Int32 × bx_St)), mX4_boxes_47 K40 n v1 v2 v3 σ = some u → bx_Go p l e (bx_rm 5) s m args below meth c 5 A D (MQ below (bx_Q (some (.int u.1)) (bx_mw q cI cZ u.2) D A) args s 0 0 A) (bx_mw q cI cZ σ) 47 [(0, .ref (q 0)), (1, .int v1), (2, .int v2), (3, .int v3)] [] := by
  intro n
  induction n with
  | zero =>
    intro v1 v2 v3 σ u hm
    cases hm
  | succ n ih =>
    intro v1 v2 v3 σ u hm
    rw [mX4_boxes_47] at hm
    refine go_aload_n C dX4_boxes_47 rfl 0 rfl (n := 48) rfl ?_
    refine go_get C dX4_boxes_48 (mf4_2 q cI cZ σ) rfl inX4 (by decide) fl_X4_73 (n := 51) rfl ?_
    refine go_iload_n C dX4_boxes_51 rfl 3 rfl (n := 52) rfl ?_
    refine go_callSi C dX4_boxes_52 mw_X4_has ml_X4_86 (rest := []) (ktX4_has rfl) (by decide) rfl rfl (Nat.le_of_ble_eq_true rfl) (n := 55) rfl ?_
    refine go_if_eq C 64 dX4_boxes_55 (by decide) (n := 58) rfl (fun c1 => ?_) (fun c1 => ?_)
    · have hm := bx_p c1 hm
      refine go_aload_n C dX4_boxes_64 rfl 0 rfl (n := 65) rfl ?_
      refine go_dup C dX4_boxes_65 rfl (n := 66) rfl ?_
      refine go_get C dX4_boxes_66 (mf4_2 q cI cZ σ) rfl inX4 (by decide) fl_X4_73 (n := 69) rfl ?_
      refine go_iconst C dX4_boxes_69 (v := (1 : Int32)) (by decide) (n := 70) rfl ?_
      refine go_iload_n C dX4_boxes_70 rfl 3 rfl (n := 71) rfl ?_
      refine go_ishl C dX4_boxes_71 (n := 72) rfl ?_
      refine go_ior C dX4_boxes_72 (n := 73) rfl ?_
      obtain ⟨σ2, z3, hm⟩ := bx_lt hm
      refine go_put C dX4_boxes_73 (ws' := (bx_mw q cI cZ σ2)) (by rw [z3]; exact (mp4_2 q cI cZ σ ((σ.1 0 2) ||| ((1 : Int32) <<< (v3 &&& 31))))) rfl inX4 tyX4_ok nmX4 (by decide) fl_X4_73 rfl (ty := .int) (by decide +kernel) (by rfl) (by rfl) (n := 76) rfl ?_
      refine go_iconst C dX4_boxes_76 (v := (0 : Int32)) (by decide) (n := 77) rfl ?_
      refine go_istore C dX4_boxes_77 (by decide) (lv' := [(4, .int (0 : Int32)), (0, .ref (q 0)), (1, .int v1), (2, .int v2), (3, .int v3)]) rfl (n := 79) rfl ?_
      refine go_lv (lv' := [(0, .ref (q 0)), (1, .int v1), (2, .int v2), (3, .int v3), (4, .int (0 : Int32))]) [1, 2, 3, 4, 0] rfl ?_
      exact mX4_boxes_79_ok C _ HK40 _ _ _ _ _ _ _ hm
    · have hm := bx_n c1 hm
      refine go_iinc C (j := 3) dX4_boxes_58 rfl (v := (v3 + 1)) rfl (by decide) (lv' := [(3, .int (v3 + 1)), (0, .ref (q 0)), (1, .int v1), (2, .int v2)]) rfl (n := 61) rfl ?_
      refine go_goto C 47 dX4_boxes_61 (by decide) ?_
      refine go_lv (lv' := [(0, .ref (q 0)), (1, .int v1), (2, .int v2), (3, .int (v3 + 1))]) [1, 2, 3, 0] rfl ?_
      exact ih _ _ _ _ _ hm
def mX4_boxes_40 : Nat → Int32 → Int32 → bx_St → Option (Int32 × bx_St)
  | 0, _, _, _ => none
  | n + 1, v1, v2, σ => (if v1 ≤ v2 then (Option.bind (mX4_layAll σ) fun u2 => (Option.bind (mX4_endChange (0 : Int32) u2) fun u4 => (some (v1, (bx_up u4 0 0 (0 : Int32)))))) else (mX4_boxes_47 (mX4_boxes_40 n) bx_F v1 v2 (0 : Int32) σ))
set_option maxRecDepth 8000 in
set_option maxHeartbeats 4000000 in
theorem mX4_boxes_40_ok (C : bx_Cx p s m args meth c 5 A D cI cZ RX4 cX4_boxes (some .int)) : ∀ (n : Nat) (v1 : Int32) (v2 : Int32) (σ : bx_St) (u : (Int32 × bx_St)), mX4_boxes_40 n v1 v2 σ = some u → bx_Go p l e (bx_rm 5) s m args below meth c 5 A D (MQ below (bx_Q (some (.int u.1)) (bx_mw q cI cZ u.2) D A) args s 0 0 A) (bx_mw q cI cZ σ) 40 [(0, .ref (q 0)), (1, .int v1), (2, .int v2)] [] := by
  intro n
  induction n with
  | zero =>
    intro v1 v2 σ u hm
    cases hm
  | succ n ih =>
    intro v1 v2 σ u hm
    rw [mX4_boxes_40] at hm
    refine go_iload_n C dX4_boxes_40 rfl 2 rfl (n := 41) rfl ?_
    refine go_iload_n C dX4_boxes_41 rfl 1 rfl (n := 42) rfl ?_
    refine go_icmp_ge C 122 dX4_boxes_42 (by decide) (n := 45) rfl (fun c1 => ?_) (fun c1 => ?_)
    · have hm := bx_p c1 hm
      refine go_aload_n C dX4_boxes_122 rfl 0 rfl (n := 123) rfl ?_
      obtain ⟨u2, e3, hm⟩ := bx_b hm
      refine go_callVv C dX4_boxes_123 mw_X4_layAll ml_X4_90 (rest := []) (ktX4_layAll e3) (mo4 q cI cZ σ) rfl (by decide) rfl rfl (Nat.le_of_ble_eq_true rfl) (n := 126) rfl ?_
      refine go_aload_n C dX4_boxes_126 rfl 0 rfl (n := 127) rfl ?_
      refine go_iconst C dX4_boxes_127 (v := (0 : Int32)) (by decide) (n := 128) rfl ?_
      obtain ⟨u4, e5, hm⟩ := bx_b hm
      refine go_callVv C dX4_boxes_128 mw_X4_endChange ml_X4_93 (rest := []) (ktX4_endChange e5) (mo4 q cI cZ u2) rfl (by decide) rfl rfl (Nat.le_of_ble_eq_true rfl) (n := 131) rfl ?_
      refine go_aload_n C dX4_boxes_131 rfl 0 rfl (n := 132) rfl ?_
      refine go_iconst C dX4_boxes_132 (v := (0 : Int32)) (by decide) (n := 133) rfl ?_
      refine go_put C dX4_boxes_133 (mp4_0 q cI cZ u4 (0 : Int32)) rfl inX4 tyX4_ok nmX4 (by decide) fl_X4_45 rfl (ty := .int) (by decide +kernel) (by rfl) (by rfl) (n := 136) rfl ?_
      refine go_iload_n C dX4_boxes_136 rfl 1 rfl (n := 137) rfl ?_
      cases hm
      exact go_iret C dX4_boxes_137
    · have hm := bx_n c1 hm
      refine go_iconst C dX4_boxes_45 (v := (0 : Int32)) (by decide) (n := 46) rfl ?_
      refine go_istore_n C dX4_boxes_46 rfl (by decide) (lv' := [(3, .int (0 : Int32)), (0, .ref (q 0)), (1, .int v1), (2, .int v2)]) rfl (n := 47) rfl ?_
      refine go_lv (lv' := [(0, .ref (q 0)), (1, .int v1), (2, .int v2), (3, .int (0 : Int32))]) [1, 2, 3, 0] rfl ?_
      exact mX4_boxes_47_ok C _ ih _ _ _ _ _ _ hm
def mX4_boxes (σ : bx_St) : Option (Int32 × bx_St) := (Option.bind (mX4_isBatch σ) fun u1 => (if u1.1 = 0 then (some ((-10004 : Int32), u1.2)) else (Option.bind (mX4_boxMany u1.2) fun u4 => (if (u4 + ((u1.2.1 0 19) / (6 : Int32))) ≤ (12 : Int32) then (Option.bind (mX4_beginChange u1.2) fun u7 => (mX4_boxes_40 bx_F ((u1.2.1 0 19) / (6 : Int32)) (0 : Int32) u7)) else (some ((-10005 : Int32), u1.2))))))
set_option maxRecDepth 8000 in
set_option maxHeartbeats 4000000 in
theorem ktX4_boxes {l : Launch} {D : va_G} {cI cZ : ClassId} {q : Nat → Nat} {σ : bx_St} {u : (Int32 × bx_St)} (hm : mX4_boxes σ = some u) : bx_Mt l D cI cZ yX4_boxes cX4_boxes 5 (some .int) 5 [.ref (q 0)] (bx_mw q cI cZ σ) (some (.int u.1)) (bx_mw q cI cZ u.2) := by
  refine bx_mk (by decide) (Nat.le_of_ble_eq_true rfl) (lv := [(0, .ref (q 0))]) rfl (fun p e s m args below meth c A C => ?_)
  replace C : bx_Cx p s m args meth c 5 A D cI cZ RX4 cX4_boxes (some .int) := C
  unfold mX4_boxes at hm
  refine go_aload_n C dX4_boxes_0 rfl 0 rfl (n := 1) rfl ?_
  obtain ⟨u1, e2, hm⟩ := bx_b hm
  refine go_callVi C dX4_boxes_1 mw_X4_isBatch ml_X4_76 (rest := []) (ktX4_isBatch e2) (mo4 q cI cZ σ) rfl (by decide) rfl rfl (Nat.le_of_ble_eq_true rfl) (n := 4) rfl ?_
  refine go_if_ne C 11 dX4_boxes_4 (by decide) (n := 7) rfl (fun c3 => ?_) (fun c3 => ?_)
  · have hm := bx_n c3 hm
    refine go_aload_n C dX4_boxes_11 rfl 0 rfl (n := 12) rfl ?_
    refine go_get C dX4_boxes_12 (mf4_19 q cI cZ u1.2) rfl inX4 (by decide) fl_X4_60 (n := 15) rfl ?_
    refine go_bipush C dX4_boxes_15 (v := (6 : Int32)) (by decide) (n := 17) rfl ?_
    refine go_idiv C dX4_boxes_17 (by decide) (n := 18) rfl ?_
    refine go_istore_n C dX4_boxes_18 rfl (by decide) (lv' := [(1, .int ((u1.2.1 0 19) / (6 : Int32))), (0, .ref (q 0))]) rfl (n := 19) rfl ?_
    refine go_aload_n C dX4_boxes_19 rfl 1 rfl (n := 20) rfl ?_
    obtain ⟨u4, e5, hm⟩ := bx_b hm
    refine go_callVi C dX4_boxes_20 mw_X4_boxMany ml_X4_80 (rest := []) (ktX4_boxMany e5) (mo4 q cI cZ u1.2) rfl (by decide) rfl rfl (Nat.le_of_ble_eq_true rfl) (n := 23) rfl ?_
    refine go_iload_n C dX4_boxes_23 rfl 0 rfl (n := 24) rfl ?_
    refine go_iadd C dX4_boxes_24 (n := 25) rfl ?_
    refine go_bipush C dX4_boxes_25 (v := (12 : Int32)) (by decide) (n := 27) rfl ?_
    refine go_icmp_le C 34 dX4_boxes_27 (by decide) (n := 30) rfl (fun c6 => ?_) (fun c6 => ?_)
    · have hm := bx_p c6 hm
      refine go_aload_n C dX4_boxes_34 rfl 1 rfl (n := 35) rfl ?_
      obtain ⟨u7, e8, hm⟩ := bx_b hm
      refine go_callVv C dX4_boxes_35 mw_X4_beginChange ml_X4_83 (rest := []) (ktX4_beginChange e8) (mo4 q cI cZ u1.2) rfl (by decide) rfl rfl (Nat.le_of_ble_eq_true rfl) (n := 38) rfl ?_
      refine go_iconst C dX4_boxes_38 (v := (0 : Int32)) (by decide) (n := 39) rfl ?_
      refine go_istore_n C dX4_boxes_39 rfl (by decide) (lv' := [(2, .int (0 : Int32)), (1, .int ((u1.2.1 0 19) / (6 : Int32))), (0, .ref (q 0))]) rfl (n := 40) rfl ?_
      refine go_lv (lv' := [(0, .ref (q 0)), (1, .int ((u1.2.1 0 19) / (6 : Int32))), (2, .int (0 : Int32))]) [2, 1, 0] rfl ?_
      exact mX4_boxes_40_ok C _ _ _ _ _ hm
    · have hm := bx_n c6 hm
      refine go_sipush C dX4_boxes_30 (v := (-10005 : Int32)) (by decide) (n := 33) rfl ?_
      cases hm
      exact go_iret C dX4_boxes_33
  · have hm := bx_p c3 hm
    refine go_sipush C dX4_boxes_7 (v := (-10004 : Int32)) (by decide) (n := 10) rfl ?_
    cases hm
    exact go_iret C dX4_boxes_10
def mX4_canMove (v1 : Int32) (v2 : Int32) (v3 : Int32) (σ : bx_St) : Option Int32 := (if (mX4_within v3 (-1998 : Int32) (1998 : Int32)) = 0 then (some (0 : Int32)) else (Option.bind (mX4_lowOf v1 v2 σ) fun u2 => (if (u2 + v3) < (-999 : Int32) then (some (0 : Int32)) else (Option.bind (mX4_highOf v1 v2 σ) fun u5 => (if (999 : Int32) < (u5 + v3) then (some (0 : Int32)) else (some (1 : Int32)))))))
set_option maxRecDepth 8000 in
set_option maxHeartbeats 4000000 in
theorem ktX4_canMove {l : Launch} {D : va_G} {cI cZ : ClassId} {q : Nat → Nat} {v1 : Int32} {v2 : Int32} {v3 : Int32} {σ : bx_St} {u : Int32} (hm : mX4_canMove v1 v2 v3 σ = some u) : bx_Mt l D cI cZ yX4_canMove cX4_canMove 4 (some .boolean) 2 [.ref (q 0), .int v1, .int v2, .int v3] (bx_mw q cI cZ σ) (some (.int u)) (bx_mw q cI cZ σ) := by
  refine bx_mk (by decide) (Nat.le_of_ble_eq_true rfl) (lv := [(0, .ref (q 0)), (1, .int v1), (2, .int v2), (3, .int v3)]) rfl (fun p e s m args below meth c A C => ?_)
  replace C : bx_Cx p s m args meth c 4 A D cI cZ RX4 cX4_canMove (some .boolean) := C
  unfold mX4_canMove at hm
  refine go_iload_n C dX4_canMove_0 rfl 3 rfl (n := 1) rfl ?_
  refine go_sipush C dX4_canMove_1 (v := (-1998 : Int32)) (by decide) (n := 4) rfl ?_
  refine go_sipush C dX4_canMove_4 (v := (1998 : Int32)) (by decide) (n := 7) rfl ?_
  refine go_callSi C dX4_canMove_7 mw_X4_within ml_X4_41 (rest := []) (ktX4_within rfl) (by decide) rfl rfl (Nat.le_of_ble_eq_true rfl) (n := 10) rfl ?_
  refine go_if_eq C 45 dX4_canMove_10 (by decide) (n := 13) rfl (fun c1 => ?_) (fun c1 => ?_)
  · have hm := bx_p c1 hm
    refine go_iconst C dX4_canMove_45 (v := (0 : Int32)) (by decide) (n := 46) rfl ?_
    cases hm
    exact go_zret C dX4_canMove_46 (Or.inl rfl)
  · have hm := bx_n c1 hm
    refine go_aload_n C dX4_canMove_13 rfl 0 rfl (n := 14) rfl ?_
    refine go_iload_n C dX4_canMove_14 rfl 1 rfl (n := 15) rfl ?_
    refine go_iload_n C dX4_canMove_15 rfl 2 rfl (n := 16) rfl ?_
    obtain ⟨u2, e3, hm⟩ := bx_b hm
    refine go_callVi C dX4_canMove_16 mw_X4_lowOf ml_X4_104 (rest := []) (ktX4_lowOf e3) (mo4 q cI cZ σ) rfl (by decide) rfl rfl (Nat.le_of_ble_eq_true rfl) (n := 19) rfl ?_
    refine go_iload_n C dX4_canMove_19 rfl 3 rfl (n := 20) rfl ?_
    refine go_iadd C dX4_canMove_20 (n := 21) rfl ?_
    refine go_sipush C dX4_canMove_21 (v := (-999 : Int32)) (by decide) (n := 24) rfl ?_
    refine go_icmp_lt C 45 dX4_canMove_24 (by decide) (n := 27) rfl (fun c4 => ?_) (fun c4 => ?_)
    · have hm := bx_p c4 hm
      refine go_iconst C dX4_canMove_45 (v := (0 : Int32)) (by decide) (n := 46) rfl ?_
      cases hm
      exact go_zret C dX4_canMove_46 (Or.inl rfl)
    · have hm := bx_n c4 hm
      refine go_aload_n C dX4_canMove_27 rfl 0 rfl (n := 28) rfl ?_
      refine go_iload_n C dX4_canMove_28 rfl 1 rfl (n := 29) rfl ?_
      refine go_iload_n C dX4_canMove_29 rfl 2 rfl (n := 30) rfl ?_
      obtain ⟨u5, e6, hm⟩ := bx_b hm
      refine go_callVi C dX4_canMove_30 mw_X4_highOf ml_X4_107 (rest := []) (ktX4_highOf e6) (mo4 q cI cZ σ) rfl (by decide) rfl rfl (Nat.le_of_ble_eq_true rfl) (n := 33) rfl ?_
      refine go_iload_n C dX4_canMove_33 rfl 3 rfl (n := 34) rfl ?_
      refine go_iadd C dX4_canMove_34 (n := 35) rfl ?_
      refine go_sipush C dX4_canMove_35 (v := (999 : Int32)) (by decide) (n := 38) rfl ?_
      refine go_icmp_gt C 45 dX4_canMove_38 (by decide) (n := 41) rfl (fun c7 => ?_) (fun c7 => ?_)
      · have hm := bx_p c7 hm
        refine go_iconst C dX4_canMove_45 (v := (0 : Int32)) (by decide) (n := 46) rfl ?_
        cases hm
        exact go_zret C dX4_canMove_46 (Or.inl rfl)
      · have hm := bx_n c7 hm
        refine go_iconst C dX4_canMove_41 (v := (1 : Int32)) (by decide) (n := 42) rfl ?_
        refine go_goto C 46 dX4_canMove_42 (by decide) ?_
        cases hm
        exact go_zret C dX4_canMove_46 (Or.inr rfl)
def mX4_layPairs_57 (K7 : Int32 → bx_St → Option bx_St) (K17 : Int32 → Int32 → bx_St → Option bx_St) (v1 : Int32) (v2 : Int32) (σ : bx_St) : Option bx_St := (K17 v1 (v2 + 1) σ)
set_option maxRecDepth 8000 in
set_option maxHeartbeats 4000000 in
theorem mX4_layPairs_57_ok (C : bx_Cx p s m args meth c 3 A D cI cZ RX4 cX4_layPairs none) (K7 : Int32 → bx_St → Option bx_St) (HK7 : ∀ (v1 : Int32) (σ : bx_St) (u : bx_St), K7 v1 σ = some u → bx_Go p l e (bx_rm 2) s m args below meth c 3 A D (MQ below (bx_Q none (bx_mw q cI cZ u) D A) args s 0 0 A) (bx_mw q cI cZ σ) 7 [(0, .ref (q 0)), (1, .int v1)] []) (K17 : Int32 → Int32 → bx_St → Option bx_St) (HK17 : ∀ (v1 : Int32) (v2 : Int32) (σ : bx_St) (u : bx_St), K17 v1 v2 σ = some u → bx_Go p l e (bx_rm 2) s m args below meth c 3 A D (MQ below (bx_Q none (bx_mw q cI cZ u) D A) args s 0 0 A) (bx_mw q cI cZ σ) 17 [(0, .ref (q 0)), (1, .int v1), (2, .int v2)] []) : ∀ (v1 : Int32) (v2 : Int32) (σ : bx_St) (u : bx_St), mX4_layPairs_57 K7 K17 v1 v2 σ = some u → bx_Go p l e (bx_rm 2) s m args below meth c 3 A D (MQ below (bx_Q none (bx_mw q cI cZ u) D A) args s 0 0 A) (bx_mw q cI cZ σ) 57 [(0, .ref (q 0)), (1, .int v1), (2, .int v2)] [] := by
  intro v1 v2 σ u hm
  unfold mX4_layPairs_57 at hm
  refine go_iinc C (j := 2) dX4_layPairs_57 rfl (v := (v2 + 1)) rfl (by decide) (lv' := [(2, .int (v2 + 1)), (0, .ref (q 0)), (1, .int v1)]) rfl (n := 60) rfl ?_
  refine go_goto C 17 dX4_layPairs_60 (by decide) ?_
  refine go_lv (lv' := [(0, .ref (q 0)), (1, .int v1), (2, .int (v2 + 1))]) [1, 2, 0] rfl ?_
  exact HK17 _ _ _ _ hm
def mX4_layPairs_17 (K7 : Int32 → bx_St → Option bx_St) : Nat → Int32 → Int32 → bx_St → Option bx_St
  | 0, _, _, _ => none
  | n + 1, v1, v2, σ => (if (12 : Int32) ≤ v2 then (K7 (v1 + 1) σ) else (Option.bind (mX4_areOver v1 v2 σ) fun u2 => (if u2 = 0 then (mX4_layPairs_57 K7 (mX4_layPairs_17 K7 n) v1 v2 σ) else (if bx_ok (σ.1 0 25) 66 then (bx_let (bx_up σ 10 (σ.1 0 25).toNatClampNeg (((12 : Int32) * v1) + v2)) fun σ6 => (mX4_layPairs_57 K7 (mX4_layPairs_17 K7 n) v1 v2 (bx_up σ6 0 25 ((σ6.1 0 25) + (1 : Int32))))) else none))))
set_option maxRecDepth 8000 in
set_option maxHeartbeats 4000000 in
theorem mX4_layPairs_17_ok (C : bx_Cx p s m args meth c 3 A D cI cZ RX4 cX4_layPairs none) (K7 : Int32 → bx_St → Option bx_St) (HK7 : ∀ (v1 : Int32) (σ : bx_St) (u : bx_St), K7 v1 σ = some u → bx_Go p l e (bx_rm 2) s m args below meth c 3 A D (MQ below (bx_Q none (bx_mw q cI cZ u) D A) args s 0 0 A) (bx_mw q cI cZ σ) 7 [(0, .ref (q 0)), (1, .int v1)] []) : ∀ (n : Nat) (v1 : Int32) (v2 : Int32) (σ : bx_St) (u : bx_St), mX4_layPairs_17 K7 n v1 v2 σ = some u → bx_Go p l e (bx_rm 2) s m args below meth c 3 A D (MQ below (bx_Q none (bx_mw q cI cZ u) D A) args s 0 0 A) (bx_mw q cI cZ σ) 17 [(0, .ref (q 0)), (1, .int v1), (2, .int v2)] [] := by
  intro n
  induction n with
  | zero =>
    intro v1 v2 σ u hm
    cases hm
  | succ n ih =>
    intro v1 v2 σ u hm
    rw [mX4_layPairs_17] at hm
    refine go_iload_n C dX4_layPairs_17 rfl 2 rfl (n := 18) rfl ?_
    refine go_bipush C dX4_layPairs_18 (v := (12 : Int32)) (by decide) (n := 20) rfl ?_
    refine go_icmp_ge C 63 dX4_layPairs_20 (by decide) (n := 23) rfl (fun c1 => ?_) (fun c1 => ?_)
    · have hm := bx_p c1 hm
      refine go_iinc C (j := 1) dX4_layPairs_63 rfl (v := (v1 + 1)) rfl (by decide) (lv' := [(1, .int (v1 + 1)), (0, .ref (q 0)), (2, .int v2)]) rfl (n := 66) rfl ?_
      refine go_goto C 7 dX4_layPairs_66 (by decide) ?_
      refine go_lv (lv' := [(0, .ref (q 0)), (1, .int (v1 + 1))]) [1, 0] rfl ?_
      exact HK7 _ _ _ hm
    · have hm := bx_n c1 hm
      refine go_aload_n C dX4_layPairs_23 rfl 0 rfl (n := 24) rfl ?_
      refine go_iload_n C dX4_layPairs_24 rfl 1 rfl (n := 25) rfl ?_
      refine go_iload_n C dX4_layPairs_25 rfl 2 rfl (n := 26) rfl ?_
      obtain ⟨u2, e3, hm⟩ := bx_b hm
      refine go_callVi C dX4_layPairs_26 mw_X4_areOver ml_X4_132 (rest := []) (ktX4_areOver e3) (mo4 q cI cZ σ) rfl (by decide) rfl rfl (Nat.le_of_ble_eq_true rfl) (n := 29) rfl ?_
      refine go_if_eq C 57 dX4_layPairs_29 (by decide) (n := 32) rfl (fun c4 => ?_) (fun c4 => ?_)
      · have hm := bx_p c4 hm
        refine go_lv (lv' := [(0, .ref (q 0)), (1, .int v1), (2, .int v2)]) [0, 1, 2] rfl ?_
        exact mX4_layPairs_57_ok C _ HK7 _ ih _ _ _ _ hm
      · have hm := bx_n c4 hm
        refine go_aload_n C dX4_layPairs_32 rfl 0 rfl (n := 33) rfl ?_
        refine go_get C dX4_layPairs_33 (mf4_26 q cI cZ σ) rfl inX4 (by decide) fl_X4_38 (n := 36) rfl ?_
        refine go_aload_n C dX4_layPairs_36 rfl 0 rfl (n := 37) rfl ?_
        refine go_get C dX4_layPairs_37 (mf4_25 q cI cZ σ) rfl inX4 (by decide) fl_X4_199 (n := 40) rfl ?_
        refine go_bipush C dX4_layPairs_40 (v := (12 : Int32)) (by decide) (n := 42) rfl ?_
        refine go_iload_n C dX4_layPairs_42 rfl 1 rfl (n := 43) rfl ?_
        refine go_imul C dX4_layPairs_43 (n := 44) rfl ?_
        refine go_iload_n C dX4_layPairs_44 rfl 2 rfl (n := 45) rfl ?_
        refine go_iadd C dX4_layPairs_45 (n := 46) rfl ?_
        obtain ⟨b5, hm⟩ := bx_g hm
        obtain ⟨σ6, z7, hm⟩ := bx_lt hm
        refine go_iast C dX4_layPairs_46 (ws' := (bx_mw q cI cZ σ6)) (by rw [z7]; exact (mu_10 q cI cZ σ (σ.1 0 25) (((12 : Int32) * v1) + v2))) b5 (n := 47) rfl ?_
        refine go_aload_n C dX4_layPairs_47 rfl 0 rfl (n := 48) rfl ?_
        refine go_dup C dX4_layPairs_48 rfl (n := 49) rfl ?_
        refine go_get C dX4_layPairs_49 (mf4_25 q cI cZ σ6) rfl inX4 (by decide) fl_X4_199 (n := 52) rfl ?_
        refine go_iconst C dX4_layPairs_52 (v := (1 : Int32)) (by decide) (n := 53) rfl ?_
        refine go_iadd C dX4_layPairs_53 (n := 54) rfl ?_
        refine go_put C dX4_layPairs_54 (mp4_25 q cI cZ σ6 ((σ6.1 0 25) + (1 : Int32))) rfl inX4 tyX4_ok nmX4 (by decide) fl_X4_199 rfl (ty := .int) (by decide +kernel) (by rfl) (by rfl) (n := 57) rfl ?_
        refine go_lv (lv' := [(0, .ref (q 0)), (1, .int v1), (2, .int v2)]) [0, 1, 2] rfl ?_
        exact mX4_layPairs_57_ok C _ HK7 _ ih _ _ _ _ hm
def mX4_layPairs_7 : Nat → Int32 → bx_St → Option bx_St
  | 0, _, _ => none
  | n + 1, v1, σ => (if (12 : Int32) ≤ v1 then (some σ) else (mX4_layPairs_17 (mX4_layPairs_7 n) bx_F v1 (v1 + (1 : Int32)) σ))
set_option maxRecDepth 8000 in
set_option maxHeartbeats 4000000 in
theorem mX4_layPairs_7_ok (C : bx_Cx p s m args meth c 3 A D cI cZ RX4 cX4_layPairs none) : ∀ (n : Nat) (v1 : Int32) (σ : bx_St) (u : bx_St), mX4_layPairs_7 n v1 σ = some u → bx_Go p l e (bx_rm 2) s m args below meth c 3 A D (MQ below (bx_Q none (bx_mw q cI cZ u) D A) args s 0 0 A) (bx_mw q cI cZ σ) 7 [(0, .ref (q 0)), (1, .int v1)] [] := by
  intro n
  induction n with
  | zero =>
    intro v1 σ u hm
    cases hm
  | succ n ih =>
    intro v1 σ u hm
    rw [mX4_layPairs_7] at hm
    refine go_iload_n C dX4_layPairs_7 rfl 1 rfl (n := 8) rfl ?_
    refine go_bipush C dX4_layPairs_8 (v := (12 : Int32)) (by decide) (n := 10) rfl ?_
    refine go_icmp_ge C 69 dX4_layPairs_10 (by decide) (n := 13) rfl (fun c1 => ?_) (fun c1 => ?_)
    · have hm := bx_p c1 hm
      cases hm
      exact go_vret C dX4_layPairs_69
    · have hm := bx_n c1 hm
      refine go_iload_n C dX4_layPairs_13 rfl 1 rfl (n := 14) rfl ?_
      refine go_iconst C dX4_layPairs_14 (v := (1 : Int32)) (by decide) (n := 15) rfl ?_
      refine go_iadd C dX4_layPairs_15 (n := 16) rfl ?_
      refine go_istore_n C dX4_layPairs_16 rfl (by decide) (lv' := [(2, .int (v1 + (1 : Int32))), (0, .ref (q 0)), (1, .int v1)]) rfl (n := 17) rfl ?_
      refine go_lv (lv' := [(0, .ref (q 0)), (1, .int v1), (2, .int (v1 + (1 : Int32)))]) [1, 2, 0] rfl ?_
      exact mX4_layPairs_17_ok C _ ih _ _ _ _ _ hm
def mX4_layPairs (σ : bx_St) : Option bx_St := (mX4_layPairs_7 bx_F (0 : Int32) (bx_up σ 0 25 (0 : Int32)))
set_option maxRecDepth 8000 in
set_option maxHeartbeats 4000000 in
theorem ktX4_layPairs {l : Launch} {D : va_G} {cI cZ : ClassId} {q : Nat → Nat} {σ : bx_St} {u : bx_St} (hm : mX4_layPairs σ = some u) : bx_Mt l D cI cZ yX4_layPairs cX4_layPairs 3 none 2 [.ref (q 0)] (bx_mw q cI cZ σ) none (bx_mw q cI cZ u) := by
  refine bx_mk (by decide) (Nat.le_of_ble_eq_true rfl) (lv := [(0, .ref (q 0))]) rfl (fun p e s m args below meth c A C => ?_)
  replace C : bx_Cx p s m args meth c 3 A D cI cZ RX4 cX4_layPairs none := C
  unfold mX4_layPairs at hm
  refine go_aload_n C dX4_layPairs_0 rfl 0 rfl (n := 1) rfl ?_
  refine go_iconst C dX4_layPairs_1 (v := (0 : Int32)) (by decide) (n := 2) rfl ?_
  refine go_put C dX4_layPairs_2 (mp4_25 q cI cZ σ (0 : Int32)) rfl inX4 tyX4_ok nmX4 (by decide) fl_X4_199 rfl (ty := .int) (by decide +kernel) (by rfl) (by rfl) (n := 5) rfl ?_
  refine go_iconst C dX4_layPairs_5 (v := (0 : Int32)) (by decide) (n := 6) rfl ?_
  refine go_istore_n C dX4_layPairs_6 rfl (by decide) (lv' := [(1, .int (0 : Int32)), (0, .ref (q 0))]) rfl (n := 7) rfl ?_
  refine go_lv (lv' := [(0, .ref (q 0)), (1, .int (0 : Int32))]) [1, 0] rfl ?_
  exact mX4_layPairs_7_ok C _ _ _ _ hm
def mX4_pairMany (σ : bx_St) : Option (Int32 × bx_St) := (Option.bind (mX4_layPairs σ) fun u1 => (some ((u1.1 0 25), u1)))
set_option maxRecDepth 8000 in
set_option maxHeartbeats 4000000 in
theorem ktX4_pairMany {l : Launch} {D : va_G} {cI cZ : ClassId} {q : Nat → Nat} {σ : bx_St} {u : (Int32 × bx_St)} (hm : mX4_pairMany σ = some u) : bx_Mt l D cI cZ yX4_pairMany cX4_pairMany 1 (some .int) 3 [.ref (q 0)] (bx_mw q cI cZ σ) (some (.int u.1)) (bx_mw q cI cZ u.2) := by
  refine bx_mk (by decide) (Nat.le_of_ble_eq_true rfl) (lv := [(0, .ref (q 0))]) rfl (fun p e s m args below meth c A C => ?_)
  replace C : bx_Cx p s m args meth c 1 A D cI cZ RX4 cX4_pairMany (some .int) := C
  unfold mX4_pairMany at hm
  refine go_aload_n C dX4_pairMany_0 rfl 0 rfl (n := 1) rfl ?_
  obtain ⟨u1, e2, hm⟩ := bx_b hm
  refine go_callVv C dX4_pairMany_1 mw_X4_layPairs ml_X4_202 (rest := []) (ktX4_layPairs e2) (mo4 q cI cZ σ) rfl (by decide) rfl rfl (Nat.le_of_ble_eq_true rfl) (n := 4) rfl ?_
  refine go_aload_n C dX4_pairMany_4 rfl 0 rfl (n := 5) rfl ?_
  refine go_get C dX4_pairMany_5 (mf4_25 q cI cZ u1) rfl inX4 (by decide) fl_X4_199 (n := 8) rfl ?_
  cases hm
  exact go_iret C dX4_pairMany_8
def mX4_howMany (v1 : Int32) (σ : bx_St) : Option (Int32 × bx_St) := (if v1 = (0 : Int32) then (some ((σ.1 0 0), σ)) else (if v1 = (1 : Int32) then (Option.bind (mX4_boxMany σ) fun u3 => (some (u3, σ))) else (if v1 = (2 : Int32) then (Option.bind (mX4_pairMany σ) fun u6 => (some (u6.1, u6.2))) else (if v1 = (3 : Int32) then (some ((σ.1 0 14), σ)) else (if v1 = (4 : Int32) then (some ((σ.1 0 15), σ)) else (if v1 = (5 : Int32) then (some ((σ.1 0 16), σ)) else (if v1 = (6 : Int32) then (some ((σ.1 0 17), σ)) else (if v1 = (7 : Int32) then (some ((σ.1 0 18), σ)) else (if v1 = (8 : Int32) then (if (σ.1 0 3) = 0 then (some ((0 : Int32), σ)) else (some ((1 : Int32), σ))) else (if v1 = (9 : Int32) then (some ((σ.1 0 2), σ)) else (some ((-10003 : Int32), σ))))))))))))
set_option maxRecDepth 8000 in
set_option maxHeartbeats 4000000 in
theorem ktX4_howMany {l : Launch} {D : va_G} {cI cZ : ClassId} {q : Nat → Nat} {v1 : Int32} {σ : bx_St} {u : (Int32 × bx_St)} (hm : mX4_howMany v1 σ = some u) : bx_Mt l D cI cZ yX4_howMany cX4_howMany 2 (some .int) 4 [.ref (q 0), .int v1] (bx_mw q cI cZ σ) (some (.int u.1)) (bx_mw q cI cZ u.2) := by
  refine bx_mk (by decide) (Nat.le_of_ble_eq_true rfl) (lv := [(0, .ref (q 0)), (1, .int v1)]) rfl (fun p e s m args below meth c A C => ?_)
  replace C : bx_Cx p s m args meth c 2 A D cI cZ RX4 cX4_howMany (some .int) := C
  unfold mX4_howMany at hm
  refine go_iload_n C dX4_howMany_0 rfl 1 rfl (n := 1) rfl ?_
  by_cases c1 : v1 = (0 : Int32)
  · have hm := bx_p c1 hm
    refine go_tableIn C 56 dX4_howMany_1 (off := 55) (by rw [c1]; decide) (by rw [c1]; decide) (by rw [c1]; decide) (by decide) ?_
    refine go_aload_n C dX4_howMany_56 rfl 0 rfl (n := 57) rfl ?_
    refine go_get C dX4_howMany_57 (mf4_0 q cI cZ σ) rfl inX4 (by decide) fl_X4_45 (n := 60) rfl ?_
    cases hm
    exact go_iret C dX4_howMany_60
  have hm := bx_n c1 hm
  by_cases c2 : v1 = (1 : Int32)
  · have hm := bx_p c2 hm
    refine go_tableIn C 61 dX4_howMany_1 (off := 60) (by rw [c2]; decide) (by rw [c2]; decide) (by rw [c2]; decide) (by decide) ?_
    refine go_aload_n C dX4_howMany_61 rfl 0 rfl (n := 62) rfl ?_
    obtain ⟨u3, e4, hm⟩ := bx_b hm
    refine go_callVi C dX4_howMany_62 mw_X4_boxMany ml_X4_80 (rest := []) (ktX4_boxMany e4) (mo4 q cI cZ σ) rfl (by decide) rfl rfl (Nat.le_of_ble_eq_true rfl) (n := 65) rfl ?_
    cases hm
    exact go_iret C dX4_howMany_65
  have hm := bx_n c2 hm
  by_cases c5 : v1 = (2 : Int32)
  · have hm := bx_p c5 hm
    refine go_tableIn C 66 dX4_howMany_1 (off := 65) (by rw [c5]; decide) (by rw [c5]; decide) (by rw [c5]; decide) (by decide) ?_
    refine go_aload_n C dX4_howMany_66 rfl 0 rfl (n := 67) rfl ?_
    obtain ⟨u6, e7, hm⟩ := bx_b hm
    refine go_callVi C dX4_howMany_67 mw_X4_pairMany ml_X4_233 (rest := []) (ktX4_pairMany e7) (mo4 q cI cZ σ) rfl (by decide) rfl rfl (Nat.le_of_ble_eq_true rfl) (n := 70) rfl ?_
    cases hm
    exact go_iret C dX4_howMany_70
  have hm := bx_n c5 hm
  by_cases c8 : v1 = (3 : Int32)
  · have hm := bx_p c8 hm
    refine go_tableIn C 71 dX4_howMany_1 (off := 70) (by rw [c8]; decide) (by rw [c8]; decide) (by rw [c8]; decide) (by decide) ?_
    refine go_aload_n C dX4_howMany_71 rfl 0 rfl (n := 72) rfl ?_
    refine go_get C dX4_howMany_72 (mf4_14 q cI cZ σ) rfl inX4 (by decide) fl_X4_138 (n := 75) rfl ?_
    cases hm
    exact go_iret C dX4_howMany_75
  have hm := bx_n c8 hm
  by_cases c9 : v1 = (4 : Int32)
  · have hm := bx_p c9 hm
    refine go_tableIn C 76 dX4_howMany_1 (off := 75) (by rw [c9]; decide) (by rw [c9]; decide) (by rw [c9]; decide) (by decide) ?_
    refine go_aload_n C dX4_howMany_76 rfl 0 rfl (n := 77) rfl ?_
    refine go_get C dX4_howMany_77 (mf4_15 q cI cZ σ) rfl inX4 (by decide) fl_X4_141 (n := 80) rfl ?_
    cases hm
    exact go_iret C dX4_howMany_80
  have hm := bx_n c9 hm
  by_cases c10 : v1 = (5 : Int32)
  · have hm := bx_p c10 hm
    refine go_tableIn C 81 dX4_howMany_1 (off := 80) (by rw [c10]; decide) (by rw [c10]; decide) (by rw [c10]; decide) (by decide) ?_
    refine go_aload_n C dX4_howMany_81 rfl 0 rfl (n := 82) rfl ?_
    refine go_get C dX4_howMany_82 (mf4_16 q cI cZ σ) rfl inX4 (by decide) fl_X4_144 (n := 85) rfl ?_
    cases hm
    exact go_iret C dX4_howMany_85
  have hm := bx_n c10 hm
  by_cases c11 : v1 = (6 : Int32)
  · have hm := bx_p c11 hm
    refine go_tableIn C 86 dX4_howMany_1 (off := 85) (by rw [c11]; decide) (by rw [c11]; decide) (by rw [c11]; decide) (by decide) ?_
    refine go_aload_n C dX4_howMany_86 rfl 0 rfl (n := 87) rfl ?_
    refine go_get C dX4_howMany_87 (mf4_17 q cI cZ σ) rfl inX4 (by decide) fl_X4_147 (n := 90) rfl ?_
    cases hm
    exact go_iret C dX4_howMany_90
  have hm := bx_n c11 hm
  by_cases c12 : v1 = (7 : Int32)
  · have hm := bx_p c12 hm
    refine go_tableIn C 91 dX4_howMany_1 (off := 90) (by rw [c12]; decide) (by rw [c12]; decide) (by rw [c12]; decide) (by decide) ?_
    refine go_aload_n C dX4_howMany_91 rfl 0 rfl (n := 92) rfl ?_
    refine go_get C dX4_howMany_92 (mf4_18 q cI cZ σ) rfl inX4 (by decide) fl_X4_150 (n := 95) rfl ?_
    cases hm
    exact go_iret C dX4_howMany_95
  have hm := bx_n c12 hm
  by_cases c13 : v1 = (8 : Int32)
  · have hm := bx_p c13 hm
    refine go_tableIn C 96 dX4_howMany_1 (off := 95) (by rw [c13]; decide) (by rw [c13]; decide) (by rw [c13]; decide) (by decide) ?_
    refine go_aload_n C dX4_howMany_96 rfl 0 rfl (n := 97) rfl ?_
    refine go_get C dX4_howMany_97 (mf4_3 q cI cZ σ) rfl inX4 (by decide) fl_X4_101 (n := 100) rfl ?_
    refine go_if_eq C 107 dX4_howMany_100 (by decide) (n := 103) rfl (fun c14 => ?_) (fun c14 => ?_)
    · have hm := bx_p c14 hm
      refine go_iconst C dX4_howMany_107 (v := (0 : Int32)) (by decide) (n := 108) rfl ?_
      cases hm
      exact go_iret C dX4_howMany_108
    · have hm := bx_n c14 hm
      refine go_iconst C dX4_howMany_103 (v := (1 : Int32)) (by decide) (n := 104) rfl ?_
      refine go_goto C 108 dX4_howMany_104 (by decide) ?_
      cases hm
      exact go_iret C dX4_howMany_108
  have hm := bx_n c13 hm
  by_cases c15 : v1 = (9 : Int32)
  · have hm := bx_p c15 hm
    refine go_tableIn C 109 dX4_howMany_1 (off := 108) (by rw [c15]; decide) (by rw [c15]; decide) (by rw [c15]; decide) (by decide) ?_
    refine go_aload_n C dX4_howMany_109 rfl 0 rfl (n := 110) rfl ?_
    refine go_get C dX4_howMany_110 (mf4_2 q cI cZ σ) rfl inX4 (by decide) fl_X4_73 (n := 113) rfl ?_
    cases hm
    exact go_iret C dX4_howMany_113
  have hm := bx_n c15 hm
  have nc1 := bx_ne (n := 0) (0 : Int32) (by decide) c1
  have nc2 := bx_ne (n := 1) (1 : Int32) (by decide) c2
  have nc5 := bx_ne (n := 2) (2 : Int32) (by decide) c5
  have nc8 := bx_ne (n := 3) (3 : Int32) (by decide) c8
  have nc9 := bx_ne (n := 4) (4 : Int32) (by decide) c9
  have nc10 := bx_ne (n := 5) (5 : Int32) (by decide) c10
  have nc11 := bx_ne (n := 6) (6 : Int32) (by decide) c11
  have nc12 := bx_ne (n := 7) (7 : Int32) (by decide) c12
  have nc13 := bx_ne (n := 8) (8 : Int32) (by decide) c13
  have nc15 := bx_ne (n := 9) (9 : Int32) (by decide) c15
  refine go_tableOut C 114 dX4_howMany_1 (by omega) (by decide) ?_
  refine go_sipush C dX4_howMany_114 (v := (-10003 : Int32)) (by decide) (n := 117) rfl ?_
  cases hm
  exact go_iret C dX4_howMany_117
def mX4_count (v1 : Int32) (σ : bx_St) : Option (Int32 × bx_St) := (Option.bind (mX4_howMany v1 σ) fun u1 => (some (u1.1, u1.2)))
set_option maxRecDepth 8000 in
set_option maxHeartbeats 4000000 in
theorem ktX4_count {l : Launch} {D : va_G} {cI cZ : ClassId} {q : Nat → Nat} {v1 : Int32} {σ : bx_St} {u : (Int32 × bx_St)} (hm : mX4_count v1 σ = some u) : bx_Mt l D cI cZ yX4_count cX4_count 2 (some .int) 5 [.ref (q 0), .int v1] (bx_mw q cI cZ σ) (some (.int u.1)) (bx_mw q cI cZ u.2) := by
  refine bx_mk (by decide) (Nat.le_of_ble_eq_true rfl) (lv := [(0, .ref (q 0)), (1, .int v1)]) rfl (fun p e s m args below meth c A C => ?_)
  replace C : bx_Cx p s m args meth c 2 A D cI cZ RX4 cX4_count (some .int) := C
  unfold mX4_count at hm
  refine go_aload_n C dX4_count_0 rfl 0 rfl (n := 1) rfl ?_
  refine go_iload_n C dX4_count_1 rfl 1 rfl (n := 2) rfl ?_
  obtain ⟨u1, e2, hm⟩ := bx_b hm
  refine go_callVi C dX4_count_2 mw_X4_howMany ml_X4_236 (rest := []) (ktX4_howMany e2) (mo4 q cI cZ σ) rfl (by decide) rfl rfl (Nat.le_of_ble_eq_true rfl) (n := 5) rfl ?_
  cases hm
  exact go_iret C dX4_count_5
end
