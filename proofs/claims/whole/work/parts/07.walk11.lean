section
variable {p : Program} {l : Launch} {e : Env} {s : State} {m : MethodId} {args : Array Value} {below : List Frame} {meth : Method} {c : Code} {A : Nat → Prop} {D : va_G} {cI cZ : ClassId} {q : Nat → Nat} {ws : va_W}
def mX4_swapped_92 (v4 : Int32) (v5 : Int32) (v6 : Int32) (s0 : Int32) (σ : bx_St) : Option bx_St := (if bx_ok (((12 : Int32) * v4) + v5) 144 then (bx_let (bx_up σ 4 (((12 : Int32) * v4) + v5).toNatClampNeg s0) fun σ2 => (if bx_ok (((12 : Int32) * v5) + v4) 144 then (bx_let (bx_up σ2 4 (((12 : Int32) * v5) + v4).toNatClampNeg s0) fun σ5 => (Option.bind (mX4_areOver v4 v5 σ5) fun u7 => (if v6 = u7 then (some (bx_up σ5 0 24 ((σ5.1 0 24) + (0 : Int32)))) else (some (bx_up σ5 0 24 ((σ5.1 0 24) + (1 : Int32))))))) else none)) else none)
set_option maxRecDepth 8000 in
set_option maxHeartbeats 4000000 in
theorem mX4_swapped_92_ok (C : bx_Cx p s m args meth c 8 A D cI cZ RX4 cX4_swapped none) : ∀ (v4 : Int32) (v5 : Int32) (v6 : Int32) (s0 : Int32) (σ : bx_St) (u : bx_St), mX4_swapped_92 v4 v5 v6 s0 σ = some u → bx_Go p l e (bx_rm 2) s m args below meth c 8 A D (MQ below (bx_Q none (bx_mw q cI cZ u) D A) args s 0 0 A) (bx_mw q cI cZ σ) 92 [(0, .ref (q 0)), (4, .int v4), (5, .int v5), (6, .int v6)] [.int s0] := by
  intro v4 v5 v6 s0 σ u hm
  unfold mX4_swapped_92 at hm
  refine go_istore C dX4_swapped_92 (by decide) (lv' := [(7, .int s0), (0, .ref (q 0)), (4, .int v4), (5, .int v5), (6, .int v6)]) rfl (n := 94) rfl ?_
  refine go_aload_n C dX4_swapped_94 rfl 1 rfl (n := 95) rfl ?_
  refine go_get C dX4_swapped_95 (mf4_7 q cI cZ σ) rfl inX4 (by decide) fl_X4_19 (n := 98) rfl ?_
  refine go_bipush C dX4_swapped_98 (v := (12 : Int32)) (by decide) (n := 100) rfl ?_
  refine go_iload C dX4_swapped_100 2 rfl (n := 102) rfl ?_
  refine go_imul C dX4_swapped_102 (n := 103) rfl ?_
  refine go_iload C dX4_swapped_103 3 rfl (n := 105) rfl ?_
  refine go_iadd C dX4_swapped_105 (n := 106) rfl ?_
  refine go_iload C dX4_swapped_106 0 rfl (n := 108) rfl ?_
  obtain ⟨b1, hm⟩ := bx_g hm
  obtain ⟨σ2, z3, hm⟩ := bx_lt hm
  refine go_iast C dX4_swapped_108 (ws' := (bx_mw q cI cZ σ2)) (by rw [z3]; exact (mu_4 q cI cZ σ (((12 : Int32) * v4) + v5) s0)) b1 (n := 109) rfl ?_
  refine go_aload_n C dX4_swapped_109 rfl 1 rfl (n := 110) rfl ?_
  refine go_get C dX4_swapped_110 (mf4_7 q cI cZ σ2) rfl inX4 (by decide) fl_X4_19 (n := 113) rfl ?_
  refine go_bipush C dX4_swapped_113 (v := (12 : Int32)) (by decide) (n := 115) rfl ?_
  refine go_iload C dX4_swapped_115 3 rfl (n := 117) rfl ?_
  refine go_imul C dX4_swapped_117 (n := 118) rfl ?_
  refine go_iload C dX4_swapped_118 2 rfl (n := 120) rfl ?_
  refine go_iadd C dX4_swapped_120 (n := 121) rfl ?_
  refine go_iload C dX4_swapped_121 0 rfl (n := 123) rfl ?_
  obtain ⟨b4, hm⟩ := bx_g hm
  obtain ⟨σ5, z6, hm⟩ := bx_lt hm
  refine go_iast C dX4_swapped_123 (ws' := (bx_mw q cI cZ σ5)) (by rw [z6]; exact (mu_4 q cI cZ σ2 (((12 : Int32) * v5) + v4) s0)) b4 (n := 124) rfl ?_
  refine go_aload_n C dX4_swapped_124 rfl 1 rfl (n := 125) rfl ?_
  refine go_dup C dX4_swapped_125 rfl (n := 126) rfl ?_
  refine go_get C dX4_swapped_126 (mf4_24 q cI cZ σ5) rfl inX4 (by decide) fl_X4_123 (n := 129) rfl ?_
  refine go_iload C dX4_swapped_129 4 rfl (n := 131) rfl ?_
  refine go_aload_n C dX4_swapped_131 rfl 1 rfl (n := 132) rfl ?_
  refine go_iload C dX4_swapped_132 2 rfl (n := 134) rfl ?_
  refine go_iload C dX4_swapped_134 3 rfl (n := 136) rfl ?_
  obtain ⟨u7, e8, hm⟩ := bx_b hm
  refine go_callVi C dX4_swapped_136 mw_X4_areOver ml_X4_132 (rest := [.int v6, .int (σ5.1 0 24), .ref (q 0)]) (ktX4_areOver e8) (mo4 q cI cZ σ5) rfl (by decide) rfl rfl (Nat.le_of_ble_eq_true rfl) (n := 139) rfl ?_
  refine go_icmp_ne C 146 dX4_swapped_139 (by decide) (n := 142) rfl (fun c9 => ?_) (fun c9 => ?_)
  · have hm := bx_n c9 hm
    refine go_iconst C dX4_swapped_146 (v := (1 : Int32)) (by decide) (n := 147) rfl ?_
    refine go_iadd C dX4_swapped_147 (n := 148) rfl ?_
    refine go_put C dX4_swapped_148 (mp4_24 q cI cZ σ5 ((σ5.1 0 24) + (1 : Int32))) rfl inX4 tyX4_ok nmX4 (by decide) fl_X4_123 rfl (ty := .int) (by decide +kernel) (by rfl) (by rfl) (n := 151) rfl ?_
    cases hm
    exact go_vret C dX4_swapped_151
  · have hm := bx_p c9 hm
    refine go_iconst C dX4_swapped_142 (v := (0 : Int32)) (by decide) (n := 143) rfl ?_
    refine go_goto C 147 dX4_swapped_143 (by decide) ?_
    refine go_iadd C dX4_swapped_147 (n := 148) rfl ?_
    refine go_put C dX4_swapped_148 (mp4_24 q cI cZ σ5 ((σ5.1 0 24) + (0 : Int32))) rfl inX4 tyX4_ok nmX4 (by decide) fl_X4_123 rfl (ty := .int) (by decide +kernel) (by rfl) (by rfl) (n := 151) rfl ?_
    cases hm
    exact go_vret C dX4_swapped_151
def mX4_swapped (v1 : Int32) (v2 : Int32) (v3 : Int32) (σ : bx_St) : Option bx_St := (if bx_ok v3 3 then (if bx_ok v3 3 then (bx_let (bx_up σ 7 v3.toNatClampNeg ((σ.1 7 v3.toNatClampNeg) + (1 : Int32))) fun σ3 => (if (bx_rem v1 (2 : Int32)) = (bx_rem v2 (2 : Int32)) then (some σ3) else (if (v1 / (2 : Int32)) = (v2 / (2 : Int32)) then (some σ3) else (Option.bind (mX4_areOver (v1 / (2 : Int32)) (v2 / (2 : Int32)) σ3) fun u7 => (if (bx_rem v1 (2 : Int32)) = 0 then (if bx_ok (((12 : Int32) * (v1 / (2 : Int32))) + (v2 / (2 : Int32))) 144 then (mX4_swapped_92 (v1 / (2 : Int32)) (v2 / (2 : Int32)) u7 ((σ3.1 4 (((12 : Int32) * (v1 / (2 : Int32))) + (v2 / (2 : Int32))).toNatClampNeg) ||| ((1 : Int32) <<< (v3 &&& 31))) σ3) else none) else (if bx_ok (((12 : Int32) * (v1 / (2 : Int32))) + (v2 / (2 : Int32))) 144 then (mX4_swapped_92 (v1 / (2 : Int32)) (v2 / (2 : Int32)) u7 ((σ3.1 4 (((12 : Int32) * (v1 / (2 : Int32))) + (v2 / (2 : Int32))).toNatClampNeg) &&& (((1 : Int32) <<< (v3 &&& 31)) ^^^ (-1 : Int32))) σ3) else none)))))) else none) else none)
set_option maxRecDepth 8000 in
set_option maxHeartbeats 4000000 in
theorem ktX4_swapped {l : Launch} {D : va_G} {cI cZ : ClassId} {q : Nat → Nat} {v1 : Int32} {v2 : Int32} {v3 : Int32} {σ : bx_St} {u : bx_St} (hm : mX4_swapped v1 v2 v3 σ = some u) : bx_Mt l D cI cZ yX4_swapped cX4_swapped 8 none 2 [.ref (q 0), .int v1, .int v2, .int v3] (bx_mw q cI cZ σ) none (bx_mw q cI cZ u) := by
  refine bx_mk (by decide) (Nat.le_of_ble_eq_true rfl) (lv := [(0, .ref (q 0)), (1, .int v1), (2, .int v2), (3, .int v3)]) rfl (fun p e s m args below meth c A C => ?_)
  replace C : bx_Cx p s m args meth c 8 A D cI cZ RX4 cX4_swapped none := C
  unfold mX4_swapped at hm
  refine go_aload_n C dX4_swapped_0 rfl 0 rfl (n := 1) rfl ?_
  refine go_get C dX4_swapped_1 (mf4_13 q cI cZ σ) rfl inX4 (by decide) fl_X4_28 (n := 4) rfl ?_
  refine go_iload_n C dX4_swapped_4 rfl 3 rfl (n := 5) rfl ?_
  refine go_dup2_11 C dX4_swapped_5 rfl rfl (n := 6) rfl ?_
  obtain ⟨b1, hm⟩ := bx_g hm
  refine go_iald C dX4_swapped_6 (ma_7 q cI cZ σ) b1 (n := 7) rfl ?_
  refine go_iconst C dX4_swapped_7 (v := (1 : Int32)) (by decide) (n := 8) rfl ?_
  refine go_iadd C dX4_swapped_8 (n := 9) rfl ?_
  obtain ⟨b2, hm⟩ := bx_g hm
  obtain ⟨σ3, z4, hm⟩ := bx_lt hm
  refine go_iast C dX4_swapped_9 (ws' := (bx_mw q cI cZ σ3)) (by rw [z4]; exact (mu_7 q cI cZ σ v3 ((σ.1 7 v3.toNatClampNeg) + (1 : Int32)))) b2 (n := 10) rfl ?_
  refine go_iload_n C dX4_swapped_10 rfl 1 rfl (n := 11) rfl ?_
  refine go_iconst C dX4_swapped_11 (v := (2 : Int32)) (by decide) (n := 12) rfl ?_
  refine go_idiv C dX4_swapped_12 (by decide) (n := 13) rfl ?_
  refine go_istore C dX4_swapped_13 (by decide) (lv' := [(4, .int (v1 / (2 : Int32))), (0, .ref (q 0)), (1, .int v1), (2, .int v2), (3, .int v3)]) rfl (n := 15) rfl ?_
  refine go_iload_n C dX4_swapped_15 rfl 3 rfl (n := 16) rfl ?_
  refine go_iconst C dX4_swapped_16 (v := (2 : Int32)) (by decide) (n := 17) rfl ?_
  refine go_idiv C dX4_swapped_17 (by decide) (n := 18) rfl ?_
  refine go_istore C dX4_swapped_18 (by decide) (lv' := [(5, .int (v2 / (2 : Int32))), (4, .int (v1 / (2 : Int32))), (0, .ref (q 0)), (1, .int v1), (2, .int v2), (3, .int v3)]) rfl (n := 20) rfl ?_
  refine go_iload_n C dX4_swapped_20 rfl 3 rfl (n := 21) rfl ?_
  refine go_iconst C dX4_swapped_21 (v := (2 : Int32)) (by decide) (n := 22) rfl ?_
  refine go_irem C dX4_swapped_22 (by decide) (n := 23) rfl ?_
  refine go_iload_n C dX4_swapped_23 rfl 4 rfl (n := 24) rfl ?_
  refine go_iconst C dX4_swapped_24 (v := (2 : Int32)) (by decide) (n := 25) rfl ?_
  refine go_irem C dX4_swapped_25 (by decide) (n := 26) rfl ?_
  refine go_icmp_eq C 36 dX4_swapped_26 (by decide) (n := 29) rfl (fun c5 => ?_) (fun c5 => ?_)
  · have hm := bx_p c5 hm
    cases hm
    exact go_vret C dX4_swapped_36
  · have hm := bx_n c5 hm
    refine go_iload C dX4_swapped_29 1 rfl (n := 31) rfl ?_
    refine go_iload C dX4_swapped_31 0 rfl (n := 33) rfl ?_
    refine go_icmp_ne C 37 dX4_swapped_33 (by decide) (n := 36) rfl (fun c6 => ?_) (fun c6 => ?_)
    · have hm := bx_n c6 hm
      refine go_aload_n C dX4_swapped_37 rfl 2 rfl (n := 38) rfl ?_
      refine go_iload C dX4_swapped_38 1 rfl (n := 40) rfl ?_
      refine go_iload C dX4_swapped_40 0 rfl (n := 42) rfl ?_
      obtain ⟨u7, e8, hm⟩ := bx_b hm
      refine go_callVi C dX4_swapped_42 mw_X4_areOver ml_X4_132 (rest := []) (ktX4_areOver e8) (mo4 q cI cZ σ3) rfl (by decide) rfl rfl (Nat.le_of_ble_eq_true rfl) (n := 45) rfl ?_
      refine go_istore C dX4_swapped_45 (by decide) (lv' := [(6, .int u7), (5, .int (v2 / (2 : Int32))), (4, .int (v1 / (2 : Int32))), (0, .ref (q 0)), (1, .int v1), (2, .int v2), (3, .int v3)]) rfl (n := 47) rfl ?_
      refine go_iload_n C dX4_swapped_47 rfl 4 rfl (n := 48) rfl ?_
      refine go_iconst C dX4_swapped_48 (v := (2 : Int32)) (by decide) (n := 49) rfl ?_
      refine go_irem C dX4_swapped_49 (by decide) (n := 50) rfl ?_
      refine go_if_ne C 73 dX4_swapped_50 (by decide) (n := 53) rfl (fun c9 => ?_) (fun c9 => ?_)
      · have hm := bx_n c9 hm
        refine go_aload_n C dX4_swapped_73 rfl 3 rfl (n := 74) rfl ?_
        refine go_get C dX4_swapped_74 (mf4_7 q cI cZ σ3) rfl inX4 (by decide) fl_X4_19 (n := 77) rfl ?_
        refine go_bipush C dX4_swapped_77 (v := (12 : Int32)) (by decide) (n := 79) rfl ?_
        refine go_iload C dX4_swapped_79 2 rfl (n := 81) rfl ?_
        refine go_imul C dX4_swapped_81 (n := 82) rfl ?_
        refine go_iload C dX4_swapped_82 1 rfl (n := 84) rfl ?_
        refine go_iadd C dX4_swapped_84 (n := 85) rfl ?_
        obtain ⟨b10, hm⟩ := bx_g hm
        refine go_iald C dX4_swapped_85 (ma_4 q cI cZ σ3) b10 (n := 86) rfl ?_
        refine go_iconst C dX4_swapped_86 (v := (1 : Int32)) (by decide) (n := 87) rfl ?_
        refine go_iload_n C dX4_swapped_87 rfl 6 rfl (n := 88) rfl ?_
        refine go_ishl C dX4_swapped_88 (n := 89) rfl ?_
        refine go_iconst C dX4_swapped_89 (v := (-1 : Int32)) (by decide) (n := 90) rfl ?_
        refine go_ixor C dX4_swapped_90 (n := 91) rfl ?_
        refine go_iand C dX4_swapped_91 (n := 92) rfl ?_
        refine go_lv (lv' := [(0, .ref (q 0)), (4, .int (v1 / (2 : Int32))), (5, .int (v2 / (2 : Int32))), (6, .int u7)]) [3, 2, 1, 0] rfl ?_
        exact mX4_swapped_92_ok C _ _ _ _ _ _ hm
      · have hm := bx_p c9 hm
        refine go_aload_n C dX4_swapped_53 rfl 3 rfl (n := 54) rfl ?_
        refine go_get C dX4_swapped_54 (mf4_7 q cI cZ σ3) rfl inX4 (by decide) fl_X4_19 (n := 57) rfl ?_
        refine go_bipush C dX4_swapped_57 (v := (12 : Int32)) (by decide) (n := 59) rfl ?_
        refine go_iload C dX4_swapped_59 2 rfl (n := 61) rfl ?_
        refine go_imul C dX4_swapped_61 (n := 62) rfl ?_
        refine go_iload C dX4_swapped_62 1 rfl (n := 64) rfl ?_
        refine go_iadd C dX4_swapped_64 (n := 65) rfl ?_
        obtain ⟨b11, hm⟩ := bx_g hm
        refine go_iald C dX4_swapped_65 (ma_4 q cI cZ σ3) b11 (n := 66) rfl ?_
        refine go_iconst C dX4_swapped_66 (v := (1 : Int32)) (by decide) (n := 67) rfl ?_
        refine go_iload_n C dX4_swapped_67 rfl 6 rfl (n := 68) rfl ?_
        refine go_ishl C dX4_swapped_68 (n := 69) rfl ?_
        refine go_ior C dX4_swapped_69 (n := 70) rfl ?_
        refine go_goto C 92 dX4_swapped_70 (by decide) ?_
        refine go_lv (lv' := [(0, .ref (q 0)), (4, .int (v1 / (2 : Int32))), (5, .int (v2 / (2 : Int32))), (6, .int u7)]) [3, 2, 1, 0] rfl ?_
        exact mX4_swapped_92_ok C _ _ _ _ _ _ hm
    · have hm := bx_p c6 hm
      cases hm
      exact go_vret C dX4_swapped_36
def mX4_putRight_136 : Nat → Int32 → Int32 → Int32 → Int32 → bx_St → Option bx_St
  | 0, _, _, _, _, _ => none
  | n + 1, v1, v2, v3, v4, σ => (if v4 ≤ ((24 : Int32) * v3) then (some σ) else (if bx_ok (v4 - (1 : Int32)) 72 then (Option.bind (mX4_isAhead v1 v2 (σ.1 3 (v4 - (1 : Int32)).toNatClampNeg) v3 σ) fun u3 => (if u3 = 0 then (some σ) else (if bx_ok (v4 - (1 : Int32)) 72 then (if bx_ok v4 72 then (bx_let (bx_up σ 3 v4.toNatClampNeg (σ.1 3 (v4 - (1 : Int32)).toNatClampNeg)) fun σ8 => (if bx_ok (v4 - (1 : Int32)) 72 then (bx_let (bx_up σ8 3 (v4 - (1 : Int32)).toNatClampNeg v1) fun σ11 => (if bx_ok v4 72 then (Option.bind (mX4_swapped v1 (σ11.1 3 v4.toNatClampNeg) v3 σ11) fun u14 => (mX4_putRight_136 n v1 v2 v3 (v4 + (-1)) u14)) else none)) else none)) else none) else none))) else none))
set_option maxRecDepth 8000 in
set_option maxHeartbeats 4000000 in
theorem mX4_putRight_136_ok (C : bx_Cx p s m args meth c 5 A D cI cZ RX4 cX4_putRight none) : ∀ (n : Nat) (v1 : Int32) (v2 : Int32) (v3 : Int32) (v4 : Int32) (σ : bx_St) (u : bx_St), mX4_putRight_136 n v1 v2 v3 v4 σ = some u → bx_Go p l e (bx_rm 3) s m args below meth c 5 A D (MQ below (bx_Q none (bx_mw q cI cZ u) D A) args s 0 0 A) (bx_mw q cI cZ σ) 136 [(0, .ref (q 0)), (1, .int v1), (2, .int v2), (3, .int v3), (4, .int v4)] [] := by
  intro n
  induction n with
  | zero =>
    intro v1 v2 v3 v4 σ u hm
    cases hm
  | succ n ih =>
    intro v1 v2 v3 v4 σ u hm
    rw [mX4_putRight_136] at hm
    refine go_iload C dX4_putRight_136 4 rfl (n := 138) rfl ?_
    refine go_bipush C dX4_putRight_138 (v := (24 : Int32)) (by decide) (n := 140) rfl ?_
    refine go_iload_n C dX4_putRight_140 rfl 3 rfl (n := 141) rfl ?_
    refine go_imul C dX4_putRight_141 (n := 142) rfl ?_
    refine go_icmp_le C 209 dX4_putRight_142 (by decide) (n := 145) rfl (fun c1 => ?_) (fun c1 => ?_)
    · have hm := bx_p c1 hm
      cases hm
      exact go_vret C dX4_putRight_209
    · have hm := bx_n c1 hm
      refine go_aload_n C dX4_putRight_145 rfl 0 rfl (n := 146) rfl ?_
      refine go_iload_n C dX4_putRight_146 rfl 1 rfl (n := 147) rfl ?_
      refine go_iload_n C dX4_putRight_147 rfl 2 rfl (n := 148) rfl ?_
      refine go_aload_n C dX4_putRight_148 rfl 0 rfl (n := 149) rfl ?_
      refine go_get C dX4_putRight_149 (mf4_6 q cI cZ σ) rfl inX4 (by decide) fl_X4_16 (n := 152) rfl ?_
      refine go_iload C dX4_putRight_152 4 rfl (n := 154) rfl ?_
      refine go_iconst C dX4_putRight_154 (v := (1 : Int32)) (by decide) (n := 155) rfl ?_
      refine go_isub C dX4_putRight_155 (n := 156) rfl ?_
      obtain ⟨b2, hm⟩ := bx_g hm
      refine go_iald C dX4_putRight_156 (ma_3 q cI cZ σ) b2 (n := 157) rfl ?_
      refine go_iload_n C dX4_putRight_157 rfl 3 rfl (n := 158) rfl ?_
      obtain ⟨u3, e4, hm⟩ := bx_b hm
      refine go_callVi C dX4_putRight_158 mw_X4_isAhead ml_X4_113 (rest := []) (ktX4_isAhead e4) (mo4 q cI cZ σ) rfl (by decide) rfl rfl (Nat.le_of_ble_eq_true rfl) (n := 161) rfl ?_
      refine go_if_eq C 209 dX4_putRight_161 (by decide) (n := 164) rfl (fun c5 => ?_) (fun c5 => ?_)
      · have hm := bx_p c5 hm
        cases hm
        exact go_vret C dX4_putRight_209
      · have hm := bx_n c5 hm
        refine go_aload_n C dX4_putRight_164 rfl 0 rfl (n := 165) rfl ?_
        refine go_get C dX4_putRight_165 (mf4_6 q cI cZ σ) rfl inX4 (by decide) fl_X4_16 (n := 168) rfl ?_
        refine go_iload C dX4_putRight_168 4 rfl (n := 170) rfl ?_
        refine go_aload_n C dX4_putRight_170 rfl 0 rfl (n := 171) rfl ?_
        refine go_get C dX4_putRight_171 (mf4_6 q cI cZ σ) rfl inX4 (by decide) fl_X4_16 (n := 174) rfl ?_
        refine go_iload C dX4_putRight_174 4 rfl (n := 176) rfl ?_
        refine go_iconst C dX4_putRight_176 (v := (1 : Int32)) (by decide) (n := 177) rfl ?_
        refine go_isub C dX4_putRight_177 (n := 178) rfl ?_
        obtain ⟨b6, hm⟩ := bx_g hm
        refine go_iald C dX4_putRight_178 (ma_3 q cI cZ σ) b6 (n := 179) rfl ?_
        obtain ⟨b7, hm⟩ := bx_g hm
        obtain ⟨σ8, z9, hm⟩ := bx_lt hm
        refine go_iast C dX4_putRight_179 (ws' := (bx_mw q cI cZ σ8)) (by rw [z9]; exact (mu_3 q cI cZ σ v4 (σ.1 3 (v4 - (1 : Int32)).toNatClampNeg))) b7 (n := 180) rfl ?_
        refine go_aload_n C dX4_putRight_180 rfl 0 rfl (n := 181) rfl ?_
        refine go_get C dX4_putRight_181 (mf4_6 q cI cZ σ8) rfl inX4 (by decide) fl_X4_16 (n := 184) rfl ?_
        refine go_iload C dX4_putRight_184 4 rfl (n := 186) rfl ?_
        refine go_iconst C dX4_putRight_186 (v := (1 : Int32)) (by decide) (n := 187) rfl ?_
        refine go_isub C dX4_putRight_187 (n := 188) rfl ?_
        refine go_iload_n C dX4_putRight_188 rfl 1 rfl (n := 189) rfl ?_
        obtain ⟨b10, hm⟩ := bx_g hm
        obtain ⟨σ11, z12, hm⟩ := bx_lt hm
        refine go_iast C dX4_putRight_189 (ws' := (bx_mw q cI cZ σ11)) (by rw [z12]; exact (mu_3 q cI cZ σ8 (v4 - (1 : Int32)) v1)) b10 (n := 190) rfl ?_
        refine go_aload_n C dX4_putRight_190 rfl 0 rfl (n := 191) rfl ?_
        refine go_iload_n C dX4_putRight_191 rfl 1 rfl (n := 192) rfl ?_
        refine go_aload_n C dX4_putRight_192 rfl 0 rfl (n := 193) rfl ?_
        refine go_get C dX4_putRight_193 (mf4_6 q cI cZ σ11) rfl inX4 (by decide) fl_X4_16 (n := 196) rfl ?_
        refine go_iload C dX4_putRight_196 4 rfl (n := 198) rfl ?_
        obtain ⟨b13, hm⟩ := bx_g hm
        refine go_iald C dX4_putRight_198 (ma_3 q cI cZ σ11) b13 (n := 199) rfl ?_
        refine go_iload_n C dX4_putRight_199 rfl 3 rfl (n := 200) rfl ?_
        obtain ⟨u14, e15, hm⟩ := bx_b hm
        refine go_callVv C dX4_putRight_200 mw_X4_swapped ml_X4_153 (rest := []) (ktX4_swapped e15) (mo4 q cI cZ σ11) rfl (by decide) rfl rfl (Nat.le_of_ble_eq_true rfl) (n := 203) rfl ?_
        refine go_iinc C (j := 4) dX4_putRight_203 rfl (v := (v4 + (-1))) rfl (by decide) (lv' := [(4, .int (v4 + (-1))), (0, .ref (q 0)), (1, .int v1), (2, .int v2), (3, .int v3)]) rfl (n := 206) rfl ?_
        refine go_goto C 136 dX4_putRight_206 (by decide) ?_
        refine go_lv (lv' := [(0, .ref (q 0)), (1, .int v1), (2, .int v2), (3, .int v3), (4, .int (v4 + (-1)))]) [1, 2, 3, 4, 0] rfl ?_
        exact ih _ _ _ _ _ _ hm
def mX4_putRight_43 : Nat → Int32 → Int32 → Int32 → Int32 → bx_St → Option bx_St
  | 0, _, _, _, _, _ => none
  | n + 1, v1, v2, v3, v4, σ => (if (((24 : Int32) * v3) + (σ.1 0 5)) ≤ (v4 + (1 : Int32)) then (mX4_putRight_136 bx_F v1 v2 v3 v4 σ) else (if bx_ok (v4 + (1 : Int32)) 72 then (if bx_ok (v4 + (1 : Int32)) 72 then (Option.bind (mX4_valueOf (σ.1 3 (v4 + (1 : Int32)).toNatClampNeg) v3 σ) fun u4 => (Option.bind (mX4_isAhead (σ.1 3 (v4 + (1 : Int32)).toNatClampNeg) u4 v1 v3 σ) fun u6 => (if u6 = 0 then (mX4_putRight_136 bx_F v1 v2 v3 v4 σ) else (if bx_ok (v4 + (1 : Int32)) 72 then (if bx_ok v4 72 then (bx_let (bx_up σ 3 v4.toNatClampNeg (σ.1 3 (v4 + (1 : Int32)).toNatClampNeg)) fun σ11 => (if bx_ok (v4 + (1 : Int32)) 72 then (bx_let (bx_up σ11 3 (v4 + (1 : Int32)).toNatClampNeg v1) fun σ14 => (if bx_ok v4 72 then (Option.bind (mX4_swapped (σ14.1 3 v4.toNatClampNeg) v1 v3 σ14) fun u17 => (mX4_putRight_43 n v1 v2 v3 (v4 + 1) u17)) else none)) else none)) else none) else none)))) else none) else none))
set_option maxRecDepth 8000 in
set_option maxHeartbeats 4000000 in
theorem mX4_putRight_43_ok (C : bx_Cx p s m args meth c 5 A D cI cZ RX4 cX4_putRight none) : ∀ (n : Nat) (v1 : Int32) (v2 : Int32) (v3 : Int32) (v4 : Int32) (σ : bx_St) (u : bx_St), mX4_putRight_43 n v1 v2 v3 v4 σ = some u → bx_Go p l e (bx_rm 3) s m args below meth c 5 A D (MQ below (bx_Q none (bx_mw q cI cZ u) D A) args s 0 0 A) (bx_mw q cI cZ σ) 43 [(0, .ref (q 0)), (1, .int v1), (2, .int v2), (3, .int v3), (4, .int v4)] [] := by
  intro n
  induction n with
  | zero =>
    intro v1 v2 v3 v4 σ u hm
    cases hm
  | succ n ih =>
    intro v1 v2 v3 v4 σ u hm
    rw [mX4_putRight_43] at hm
    refine go_iload C dX4_putRight_43 4 rfl (n := 45) rfl ?_
    refine go_iconst C dX4_putRight_45 (v := (1 : Int32)) (by decide) (n := 46) rfl ?_
    refine go_iadd C dX4_putRight_46 (n := 47) rfl ?_
    refine go_bipush C dX4_putRight_47 (v := (24 : Int32)) (by decide) (n := 49) rfl ?_
    refine go_iload_n C dX4_putRight_49 rfl 3 rfl (n := 50) rfl ?_
    refine go_imul C dX4_putRight_50 (n := 51) rfl ?_
    refine go_aload_n C dX4_putRight_51 rfl 0 rfl (n := 52) rfl ?_
    refine go_get C dX4_putRight_52 (mf4_5 q cI cZ σ) rfl inX4 (by decide) fl_X4_110 (n := 55) rfl ?_
    refine go_iadd C dX4_putRight_55 (n := 56) rfl ?_
    refine go_icmp_ge C 136 dX4_putRight_56 (by decide) (n := 59) rfl (fun c1 => ?_) (fun c1 => ?_)
    · have hm := bx_p c1 hm
      refine go_lv (lv' := [(0, .ref (q 0)), (1, .int v1), (2, .int v2), (3, .int v3), (4, .int v4)]) [0, 1, 2, 3, 4] rfl ?_
      exact mX4_putRight_136_ok C _ _ _ _ _ _ _ hm
    · have hm := bx_n c1 hm
      refine go_aload_n C dX4_putRight_59 rfl 0 rfl (n := 60) rfl ?_
      refine go_aload_n C dX4_putRight_60 rfl 0 rfl (n := 61) rfl ?_
      refine go_get C dX4_putRight_61 (mf4_6 q cI cZ σ) rfl inX4 (by decide) fl_X4_16 (n := 64) rfl ?_
      refine go_iload C dX4_putRight_64 4 rfl (n := 66) rfl ?_
      refine go_iconst C dX4_putRight_66 (v := (1 : Int32)) (by decide) (n := 67) rfl ?_
      refine go_iadd C dX4_putRight_67 (n := 68) rfl ?_
      obtain ⟨b2, hm⟩ := bx_g hm
      refine go_iald C dX4_putRight_68 (ma_3 q cI cZ σ) b2 (n := 69) rfl ?_
      refine go_aload_n C dX4_putRight_69 rfl 0 rfl (n := 70) rfl ?_
      refine go_aload_n C dX4_putRight_70 rfl 0 rfl (n := 71) rfl ?_
      refine go_get C dX4_putRight_71 (mf4_6 q cI cZ σ) rfl inX4 (by decide) fl_X4_16 (n := 74) rfl ?_
      refine go_iload C dX4_putRight_74 4 rfl (n := 76) rfl ?_
      refine go_iconst C dX4_putRight_76 (v := (1 : Int32)) (by decide) (n := 77) rfl ?_
      refine go_iadd C dX4_putRight_77 (n := 78) rfl ?_
      obtain ⟨b3, hm⟩ := bx_g hm
      refine go_iald C dX4_putRight_78 (ma_3 q cI cZ σ) b3 (n := 79) rfl ?_
      refine go_iload_n C dX4_putRight_79 rfl 3 rfl (n := 80) rfl ?_
      obtain ⟨u4, e5, hm⟩ := bx_b hm
      refine go_callVi C dX4_putRight_80 mw_X4_valueOf ml_X4_97 (rest := [.int (σ.1 3 (v4 + (1 : Int32)).toNatClampNeg), .ref (q 0)]) (ktX4_valueOf e5) (mo4 q cI cZ σ) rfl (by decide) rfl rfl (Nat.le_of_ble_eq_true rfl) (n := 83) rfl ?_
      refine go_iload_n C dX4_putRight_83 rfl 1 rfl (n := 84) rfl ?_
      refine go_iload_n C dX4_putRight_84 rfl 3 rfl (n := 85) rfl ?_
      obtain ⟨u6, e7, hm⟩ := bx_b hm
      refine go_callVi C dX4_putRight_85 mw_X4_isAhead ml_X4_113 (rest := []) (ktX4_isAhead e7) (mo4 q cI cZ σ) rfl (by decide) rfl rfl (Nat.le_of_ble_eq_true rfl) (n := 88) rfl ?_
      refine go_if_eq C 136 dX4_putRight_88 (by decide) (n := 91) rfl (fun c8 => ?_) (fun c8 => ?_)
      · have hm := bx_p c8 hm
        refine go_lv (lv' := [(0, .ref (q 0)), (1, .int v1), (2, .int v2), (3, .int v3), (4, .int v4)]) [0, 1, 2, 3, 4] rfl ?_
        exact mX4_putRight_136_ok C _ _ _ _ _ _ _ hm
      · have hm := bx_n c8 hm
        refine go_aload_n C dX4_putRight_91 rfl 0 rfl (n := 92) rfl ?_
        refine go_get C dX4_putRight_92 (mf4_6 q cI cZ σ) rfl inX4 (by decide) fl_X4_16 (n := 95) rfl ?_
        refine go_iload C dX4_putRight_95 4 rfl (n := 97) rfl ?_
        refine go_aload_n C dX4_putRight_97 rfl 0 rfl (n := 98) rfl ?_
        refine go_get C dX4_putRight_98 (mf4_6 q cI cZ σ) rfl inX4 (by decide) fl_X4_16 (n := 101) rfl ?_
        refine go_iload C dX4_putRight_101 4 rfl (n := 103) rfl ?_
        refine go_iconst C dX4_putRight_103 (v := (1 : Int32)) (by decide) (n := 104) rfl ?_
        refine go_iadd C dX4_putRight_104 (n := 105) rfl ?_
        obtain ⟨b9, hm⟩ := bx_g hm
        refine go_iald C dX4_putRight_105 (ma_3 q cI cZ σ) b9 (n := 106) rfl ?_
        obtain ⟨b10, hm⟩ := bx_g hm
        obtain ⟨σ11, z12, hm⟩ := bx_lt hm
        refine go_iast C dX4_putRight_106 (ws' := (bx_mw q cI cZ σ11)) (by rw [z12]; exact (mu_3 q cI cZ σ v4 (σ.1 3 (v4 + (1 : Int32)).toNatClampNeg))) b10 (n := 107) rfl ?_
        refine go_aload_n C dX4_putRight_107 rfl 0 rfl (n := 108) rfl ?_
        refine go_get C dX4_putRight_108 (mf4_6 q cI cZ σ11) rfl inX4 (by decide) fl_X4_16 (n := 111) rfl ?_
        refine go_iload C dX4_putRight_111 4 rfl (n := 113) rfl ?_
        refine go_iconst C dX4_putRight_113 (v := (1 : Int32)) (by decide) (n := 114) rfl ?_
        refine go_iadd C dX4_putRight_114 (n := 115) rfl ?_
        refine go_iload_n C dX4_putRight_115 rfl 1 rfl (n := 116) rfl ?_
        obtain ⟨b13, hm⟩ := bx_g hm
        obtain ⟨σ14, z15, hm⟩ := bx_lt hm
        refine go_iast C dX4_putRight_116 (ws' := (bx_mw q cI cZ σ14)) (by rw [z15]; exact (mu_3 q cI cZ σ11 (v4 + (1 : Int32)) v1)) b13 (n := 117) rfl ?_
        refine go_aload_n C dX4_putRight_117 rfl 0 rfl (n := 118) rfl ?_
        refine go_aload_n C dX4_putRight_118 rfl 0 rfl (n := 119) rfl ?_
        refine go_get C dX4_putRight_119 (mf4_6 q cI cZ σ14) rfl inX4 (by decide) fl_X4_16 (n := 122) rfl ?_
        refine go_iload C dX4_putRight_122 4 rfl (n := 124) rfl ?_
        obtain ⟨b16, hm⟩ := bx_g hm
        refine go_iald C dX4_putRight_124 (ma_3 q cI cZ σ14) b16 (n := 125) rfl ?_
        refine go_iload_n C dX4_putRight_125 rfl 1 rfl (n := 126) rfl ?_
        refine go_iload_n C dX4_putRight_126 rfl 3 rfl (n := 127) rfl ?_
        obtain ⟨u17, e18, hm⟩ := bx_b hm
        refine go_callVv C dX4_putRight_127 mw_X4_swapped ml_X4_153 (rest := []) (ktX4_swapped e18) (mo4 q cI cZ σ14) rfl (by decide) rfl rfl (Nat.le_of_ble_eq_true rfl) (n := 130) rfl ?_
        refine go_iinc C (j := 4) dX4_putRight_130 rfl (v := (v4 + 1)) rfl (by decide) (lv' := [(4, .int (v4 + 1)), (0, .ref (q 0)), (1, .int v1), (2, .int v2), (3, .int v3)]) rfl (n := 133) rfl ?_
        refine go_goto C 43 dX4_putRight_133 (by decide) ?_
        refine go_lv (lv' := [(0, .ref (q 0)), (1, .int v1), (2, .int v2), (3, .int v3), (4, .int (v4 + 1))]) [1, 2, 3, 4, 0] rfl ?_
        exact ih _ _ _ _ _ _ hm
def mX4_putRight_6 : Nat → Int32 → Int32 → Int32 → Int32 → bx_St → Option bx_St
  | 0, _, _, _, _, _ => none
  | n + 1, v1, v2, v3, v4, σ => (if bx_ok v4 72 then (if (σ.1 3 v4.toNatClampNeg) = v1 then (if bx_ok ((((6 : Int32) * (v1 / (2 : Int32))) + ((2 : Int32) * v3)) + (bx_rem v1 (2 : Int32))) 72 then (bx_let (bx_up σ 2 ((((6 : Int32) * (v1 / (2 : Int32))) + ((2 : Int32) * v3)) + (bx_rem v1 (2 : Int32))).toNatClampNeg v2) fun σ4 => (mX4_putRight_43 bx_F v1 v2 v3 v4 σ4)) else none) else (mX4_putRight_6 n v1 v2 v3 (v4 + 1) σ)) else none)
set_option maxRecDepth 8000 in
set_option maxHeartbeats 4000000 in
theorem mX4_putRight_6_ok (C : bx_Cx p s m args meth c 5 A D cI cZ RX4 cX4_putRight none) : ∀ (n : Nat) (v1 : Int32) (v2 : Int32) (v3 : Int32) (v4 : Int32) (σ : bx_St) (u : bx_St), mX4_putRight_6 n v1 v2 v3 v4 σ = some u → bx_Go p l e (bx_rm 3) s m args below meth c 5 A D (MQ below (bx_Q none (bx_mw q cI cZ u) D A) args s 0 0 A) (bx_mw q cI cZ σ) 6 [(0, .ref (q 0)), (1, .int v1), (2, .int v2), (3, .int v3), (4, .int v4)] [] := by
  intro n
  induction n with
  | zero =>
    intro v1 v2 v3 v4 σ u hm
    cases hm
  | succ n ih =>
    intro v1 v2 v3 v4 σ u hm
    rw [mX4_putRight_6] at hm
    refine go_aload_n C dX4_putRight_6 rfl 0 rfl (n := 7) rfl ?_
    refine go_get C dX4_putRight_7 (mf4_6 q cI cZ σ) rfl inX4 (by decide) fl_X4_16 (n := 10) rfl ?_
    refine go_iload C dX4_putRight_10 4 rfl (n := 12) rfl ?_
    obtain ⟨b1, hm⟩ := bx_g hm
    refine go_iald C dX4_putRight_12 (ma_3 q cI cZ σ) b1 (n := 13) rfl ?_
    refine go_iload_n C dX4_putRight_13 rfl 1 rfl (n := 14) rfl ?_
    refine go_icmp_eq C 23 dX4_putRight_14 (by decide) (n := 17) rfl (fun c2 => ?_) (fun c2 => ?_)
    · have hm := bx_p c2 hm
      refine go_aload_n C dX4_putRight_23 rfl 0 rfl (n := 24) rfl ?_
      refine go_get C dX4_putRight_24 (mf4_4 q cI cZ σ) rfl inX4 (by decide) fl_X4_13 (n := 27) rfl ?_
      refine go_bipush C dX4_putRight_27 (v := (6 : Int32)) (by decide) (n := 29) rfl ?_
      refine go_iload_n C dX4_putRight_29 rfl 1 rfl (n := 30) rfl ?_
      refine go_iconst C dX4_putRight_30 (v := (2 : Int32)) (by decide) (n := 31) rfl ?_
      refine go_idiv C dX4_putRight_31 (by decide) (n := 32) rfl ?_
      refine go_imul C dX4_putRight_32 (n := 33) rfl ?_
      refine go_iconst C dX4_putRight_33 (v := (2 : Int32)) (by decide) (n := 34) rfl ?_
      refine go_iload_n C dX4_putRight_34 rfl 3 rfl (n := 35) rfl ?_
      refine go_imul C dX4_putRight_35 (n := 36) rfl ?_
      refine go_iadd C dX4_putRight_36 (n := 37) rfl ?_
      refine go_iload_n C dX4_putRight_37 rfl 1 rfl (n := 38) rfl ?_
      refine go_iconst C dX4_putRight_38 (v := (2 : Int32)) (by decide) (n := 39) rfl ?_
      refine go_irem C dX4_putRight_39 (by decide) (n := 40) rfl ?_
      refine go_iadd C dX4_putRight_40 (n := 41) rfl ?_
      refine go_iload_n C dX4_putRight_41 rfl 2 rfl (n := 42) rfl ?_
      obtain ⟨b3, hm⟩ := bx_g hm
      obtain ⟨σ4, z5, hm⟩ := bx_lt hm
      refine go_iast C dX4_putRight_42 (ws' := (bx_mw q cI cZ σ4)) (by rw [z5]; exact (mu_2 q cI cZ σ ((((6 : Int32) * (v1 / (2 : Int32))) + ((2 : Int32) * v3)) + (bx_rem v1 (2 : Int32))) v2)) b3 (n := 43) rfl ?_
      refine go_lv (lv' := [(0, .ref (q 0)), (1, .int v1), (2, .int v2), (3, .int v3), (4, .int v4)]) [0, 1, 2, 3, 4] rfl ?_
      exact mX4_putRight_43_ok C _ _ _ _ _ _ _ hm
    · have hm := bx_n c2 hm
      refine go_iinc C (j := 4) dX4_putRight_17 rfl (v := (v4 + 1)) rfl (by decide) (lv' := [(4, .int (v4 + 1)), (0, .ref (q 0)), (1, .int v1), (2, .int v2), (3, .int v3)]) rfl (n := 20) rfl ?_
      refine go_goto C 6 dX4_putRight_20 (by decide) ?_
      refine go_lv (lv' := [(0, .ref (q 0)), (1, .int v1), (2, .int v2), (3, .int v3), (4, .int (v4 + 1))]) [1, 2, 3, 4, 0] rfl ?_
      exact ih _ _ _ _ _ _ hm
def mX4_putRight (v1 : Int32) (v2 : Int32) (v3 : Int32) (σ : bx_St) : Option bx_St := (mX4_putRight_6 bx_F v1 v2 v3 ((24 : Int32) * v3) σ)
set_option maxRecDepth 8000 in
set_option maxHeartbeats 4000000 in
theorem ktX4_putRight {l : Launch} {D : va_G} {cI cZ : ClassId} {q : Nat → Nat} {v1 : Int32} {v2 : Int32} {v3 : Int32} {σ : bx_St} {u : bx_St} (hm : mX4_putRight v1 v2 v3 σ = some u) : bx_Mt l D cI cZ yX4_putRight cX4_putRight 5 none 3 [.ref (q 0), .int v1, .int v2, .int v3] (bx_mw q cI cZ σ) none (bx_mw q cI cZ u) := by
  refine bx_mk (by decide) (Nat.le_of_ble_eq_true rfl) (lv := [(0, .ref (q 0)), (1, .int v1), (2, .int v2), (3, .int v3)]) rfl (fun p e s m args below meth c A C => ?_)
  replace C : bx_Cx p s m args meth c 5 A D cI cZ RX4 cX4_putRight none := C
  unfold mX4_putRight at hm
  refine go_bipush C dX4_putRight_0 (v := (24 : Int32)) (by decide) (n := 2) rfl ?_
  refine go_iload_n C dX4_putRight_2 rfl 3 rfl (n := 3) rfl ?_
  refine go_imul C dX4_putRight_3 (n := 4) rfl ?_
  refine go_istore C dX4_putRight_4 (by decide) (lv' := [(4, .int ((24 : Int32) * v3)), (0, .ref (q 0)), (1, .int v1), (2, .int v2), (3, .int v3)]) rfl (n := 6) rfl ?_
  refine go_lv (lv' := [(0, .ref (q 0)), (1, .int v1), (2, .int v2), (3, .int v3), (4, .int ((24 : Int32) * v3))]) [1, 2, 3, 4, 0] rfl ?_
  exact mX4_putRight_6_ok C _ _ _ _ _ _ _ hm
def mX4_layBox (v1 : Int32) (v2 : Int32) (v3 : Int32) (v4 : Int32) (σ : bx_St) : Option bx_St := (Option.bind (mX4_lowOf v1 v2 σ) fun u1 => (if v3 ≤ u1 then (Option.bind (mX4_putRight ((2 : Int32) * v1) v3 v2 σ) fun u4 => (Option.bind (mX4_putRight (((2 : Int32) * v1) + (1 : Int32)) v4 v2 u4) fun u6 => (some u6))) else (Option.bind (mX4_putRight (((2 : Int32) * v1) + (1 : Int32)) v4 v2 σ) fun u8 => (Option.bind (mX4_putRight ((2 : Int32) * v1) v3 v2 u8) fun u10 => (some u10)))))
set_option maxRecDepth 8000 in
set_option maxHeartbeats 4000000 in
theorem ktX4_layBox {l : Launch} {D : va_G} {cI cZ : ClassId} {q : Nat → Nat} {v1 : Int32} {v2 : Int32} {v3 : Int32} {v4 : Int32} {σ : bx_St} {u : bx_St} (hm : mX4_layBox v1 v2 v3 v4 σ = some u) : bx_Mt l D cI cZ yX4_layBox cX4_layBox 5 none 4 [.ref (q 0), .int v1, .int v2, .int v3, .int v4] (bx_mw q cI cZ σ) none (bx_mw q cI cZ u) := by
  refine bx_mk (by decide) (Nat.le_of_ble_eq_true rfl) (lv := [(0, .ref (q 0)), (1, .int v1), (2, .int v2), (3, .int v3), (4, .int v4)]) rfl (fun p e s m args below meth c A C => ?_)
  replace C : bx_Cx p s m args meth c 5 A D cI cZ RX4 cX4_layBox none := C
  unfold mX4_layBox at hm
  refine go_iload_n C dX4_layBox_0 rfl 3 rfl (n := 1) rfl ?_
  refine go_aload_n C dX4_layBox_1 rfl 0 rfl (n := 2) rfl ?_
  refine go_iload_n C dX4_layBox_2 rfl 1 rfl (n := 3) rfl ?_
  refine go_iload_n C dX4_layBox_3 rfl 2 rfl (n := 4) rfl ?_
  obtain ⟨u1, e2, hm⟩ := bx_b hm
  refine go_callVi C dX4_layBox_4 mw_X4_lowOf ml_X4_104 (rest := [.int v3]) (ktX4_lowOf e2) (mo4 q cI cZ σ) rfl (by decide) rfl rfl (Nat.le_of_ble_eq_true rfl) (n := 7) rfl ?_
  refine go_icmp_le C 34 dX4_layBox_7 (by decide) (n := 10) rfl (fun c3 => ?_) (fun c3 => ?_)
  · have hm := bx_p c3 hm
    refine go_aload_n C dX4_layBox_34 rfl 0 rfl (n := 35) rfl ?_
    refine go_iconst C dX4_layBox_35 (v := (2 : Int32)) (by decide) (n := 36) rfl ?_
    refine go_iload_n C dX4_layBox_36 rfl 1 rfl (n := 37) rfl ?_
    refine go_imul C dX4_layBox_37 (n := 38) rfl ?_
    refine go_iload_n C dX4_layBox_38 rfl 3 rfl (n := 39) rfl ?_
    refine go_iload_n C dX4_layBox_39 rfl 2 rfl (n := 40) rfl ?_
    obtain ⟨u4, e5, hm⟩ := bx_b hm
    refine go_callVv C dX4_layBox_40 mw_X4_putRight ml_X4_157 (rest := []) (ktX4_putRight e5) (mo4 q cI cZ σ) rfl (by decide) rfl rfl (Nat.le_of_ble_eq_true rfl) (n := 43) rfl ?_
    refine go_aload_n C dX4_layBox_43 rfl 0 rfl (n := 44) rfl ?_
    refine go_iconst C dX4_layBox_44 (v := (2 : Int32)) (by decide) (n := 45) rfl ?_
    refine go_iload_n C dX4_layBox_45 rfl 1 rfl (n := 46) rfl ?_
    refine go_imul C dX4_layBox_46 (n := 47) rfl ?_
    refine go_iconst C dX4_layBox_47 (v := (1 : Int32)) (by decide) (n := 48) rfl ?_
    refine go_iadd C dX4_layBox_48 (n := 49) rfl ?_
    refine go_iload C dX4_layBox_49 4 rfl (n := 51) rfl ?_
    refine go_iload_n C dX4_layBox_51 rfl 2 rfl (n := 52) rfl ?_
    obtain ⟨u6, e7, hm⟩ := bx_b hm
    refine go_callVv C dX4_layBox_52 mw_X4_putRight ml_X4_157 (rest := []) (ktX4_putRight e7) (mo4 q cI cZ u4) rfl (by decide) rfl rfl (Nat.le_of_ble_eq_true rfl) (n := 55) rfl ?_
    cases hm
    exact go_vret C dX4_layBox_55
  · have hm := bx_n c3 hm
    refine go_aload_n C dX4_layBox_10 rfl 0 rfl (n := 11) rfl ?_
    refine go_iconst C dX4_layBox_11 (v := (2 : Int32)) (by decide) (n := 12) rfl ?_
    refine go_iload_n C dX4_layBox_12 rfl 1 rfl (n := 13) rfl ?_
    refine go_imul C dX4_layBox_13 (n := 14) rfl ?_
    refine go_iconst C dX4_layBox_14 (v := (1 : Int32)) (by decide) (n := 15) rfl ?_
    refine go_iadd C dX4_layBox_15 (n := 16) rfl ?_
    refine go_iload C dX4_layBox_16 4 rfl (n := 18) rfl ?_
    refine go_iload_n C dX4_layBox_18 rfl 2 rfl (n := 19) rfl ?_
    obtain ⟨u8, e9, hm⟩ := bx_b hm
    refine go_callVv C dX4_layBox_19 mw_X4_putRight ml_X4_157 (rest := []) (ktX4_putRight e9) (mo4 q cI cZ σ) rfl (by decide) rfl rfl (Nat.le_of_ble_eq_true rfl) (n := 22) rfl ?_
    refine go_aload_n C dX4_layBox_22 rfl 0 rfl (n := 23) rfl ?_
    refine go_iconst C dX4_layBox_23 (v := (2 : Int32)) (by decide) (n := 24) rfl ?_
    refine go_iload_n C dX4_layBox_24 rfl 1 rfl (n := 25) rfl ?_
    refine go_imul C dX4_layBox_25 (n := 26) rfl ?_
    refine go_iload_n C dX4_layBox_26 rfl 3 rfl (n := 27) rfl ?_
    refine go_iload_n C dX4_layBox_27 rfl 2 rfl (n := 28) rfl ?_
    obtain ⟨u10, e11, hm⟩ := bx_b hm
    refine go_callVv C dX4_layBox_28 mw_X4_putRight ml_X4_157 (rest := []) (ktX4_putRight e11) (mo4 q cI cZ u8) rfl (by decide) rfl rfl (Nat.le_of_ble_eq_true rfl) (n := 31) rfl ?_
    refine go_goto C 55 dX4_layBox_31 (by decide) ?_
    cases hm
    exact go_vret C dX4_layBox_55
def mX4_lay (v1 : Int32) (v2 : Int32) (v3 : Int32) (v4 : Int32) (σ : bx_St) : Option (Int32 × bx_St) := (if (mX4_isBox v1 σ) = 0 then (some ((-10002 : Int32), σ)) else (Option.bind (mX4_isAxis v2) fun u2 => (if u2 = 0 then (some ((-10002 : Int32), σ)) else (if (mX4_areEnds v3 v4) = 0 then (some ((-10003 : Int32), σ)) else (Option.bind (mX4_beginChange σ) fun u6 => (Option.bind (mX4_layBox v1 v2 v3 v4 u6) fun u8 => (Option.bind (mX4_endSwaps u8) fun u10 => (some (u10.1, u10.2)))))))))
set_option maxRecDepth 8000 in
set_option maxHeartbeats 4000000 in
theorem ktX4_lay {l : Launch} {D : va_G} {cI cZ : ClassId} {q : Nat → Nat} {v1 : Int32} {v2 : Int32} {v3 : Int32} {v4 : Int32} {σ : bx_St} {u : (Int32 × bx_St)} (hm : mX4_lay v1 v2 v3 v4 σ = some u) : bx_Mt l D cI cZ yX4_lay cX4_lay 5 (some .int) 5 [.ref (q 0), .int v1, .int v2, .int v3, .int v4] (bx_mw q cI cZ σ) (some (.int u.1)) (bx_mw q cI cZ u.2) := by
  refine bx_mk (by decide) (Nat.le_of_ble_eq_true rfl) (lv := [(0, .ref (q 0)), (1, .int v1), (2, .int v2), (3, .int v3), (4, .int v4)]) rfl (fun p e s m args below meth c A C => ?_)
  replace C : bx_Cx p s m args meth c 5 A D cI cZ RX4 cX4_lay (some .int) := C
  unfold mX4_lay at hm
  refine go_aload_n C dX4_lay_0 rfl 0 rfl (n := 1) rfl ?_
  refine go_iload_n C dX4_lay_1 rfl 1 rfl (n := 2) rfl ?_
  refine go_callVi C dX4_lay_2 mw_X4_isBox ml_X4_160 (rest := []) (ktX4_isBox rfl) (mo4 q cI cZ σ) rfl (by decide) rfl rfl (Nat.le_of_ble_eq_true rfl) (n := 5) rfl ?_
  refine go_if_eq C 15 dX4_lay_5 (by decide) (n := 8) rfl (fun c1 => ?_) (fun c1 => ?_)
  · have hm := bx_p c1 hm
    refine go_sipush C dX4_lay_15 (v := (-10002 : Int32)) (by decide) (n := 18) rfl ?_
    cases hm
    exact go_iret C dX4_lay_18
  · have hm := bx_n c1 hm
    refine go_iload_n C dX4_lay_8 rfl 2 rfl (n := 9) rfl ?_
    obtain ⟨u2, e3, hm⟩ := bx_b hm
    refine go_callSi C dX4_lay_9 mw_X4_isAxis ml_X4_173 (rest := []) (ktX4_isAxis e3) (by decide) rfl rfl (Nat.le_of_ble_eq_true rfl) (n := 12) rfl ?_
    refine go_if_ne C 19 dX4_lay_12 (by decide) (n := 15) rfl (fun c4 => ?_) (fun c4 => ?_)
    · have hm := bx_n c4 hm
      refine go_iload_n C dX4_lay_19 rfl 3 rfl (n := 20) rfl ?_
      refine go_iload C dX4_lay_20 4 rfl (n := 22) rfl ?_
      refine go_callSi C dX4_lay_22 mw_X4_areEnds ml_X4_176 (rest := []) (ktX4_areEnds rfl) (by decide) rfl rfl (Nat.le_of_ble_eq_true rfl) (n := 25) rfl ?_
      refine go_if_ne C 32 dX4_lay_25 (by decide) (n := 28) rfl (fun c5 => ?_) (fun c5 => ?_)
      · have hm := bx_n c5 hm
        refine go_aload_n C dX4_lay_32 rfl 0 rfl (n := 33) rfl ?_
        obtain ⟨u6, e7, hm⟩ := bx_b hm
        refine go_callVv C dX4_lay_33 mw_X4_beginChange ml_X4_83 (rest := []) (ktX4_beginChange e7) (mo4 q cI cZ σ) rfl (by decide) rfl rfl (Nat.le_of_ble_eq_true rfl) (n := 36) rfl ?_
        refine go_aload_n C dX4_lay_36 rfl 0 rfl (n := 37) rfl ?_
        refine go_iload_n C dX4_lay_37 rfl 1 rfl (n := 38) rfl ?_
        refine go_iload_n C dX4_lay_38 rfl 2 rfl (n := 39) rfl ?_
        refine go_iload_n C dX4_lay_39 rfl 3 rfl (n := 40) rfl ?_
        refine go_iload C dX4_lay_40 4 rfl (n := 42) rfl ?_
        obtain ⟨u8, e9, hm⟩ := bx_b hm
        refine go_callVv C dX4_lay_42 mw_X4_layBox ml_X4_166 (rest := []) (ktX4_layBox e9) (mo4 q cI cZ u6) rfl (by decide) rfl rfl (Nat.le_of_ble_eq_true rfl) (n := 45) rfl ?_
        refine go_aload_n C dX4_lay_45 rfl 0 rfl (n := 46) rfl ?_
        obtain ⟨u10, e11, hm⟩ := bx_b hm
        refine go_callVi C dX4_lay_46 mw_X4_endSwaps ml_X4_170 (rest := []) (ktX4_endSwaps e11) (mo4 q cI cZ u8) rfl (by decide) rfl rfl (Nat.le_of_ble_eq_true rfl) (n := 49) rfl ?_
        cases hm
        exact go_iret C dX4_lay_49
      · have hm := bx_p c5 hm
        refine go_sipush C dX4_lay_28 (v := (-10003 : Int32)) (by decide) (n := 31) rfl ?_
        cases hm
        exact go_iret C dX4_lay_31
    · have hm := bx_p c4 hm
      refine go_sipush C dX4_lay_15 (v := (-10002 : Int32)) (by decide) (n := 18) rfl ?_
      cases hm
      exact go_iret C dX4_lay_18
def mX4_let_29 (v1 : Int32) (v2 : Int32) (v3 : Int32) (σ : bx_St) : Option Int32 := (Option.bind (mX4_letNow v1 v2 v3 σ) fun u1 => (some u1))
set_option maxRecDepth 8000 in
set_option maxHeartbeats 4000000 in
theorem mX4_let_29_ok (C : bx_Cx p s m args meth c 4 A D cI cZ RX4 cX4_let (some .int)) : ∀ (v1 : Int32) (v2 : Int32) (v3 : Int32) (σ : bx_St) (u : Int32), mX4_let_29 v1 v2 v3 σ = some u → bx_Go p l e (bx_rm 4) s m args below meth c 4 A D (MQ below (bx_Q (some (.int u)) (bx_mw q cI cZ σ) D A) args s 0 0 A) (bx_mw q cI cZ σ) 29 [(0, .ref (q 0)), (1, .int v1), (2, .int v2), (3, .int v3)] [] := by
  intro v1 v2 v3 σ u hm
  unfold mX4_let_29 at hm
  refine go_aload_n C dX4_let_29 rfl 0 rfl (n := 30) rfl ?_
  refine go_iload_n C dX4_let_30 rfl 1 rfl (n := 31) rfl ?_
  refine go_iload_n C dX4_let_31 rfl 2 rfl (n := 32) rfl ?_
  refine go_iload_n C dX4_let_32 rfl 3 rfl (n := 33) rfl ?_
  obtain ⟨u1, e2, hm⟩ := bx_b hm
  refine go_callVi C dX4_let_33 mw_X4_letNow ml_X4_212 (rest := []) (ktX4_letNow e2) (mo4 q cI cZ σ) rfl (by decide) rfl rfl (Nat.le_of_ble_eq_true rfl) (n := 36) rfl ?_
  refine go_goto C 42 dX4_let_36 (by decide) ?_
  cases hm
  exact go_iret C dX4_let_42
def mX4_let (v1 : Int32) (v2 : Int32) (v3 : Int32) (σ : bx_St) : Option Int32 := (if (mX4_isBox v1 σ) = 0 then (some (-10002 : Int32)) else (Option.bind (mX4_isAxis v2) fun u2 => (if u2 = 0 then (some (-10002 : Int32)) else (if v3 = (1 : Int32) then (mX4_let_29 v1 v2 v3 σ) else (if v3 = (-1 : Int32) then (mX4_let_29 v1 v2 v3 σ) else (some (-10003 : Int32)))))))
set_option maxRecDepth 8000 in
set_option maxHeartbeats 4000000 in
theorem ktX4_let {l : Launch} {D : va_G} {cI cZ : ClassId} {q : Nat → Nat} {v1 : Int32} {v2 : Int32} {v3 : Int32} {σ : bx_St} {u : Int32} (hm : mX4_let v1 v2 v3 σ = some u) : bx_Mt l D cI cZ yX4_let cX4_let 4 (some .int) 4 [.ref (q 0), .int v1, .int v2, .int v3] (bx_mw q cI cZ σ) (some (.int u)) (bx_mw q cI cZ σ) := by
  refine bx_mk (by decide) (Nat.le_of_ble_eq_true rfl) (lv := [(0, .ref (q 0)), (1, .int v1), (2, .int v2), (3, .int v3)]) rfl (fun p e s m args below meth c A C => ?_)
  replace C : bx_Cx p s m args meth c 4 A D cI cZ RX4 cX4_let (some .int) := C
  unfold mX4_let at hm
  refine go_aload_n C dX4_let_0 rfl 0 rfl (n := 1) rfl ?_
  refine go_iload_n C dX4_let_1 rfl 1 rfl (n := 2) rfl ?_
  refine go_callVi C dX4_let_2 mw_X4_isBox ml_X4_160 (rest := []) (ktX4_isBox rfl) (mo4 q cI cZ σ) rfl (by decide) rfl rfl (Nat.le_of_ble_eq_true rfl) (n := 5) rfl ?_
  refine go_if_eq C 15 dX4_let_5 (by decide) (n := 8) rfl (fun c1 => ?_) (fun c1 => ?_)
  · have hm := bx_p c1 hm
    refine go_sipush C dX4_let_15 (v := (-10002 : Int32)) (by decide) (n := 18) rfl ?_
    cases hm
    exact go_iret C dX4_let_18
  · have hm := bx_n c1 hm
    refine go_iload_n C dX4_let_8 rfl 2 rfl (n := 9) rfl ?_
    obtain ⟨u2, e3, hm⟩ := bx_b hm
    refine go_callSi C dX4_let_9 mw_X4_isAxis ml_X4_173 (rest := []) (ktX4_isAxis e3) (by decide) rfl rfl (Nat.le_of_ble_eq_true rfl) (n := 12) rfl ?_
    refine go_if_ne C 19 dX4_let_12 (by decide) (n := 15) rfl (fun c4 => ?_) (fun c4 => ?_)
    · have hm := bx_n c4 hm
      refine go_iload_n C dX4_let_19 rfl 3 rfl (n := 20) rfl ?_
      refine go_iconst C dX4_let_20 (v := (1 : Int32)) (by decide) (n := 21) rfl ?_
      refine go_icmp_eq C 29 dX4_let_21 (by decide) (n := 24) rfl (fun c5 => ?_) (fun c5 => ?_)
      · have hm := bx_p c5 hm
        refine go_lv (lv' := [(0, .ref (q 0)), (1, .int v1), (2, .int v2), (3, .int v3)]) [0, 1, 2, 3] rfl ?_
        exact mX4_let_29_ok C _ _ _ _ _ hm
      · have hm := bx_n c5 hm
        refine go_iload_n C dX4_let_24 rfl 3 rfl (n := 25) rfl ?_
        refine go_iconst C dX4_let_25 (v := (-1 : Int32)) (by decide) (n := 26) rfl ?_
        refine go_icmp_ne C 39 dX4_let_26 (by decide) (n := 29) rfl (fun c6 => ?_) (fun c6 => ?_)
        · have hm := bx_n c6 hm
          refine go_sipush C dX4_let_39 (v := (-10003 : Int32)) (by decide) (n := 42) rfl ?_
          cases hm
          exact go_iret C dX4_let_42
        · have hm := bx_p c6 hm
          refine go_lv (lv' := [(0, .ref (q 0)), (1, .int v1), (2, .int v2), (3, .int v3)]) [0, 1, 2, 3] rfl ?_
          exact mX4_let_29_ok C _ _ _ _ _ hm
    · have hm := bx_p c4 hm
      refine go_sipush C dX4_let_15 (v := (-10002 : Int32)) (by decide) (n := 18) rfl ?_
      cases hm
      exact go_iret C dX4_let_18
def mX4_letter (v1 : Int32) (σ : bx_St) : Option (Int32 × bx_St) := (if (mX4_within v1 (32 : Int32) (126 : Int32)) = 0 then (some ((-10003 : Int32), σ)) else (if (σ.1 0 0) = (60 : Int32) then (some ((-10005 : Int32), σ)) else (if bx_ok (σ.1 0 0) 60 then (bx_let (bx_up (bx_up σ 1 (σ.1 0 0).toNatClampNeg v1) 0 0 (((bx_up σ 1 (σ.1 0 0).toNatClampNeg v1).1 0 0) + (1 : Int32))) fun σ4 => (some ((σ4.1 0 0), σ4))) else none)))
set_option maxRecDepth 8000 in
set_option maxHeartbeats 4000000 in
theorem ktX4_letter {l : Launch} {D : va_G} {cI cZ : ClassId} {q : Nat → Nat} {v1 : Int32} {σ : bx_St} {u : (Int32 × bx_St)} (hm : mX4_letter v1 σ = some u) : bx_Mt l D cI cZ yX4_letter cX4_letter 2 (some .int) 2 [.ref (q 0), .int v1] (bx_mw q cI cZ σ) (some (.int u.1)) (bx_mw q cI cZ u.2) := by
  refine bx_mk (by decide) (Nat.le_of_ble_eq_true rfl) (lv := [(0, .ref (q 0)), (1, .int v1)]) rfl (fun p e s m args below meth c A C => ?_)
  replace C : bx_Cx p s m args meth c 2 A D cI cZ RX4 cX4_letter (some .int) := C
  unfold mX4_letter at hm
  refine go_iload_n C dX4_letter_0 rfl 1 rfl (n := 1) rfl ?_
  refine go_bipush C dX4_letter_1 (v := (32 : Int32)) (by decide) (n := 3) rfl ?_
  refine go_bipush C dX4_letter_3 (v := (126 : Int32)) (by decide) (n := 5) rfl ?_
  refine go_callSi C dX4_letter_5 mw_X4_within ml_X4_41 (rest := []) (ktX4_within rfl) (by decide) rfl rfl (Nat.le_of_ble_eq_true rfl) (n := 8) rfl ?_
  refine go_if_ne C 15 dX4_letter_8 (by decide) (n := 11) rfl (fun c1 => ?_) (fun c1 => ?_)
  · have hm := bx_n c1 hm
    refine go_aload_n C dX4_letter_15 rfl 0 rfl (n := 16) rfl ?_
    refine go_get C dX4_letter_16 (mf4_0 q cI cZ σ) rfl inX4 (by decide) fl_X4_45 (n := 19) rfl ?_
    refine go_bipush C dX4_letter_19 (v := (60 : Int32)) (by decide) (n := 21) rfl ?_
    refine go_icmp_ne C 28 dX4_letter_21 (by decide) (n := 24) rfl (fun c2 => ?_) (fun c2 => ?_)
    · have hm := bx_n c2 hm
      refine go_aload_n C dX4_letter_28 rfl 0 rfl (n := 29) rfl ?_
      refine go_get C dX4_letter_29 (mf4_1 q cI cZ σ) rfl inX4 (by decide) fl_X4_7 (n := 32) rfl ?_
      refine go_aload_n C dX4_letter_32 rfl 0 rfl (n := 33) rfl ?_
      refine go_get C dX4_letter_33 (mf4_0 q cI cZ σ) rfl inX4 (by decide) fl_X4_45 (n := 36) rfl ?_
      refine go_iload_n C dX4_letter_36 rfl 1 rfl (n := 37) rfl ?_
      obtain ⟨b3, hm⟩ := bx_g hm
      refine go_iast C dX4_letter_37 (mu_1 q cI cZ σ (σ.1 0 0) v1) b3 (n := 38) rfl ?_
      refine go_aload_n C dX4_letter_38 rfl 0 rfl (n := 39) rfl ?_
      refine go_dup C dX4_letter_39 rfl (n := 40) rfl ?_
      refine go_get C dX4_letter_40 (mf4_0 q cI cZ (bx_up σ 1 (σ.1 0 0).toNatClampNeg v1)) rfl inX4 (by decide) fl_X4_45 (n := 43) rfl ?_
      refine go_iconst C dX4_letter_43 (v := (1 : Int32)) (by decide) (n := 44) rfl ?_
      refine go_iadd C dX4_letter_44 (n := 45) rfl ?_
      obtain ⟨σ4, z5, hm⟩ := bx_lt hm
      refine go_put C dX4_letter_45 (ws' := (bx_mw q cI cZ σ4)) (by rw [z5]; exact (mp4_0 q cI cZ (bx_up σ 1 (σ.1 0 0).toNatClampNeg v1) (((bx_up σ 1 (σ.1 0 0).toNatClampNeg v1).1 0 0) + (1 : Int32)))) rfl inX4 tyX4_ok nmX4 (by decide) fl_X4_45 rfl (ty := .int) (by decide +kernel) (by rfl) (by rfl) (n := 48) rfl ?_
      refine go_aload_n C dX4_letter_48 rfl 0 rfl (n := 49) rfl ?_
      refine go_get C dX4_letter_49 (mf4_0 q cI cZ σ4) rfl inX4 (by decide) fl_X4_45 (n := 52) rfl ?_
      cases hm
      exact go_iret C dX4_letter_52
    · have hm := bx_p c2 hm
      refine go_sipush C dX4_letter_24 (v := (-10005 : Int32)) (by decide) (n := 27) rfl ?_
      cases hm
      exact go_iret C dX4_letter_27
  · have hm := bx_p c1 hm
    refine go_sipush C dX4_letter_11 (v := (-10003 : Int32)) (by decide) (n := 14) rfl ?_
    cases hm
    exact go_iret C dX4_letter_14
def mX4_meet (v1 : Int32) (v2 : Int32) (σ : bx_St) : Option Int32 := (if (mX4_isBox v1 σ) = 0 then (some (-10002 : Int32)) else (if (mX4_isBox v2 σ) = 0 then (some (-10002 : Int32)) else (if v1 = v2 then (some (-10002 : Int32)) else (if bx_ok (((12 : Int32) * v1) + v2) 144 then (Option.bind (mX4_ones (σ.1 4 (((12 : Int32) * v1) + v2).toNatClampNeg)) fun u5 => (some u5)) else none))))
set_option maxRecDepth 8000 in
set_option maxHeartbeats 4000000 in
theorem ktX4_meet {l : Launch} {D : va_G} {cI cZ : ClassId} {q : Nat → Nat} {v1 : Int32} {v2 : Int32} {σ : bx_St} {u : Int32} (hm : mX4_meet v1 v2 σ = some u) : bx_Mt l D cI cZ yX4_meet cX4_meet 3 (some .int) 3 [.ref (q 0), .int v1, .int v2] (bx_mw q cI cZ σ) (some (.int u)) (bx_mw q cI cZ σ) := by
  refine bx_mk (by decide) (Nat.le_of_ble_eq_true rfl) (lv := [(0, .ref (q 0)), (1, .int v1), (2, .int v2)]) rfl (fun p e s m args below meth c A C => ?_)
  replace C : bx_Cx p s m args meth c 3 A D cI cZ RX4 cX4_meet (some .int) := C
  unfold mX4_meet at hm
  refine go_aload_n C dX4_meet_0 rfl 0 rfl (n := 1) rfl ?_
  refine go_iload_n C dX4_meet_1 rfl 1 rfl (n := 2) rfl ?_
  refine go_callVi C dX4_meet_2 mw_X4_isBox ml_X4_160 (rest := []) (ktX4_isBox rfl) (mo4 q cI cZ σ) rfl (by decide) rfl rfl (Nat.le_of_ble_eq_true rfl) (n := 5) rfl ?_
  refine go_if_eq C 38 dX4_meet_5 (by decide) (n := 8) rfl (fun c1 => ?_) (fun c1 => ?_)
  · have hm := bx_p c1 hm
    refine go_sipush C dX4_meet_38 (v := (-10002 : Int32)) (by decide) (n := 41) rfl ?_
    cases hm
    exact go_iret C dX4_meet_41
  · have hm := bx_n c1 hm
    refine go_aload_n C dX4_meet_8 rfl 0 rfl (n := 9) rfl ?_
    refine go_iload_n C dX4_meet_9 rfl 2 rfl (n := 10) rfl ?_
    refine go_callVi C dX4_meet_10 mw_X4_isBox ml_X4_160 (rest := []) (ktX4_isBox rfl) (mo4 q cI cZ σ) rfl (by decide) rfl rfl (Nat.le_of_ble_eq_true rfl) (n := 13) rfl ?_
    refine go_if_eq C 38 dX4_meet_13 (by decide) (n := 16) rfl (fun c2 => ?_) (fun c2 => ?_)
    · have hm := bx_p c2 hm
      refine go_sipush C dX4_meet_38 (v := (-10002 : Int32)) (by decide) (n := 41) rfl ?_
      cases hm
      exact go_iret C dX4_meet_41
    · have hm := bx_n c2 hm
      refine go_iload_n C dX4_meet_16 rfl 1 rfl (n := 17) rfl ?_
      refine go_iload_n C dX4_meet_17 rfl 2 rfl (n := 18) rfl ?_
      refine go_icmp_eq C 38 dX4_meet_18 (by decide) (n := 21) rfl (fun c3 => ?_) (fun c3 => ?_)
      · have hm := bx_p c3 hm
        refine go_sipush C dX4_meet_38 (v := (-10002 : Int32)) (by decide) (n := 41) rfl ?_
        cases hm
        exact go_iret C dX4_meet_41
      · have hm := bx_n c3 hm
        refine go_aload_n C dX4_meet_21 rfl 0 rfl (n := 22) rfl ?_
        refine go_get C dX4_meet_22 (mf4_7 q cI cZ σ) rfl inX4 (by decide) fl_X4_19 (n := 25) rfl ?_
        refine go_bipush C dX4_meet_25 (v := (12 : Int32)) (by decide) (n := 27) rfl ?_
        refine go_iload_n C dX4_meet_27 rfl 1 rfl (n := 28) rfl ?_
        refine go_imul C dX4_meet_28 (n := 29) rfl ?_
        refine go_iload_n C dX4_meet_29 rfl 2 rfl (n := 30) rfl ?_
        refine go_iadd C dX4_meet_30 (n := 31) rfl ?_
        obtain ⟨b4, hm⟩ := bx_g hm
        refine go_iald C dX4_meet_31 (ma_4 q cI cZ σ) b4 (n := 32) rfl ?_
        obtain ⟨u5, e6, hm⟩ := bx_b hm
        refine go_callSi C dX4_meet_32 mw_X4_ones ml_X4_183 (rest := []) (ktX4_ones e6) (by decide) rfl rfl (Nat.le_of_ble_eq_true rfl) (n := 35) rfl ?_
        refine go_goto C 41 dX4_meet_35 (by decide) ?_
        cases hm
        exact go_iret C dX4_meet_41
def mX4_move_81 (K54 : Int32 → Int32 → Int32 → Int32 → Int32 → bx_St → Option (Int32 × bx_St)) (v1 : Int32) (v2 : Int32) (v3 : Int32) (v4 : Int32) (v5 : Int32) (s0 : Int32) (σ : bx_St) : Option (Int32 × bx_St) := (Option.bind (mX4_lowOf v1 v5 σ) fun u1 => (Option.bind (mX4_highOf v1 v5 σ) fun u3 => (Option.bind (mX4_layBox v1 v5 (u1 + s0) (u3 + s0) σ) fun u5 => (K54 v1 v2 v3 v4 (v5 + 1) u5))))
set_option maxRecDepth 8000 in
set_option maxHeartbeats 4000000 in
theorem mX4_move_81_ok (C : bx_Cx p s m args meth c 7 A D cI cZ RX4 cX4_move (some .int)) (K54 : Int32 → Int32 → Int32 → Int32 → Int32 → bx_St → Option (Int32 × bx_St)) (HK54 : ∀ (v1 : Int32) (v2 : Int32) (v3 : Int32) (v4 : Int32) (v5 : Int32) (σ : bx_St) (u : (Int32 × bx_St)), K54 v1 v2 v3 v4 v5 σ = some u → bx_Go p l e (bx_rm 5) s m args below meth c 7 A D (MQ below (bx_Q (some (.int u.1)) (bx_mw q cI cZ u.2) D A) args s 0 0 A) (bx_mw q cI cZ σ) 54 [(0, .ref (q 0)), (1, .int v1), (2, .int v2), (3, .int v3), (4, .int v4), (5, .int v5)] []) : ∀ (v1 : Int32) (v2 : Int32) (v3 : Int32) (v4 : Int32) (v5 : Int32) (s0 : Int32) (σ : bx_St) (u : (Int32 × bx_St)), mX4_move_81 K54 v1 v2 v3 v4 v5 s0 σ = some u → bx_Go p l e (bx_rm 5) s m args below meth c 7 A D (MQ below (bx_Q (some (.int u.1)) (bx_mw q cI cZ u.2) D A) args s 0 0 A) (bx_mw q cI cZ σ) 81 [(0, .ref (q 0)), (1, .int v1), (2, .int v2), (3, .int v3), (4, .int v4), (5, .int v5)] [.int s0] := by
  intro v1 v2 v3 v4 v5 s0 σ u hm
  unfold mX4_move_81 at hm
  refine go_istore C dX4_move_81 (by decide) (lv' := [(6, .int s0), (0, .ref (q 0)), (1, .int v1), (2, .int v2), (3, .int v3), (4, .int v4), (5, .int v5)]) rfl (n := 83) rfl ?_
  refine go_aload_n C dX4_move_83 rfl 1 rfl (n := 84) rfl ?_
  refine go_iload_n C dX4_move_84 rfl 2 rfl (n := 85) rfl ?_
  refine go_iload C dX4_move_85 6 rfl (n := 87) rfl ?_
  refine go_aload_n C dX4_move_87 rfl 1 rfl (n := 88) rfl ?_
  refine go_iload_n C dX4_move_88 rfl 2 rfl (n := 89) rfl ?_
  refine go_iload C dX4_move_89 6 rfl (n := 91) rfl ?_
  obtain ⟨u1, e2, hm⟩ := bx_b hm
  refine go_callVi C dX4_move_91 mw_X4_lowOf ml_X4_104 (rest := [.int v5, .int v1, .ref (q 0)]) (ktX4_lowOf e2) (mo4 q cI cZ σ) rfl (by decide) rfl rfl (Nat.le_of_ble_eq_true rfl) (n := 94) rfl ?_
  refine go_iload C dX4_move_94 0 rfl (n := 96) rfl ?_
  refine go_iadd C dX4_move_96 (n := 97) rfl ?_
  refine go_aload_n C dX4_move_97 rfl 1 rfl (n := 98) rfl ?_
  refine go_iload_n C dX4_move_98 rfl 2 rfl (n := 99) rfl ?_
  refine go_iload C dX4_move_99 6 rfl (n := 101) rfl ?_
  obtain ⟨u3, e4, hm⟩ := bx_b hm
  refine go_callVi C dX4_move_101 mw_X4_highOf ml_X4_107 (rest := [.int (u1 + s0), .int v5, .int v1, .ref (q 0)]) (ktX4_highOf e4) (mo4 q cI cZ σ) rfl (by decide) rfl rfl (Nat.le_of_ble_eq_true rfl) (n := 104) rfl ?_
  refine go_iload C dX4_move_104 0 rfl (n := 106) rfl ?_
  refine go_iadd C dX4_move_106 (n := 107) rfl ?_
  obtain ⟨u5, e6, hm⟩ := bx_b hm
  refine go_callVv C dX4_move_107 mw_X4_layBox ml_X4_166 (rest := []) (ktX4_layBox e6) (mo4 q cI cZ σ) rfl (by decide) rfl rfl (Nat.le_of_ble_eq_true rfl) (n := 110) rfl ?_
  refine go_iinc C (j := 6) dX4_move_110 rfl (v := (v5 + 1)) rfl (by decide) (lv' := [(5, .int (v5 + 1)), (6, .int s0), (0, .ref (q 0)), (1, .int v1), (2, .int v2), (3, .int v3), (4, .int v4)]) rfl (n := 113) rfl ?_
  refine go_goto C 54 dX4_move_113 (by decide) ?_
  refine go_lv (lv' := [(0, .ref (q 0)), (1, .int v1), (2, .int v2), (3, .int v3), (4, .int v4), (5, .int (v5 + 1))]) [2, 3, 4, 5, 6, 0] rfl ?_
  exact HK54 _ _ _ _ _ _ _ hm
def mX4_move_54 : Nat → Int32 → Int32 → Int32 → Int32 → Int32 → bx_St → Option (Int32 × bx_St)
  | 0, _, _, _, _, _, _ => none
  | n + 1, v1, v2, v3, v4, v5, σ => (if (3 : Int32) ≤ v5 then (Option.bind (mX4_endSwaps σ) fun u2 => (some (u2.1, u2.2))) else (if v5 = 0 then (mX4_move_81 (mX4_move_54 n) v1 v2 v3 v4 v5 v2 σ) else (if v5 = (1 : Int32) then (mX4_move_81 (mX4_move_54 n) v1 v2 v3 v4 v5 v3 σ) else (mX4_move_81 (mX4_move_54 n) v1 v2 v3 v4 v5 v4 σ))))
set_option maxRecDepth 8000 in
set_option maxHeartbeats 4000000 in
theorem mX4_move_54_ok (C : bx_Cx p s m args meth c 7 A D cI cZ RX4 cX4_move (some .int)) : ∀ (n : Nat) (v1 : Int32) (v2 : Int32) (v3 : Int32) (v4 : Int32) (v5 : Int32) (σ : bx_St) (u : (Int32 × bx_St)), mX4_move_54 n v1 v2 v3 v4 v5 σ = some u → bx_Go p l e (bx_rm 5) s m args below meth c 7 A D (MQ below (bx_Q (some (.int u.1)) (bx_mw q cI cZ u.2) D A) args s 0 0 A) (bx_mw q cI cZ σ) 54 [(0, .ref (q 0)), (1, .int v1), (2, .int v2), (3, .int v3), (4, .int v4), (5, .int v5)] [] := by
  intro n
  induction n with
  | zero =>
    intro v1 v2 v3 v4 v5 σ u hm
    cases hm
  | succ n ih =>
    intro v1 v2 v3 v4 v5 σ u hm
    rw [mX4_move_54] at hm
    refine go_iload C dX4_move_54 5 rfl (n := 56) rfl ?_
    refine go_iconst C dX4_move_56 (v := (3 : Int32)) (by decide) (n := 57) rfl ?_
    refine go_icmp_ge C 116 dX4_move_57 (by decide) (n := 60) rfl (fun c1 => ?_) (fun c1 => ?_)
    · have hm := bx_p c1 hm
      refine go_aload_n C dX4_move_116 rfl 0 rfl (n := 117) rfl ?_
      obtain ⟨u2, e3, hm⟩ := bx_b hm
      refine go_callVi C dX4_move_117 mw_X4_endSwaps ml_X4_170 (rest := []) (ktX4_endSwaps e3) (mo4 q cI cZ σ) rfl (by decide) rfl rfl (Nat.le_of_ble_eq_true rfl) (n := 120) rfl ?_
      cases hm
      exact go_iret C dX4_move_120
    · have hm := bx_n c1 hm
      refine go_iload C dX4_move_60 5 rfl (n := 62) rfl ?_
      refine go_if_ne C 69 dX4_move_62 (by decide) (n := 65) rfl (fun c4 => ?_) (fun c4 => ?_)
      · have hm := bx_n c4 hm
        refine go_iload C dX4_move_69 5 rfl (n := 71) rfl ?_
        refine go_iconst C dX4_move_71 (v := (1 : Int32)) (by decide) (n := 72) rfl ?_
        refine go_icmp_ne C 79 dX4_move_72 (by decide) (n := 75) rfl (fun c5 => ?_) (fun c5 => ?_)
        · have hm := bx_n c5 hm
          refine go_iload C dX4_move_79 4 rfl (n := 81) rfl ?_
          refine go_lv (lv' := [(0, .ref (q 0)), (1, .int v1), (2, .int v2), (3, .int v3), (4, .int v4), (5, .int v5)]) [0, 1, 2, 3, 4, 5] rfl ?_
          exact mX4_move_81_ok C _ ih _ _ _ _ _ _ _ _ hm
        · have hm := bx_p c5 hm
          refine go_iload_n C dX4_move_75 rfl 3 rfl (n := 76) rfl ?_
          refine go_goto C 81 dX4_move_76 (by decide) ?_
          refine go_lv (lv' := [(0, .ref (q 0)), (1, .int v1), (2, .int v2), (3, .int v3), (4, .int v4), (5, .int v5)]) [0, 1, 2, 3, 4, 5] rfl ?_
          exact mX4_move_81_ok C _ ih _ _ _ _ _ _ _ _ hm
      · have hm := bx_p c4 hm
        refine go_iload_n C dX4_move_65 rfl 2 rfl (n := 66) rfl ?_
        refine go_goto C 81 dX4_move_66 (by decide) ?_
        refine go_lv (lv' := [(0, .ref (q 0)), (1, .int v1), (2, .int v2), (3, .int v3), (4, .int v4), (5, .int v5)]) [0, 1, 2, 3, 4, 5] rfl ?_
        exact mX4_move_81_ok C _ ih _ _ _ _ _ _ _ _ hm
def mX4_move (v1 : Int32) (v2 : Int32) (v3 : Int32) (v4 : Int32) (σ : bx_St) : Option (Int32 × bx_St) := (if (mX4_isBox v1 σ) = 0 then (some ((-10002 : Int32), σ)) else (Option.bind (mX4_canMove v1 (0 : Int32) v2 σ) fun u2 => (if u2 = 0 then (some ((-10003 : Int32), σ)) else (Option.bind (mX4_canMove v1 (1 : Int32) v3 σ) fun u5 => (if u5 = 0 then (some ((-10003 : Int32), σ)) else (Option.bind (mX4_canMove v1 (2 : Int32) v4 σ) fun u8 => (if u8 = 0 then (some ((-10003 : Int32), σ)) else (Option.bind (mX4_beginChange σ) fun u11 => (mX4_move_54 bx_F v1 v2 v3 v4 (0 : Int32) u11)))))))))
set_option maxRecDepth 8000 in
set_option maxHeartbeats 4000000 in
theorem ktX4_move {l : Launch} {D : va_G} {cI cZ : ClassId} {q : Nat → Nat} {v1 : Int32} {v2 : Int32} {v3 : Int32} {v4 : Int32} {σ : bx_St} {u : (Int32 × bx_St)} (hm : mX4_move v1 v2 v3 v4 σ = some u) : bx_Mt l D cI cZ yX4_move cX4_move 7 (some .int) 5 [.ref (q 0), .int v1, .int v2, .int v3, .int v4] (bx_mw q cI cZ σ) (some (.int u.1)) (bx_mw q cI cZ u.2) := by
  refine bx_mk (by decide) (Nat.le_of_ble_eq_true rfl) (lv := [(0, .ref (q 0)), (1, .int v1), (2, .int v2), (3, .int v3), (4, .int v4)]) rfl (fun p e s m args below meth c A C => ?_)
  replace C : bx_Cx p s m args meth c 7 A D cI cZ RX4 cX4_move (some .int) := C
  unfold mX4_move at hm
  refine go_aload_n C dX4_move_0 rfl 0 rfl (n := 1) rfl ?_
  refine go_iload_n C dX4_move_1 rfl 1 rfl (n := 2) rfl ?_
  refine go_callVi C dX4_move_2 mw_X4_isBox ml_X4_160 (rest := []) (ktX4_isBox rfl) (mo4 q cI cZ σ) rfl (by decide) rfl rfl (Nat.le_of_ble_eq_true rfl) (n := 5) rfl ?_
  refine go_if_ne C 12 dX4_move_5 (by decide) (n := 8) rfl (fun c1 => ?_) (fun c1 => ?_)
  · have hm := bx_n c1 hm
    refine go_aload_n C dX4_move_12 rfl 0 rfl (n := 13) rfl ?_
    refine go_iload_n C dX4_move_13 rfl 1 rfl (n := 14) rfl ?_
    refine go_iconst C dX4_move_14 (v := (0 : Int32)) (by decide) (n := 15) rfl ?_
    refine go_iload_n C dX4_move_15 rfl 2 rfl (n := 16) rfl ?_
    obtain ⟨u2, e3, hm⟩ := bx_b hm
    refine go_callVi C dX4_move_16 mw_X4_canMove ml_X4_163 (rest := []) (ktX4_canMove e3) (mo4 q cI cZ σ) rfl (by decide) rfl rfl (Nat.le_of_ble_eq_true rfl) (n := 19) rfl ?_
    refine go_if_eq C 43 dX4_move_19 (by decide) (n := 22) rfl (fun c4 => ?_) (fun c4 => ?_)
    · have hm := bx_p c4 hm
      refine go_sipush C dX4_move_43 (v := (-10003 : Int32)) (by decide) (n := 46) rfl ?_
      cases hm
      exact go_iret C dX4_move_46
    · have hm := bx_n c4 hm
      refine go_aload_n C dX4_move_22 rfl 0 rfl (n := 23) rfl ?_
      refine go_iload_n C dX4_move_23 rfl 1 rfl (n := 24) rfl ?_
      refine go_iconst C dX4_move_24 (v := (1 : Int32)) (by decide) (n := 25) rfl ?_
      refine go_iload_n C dX4_move_25 rfl 3 rfl (n := 26) rfl ?_
      obtain ⟨u5, e6, hm⟩ := bx_b hm
      refine go_callVi C dX4_move_26 mw_X4_canMove ml_X4_163 (rest := []) (ktX4_canMove e6) (mo4 q cI cZ σ) rfl (by decide) rfl rfl (Nat.le_of_ble_eq_true rfl) (n := 29) rfl ?_
      refine go_if_eq C 43 dX4_move_29 (by decide) (n := 32) rfl (fun c7 => ?_) (fun c7 => ?_)
      · have hm := bx_p c7 hm
        refine go_sipush C dX4_move_43 (v := (-10003 : Int32)) (by decide) (n := 46) rfl ?_
        cases hm
        exact go_iret C dX4_move_46
      · have hm := bx_n c7 hm
        refine go_aload_n C dX4_move_32 rfl 0 rfl (n := 33) rfl ?_
        refine go_iload_n C dX4_move_33 rfl 1 rfl (n := 34) rfl ?_
        refine go_iconst C dX4_move_34 (v := (2 : Int32)) (by decide) (n := 35) rfl ?_
        refine go_iload C dX4_move_35 4 rfl (n := 37) rfl ?_
        obtain ⟨u8, e9, hm⟩ := bx_b hm
        refine go_callVi C dX4_move_37 mw_X4_canMove ml_X4_163 (rest := []) (ktX4_canMove e9) (mo4 q cI cZ σ) rfl (by decide) rfl rfl (Nat.le_of_ble_eq_true rfl) (n := 40) rfl ?_
        refine go_if_ne C 47 dX4_move_40 (by decide) (n := 43) rfl (fun c10 => ?_) (fun c10 => ?_)
        · have hm := bx_n c10 hm
          refine go_aload_n C dX4_move_47 rfl 0 rfl (n := 48) rfl ?_
          obtain ⟨u11, e12, hm⟩ := bx_b hm
          refine go_callVv C dX4_move_48 mw_X4_beginChange ml_X4_83 (rest := []) (ktX4_beginChange e12) (mo4 q cI cZ σ) rfl (by decide) rfl rfl (Nat.le_of_ble_eq_true rfl) (n := 51) rfl ?_
          refine go_iconst C dX4_move_51 (v := (0 : Int32)) (by decide) (n := 52) rfl ?_
          refine go_istore C dX4_move_52 (by decide) (lv' := [(5, .int (0 : Int32)), (0, .ref (q 0)), (1, .int v1), (2, .int v2), (3, .int v3), (4, .int v4)]) rfl (n := 54) rfl ?_
          refine go_lv (lv' := [(0, .ref (q 0)), (1, .int v1), (2, .int v2), (3, .int v3), (4, .int v4), (5, .int (0 : Int32))]) [1, 2, 3, 4, 5, 0] rfl ?_
          exact mX4_move_54_ok C _ _ _ _ _ _ _ _ hm
        · have hm := bx_p c10 hm
          refine go_sipush C dX4_move_43 (v := (-10003 : Int32)) (by decide) (n := 46) rfl ?_
          cases hm
          exact go_iret C dX4_move_46
  · have hm := bx_p c1 hm
    refine go_sipush C dX4_move_8 (v := (-10002 : Int32)) (by decide) (n := 11) rfl ?_
    cases hm
    exact go_iret C dX4_move_11
def mX4_pair (v1 : Int32) (σ : bx_St) : Option (Int32 × bx_St) := (Option.bind (mX4_layPairs σ) fun u1 => (if (mX4_within v1 (0 : Int32) ((u1.1 0 25) - (1 : Int32))) = 0 then (some ((-10002 : Int32), u1)) else (if bx_ok v1 66 then (some ((u1.1 10 v1.toNatClampNeg), u1)) else none)))
set_option maxRecDepth 8000 in
set_option maxHeartbeats 4000000 in
theorem ktX4_pair {l : Launch} {D : va_G} {cI cZ : ClassId} {q : Nat → Nat} {v1 : Int32} {σ : bx_St} {u : (Int32 × bx_St)} (hm : mX4_pair v1 σ = some u) : bx_Mt l D cI cZ yX4_pair cX4_pair 2 (some .int) 3 [.ref (q 0), .int v1] (bx_mw q cI cZ σ) (some (.int u.1)) (bx_mw q cI cZ u.2) := by
  refine bx_mk (by decide) (Nat.le_of_ble_eq_true rfl) (lv := [(0, .ref (q 0)), (1, .int v1)]) rfl (fun p e s m args below meth c A C => ?_)
  replace C : bx_Cx p s m args meth c 2 A D cI cZ RX4 cX4_pair (some .int) := C
  unfold mX4_pair at hm
  refine go_aload_n C dX4_pair_0 rfl 0 rfl (n := 1) rfl ?_
  obtain ⟨u1, e2, hm⟩ := bx_b hm
  refine go_callVv C dX4_pair_1 mw_X4_layPairs ml_X4_202 (rest := []) (ktX4_layPairs e2) (mo4 q cI cZ σ) rfl (by decide) rfl rfl (Nat.le_of_ble_eq_true rfl) (n := 4) rfl ?_
  refine go_iload_n C dX4_pair_4 rfl 1 rfl (n := 5) rfl ?_
  refine go_iconst C dX4_pair_5 (v := (0 : Int32)) (by decide) (n := 6) rfl ?_
  refine go_aload_n C dX4_pair_6 rfl 0 rfl (n := 7) rfl ?_
  refine go_get C dX4_pair_7 (mf4_25 q cI cZ u1) rfl inX4 (by decide) fl_X4_199 (n := 10) rfl ?_
  refine go_iconst C dX4_pair_10 (v := (1 : Int32)) (by decide) (n := 11) rfl ?_
  refine go_isub C dX4_pair_11 (n := 12) rfl ?_
  refine go_callSi C dX4_pair_12 mw_X4_within ml_X4_41 (rest := []) (ktX4_within rfl) (by decide) rfl rfl (Nat.le_of_ble_eq_true rfl) (n := 15) rfl ?_
  refine go_if_eq C 27 dX4_pair_15 (by decide) (n := 18) rfl (fun c3 => ?_) (fun c3 => ?_)
  · have hm := bx_p c3 hm
    refine go_sipush C dX4_pair_27 (v := (-10002 : Int32)) (by decide) (n := 30) rfl ?_
    cases hm
    exact go_iret C dX4_pair_30
  · have hm := bx_n c3 hm
    refine go_aload_n C dX4_pair_18 rfl 0 rfl (n := 19) rfl ?_
    refine go_get C dX4_pair_19 (mf4_26 q cI cZ u1) rfl inX4 (by decide) fl_X4_38 (n := 22) rfl ?_
    refine go_iload_n C dX4_pair_22 rfl 1 rfl (n := 23) rfl ?_
    obtain ⟨b4, hm⟩ := bx_g hm
    refine go_iald C dX4_pair_23 (ma_10 q cI cZ u1) b4 (n := 24) rfl ?_
    refine go_goto C 30 dX4_pair_24 (by decide) ?_
    cases hm
    exact go_iret C dX4_pair_30
def mX4_probed_12 (v1 : Int32) (v2 : Int32) (v3 : Int32) (v4 : Int32) (s0 : Int32) (σ : bx_St) : Option Int32 := (Option.bind (mX4_highOf v1 v2 σ) fun u1 => (if (u1 + s0) ≤ v3 then (some (0 : Int32)) else (Option.bind (mX4_lowOf v1 v2 σ) fun u4 => (if (v4 + s0) ≤ u4 then (some (0 : Int32)) else (some (1 : Int32))))))
set_option maxRecDepth 8000 in
set_option maxHeartbeats 4000000 in
theorem mX4_probed_12_ok (C : bx_Cx p s m args meth c 6 A D cI cZ RX4 cX4_probed (some .int)) : ∀ (v1 : Int32) (v2 : Int32) (v3 : Int32) (v4 : Int32) (s0 : Int32) (σ : bx_St) (u : Int32), mX4_probed_12 v1 v2 v3 v4 s0 σ = some u → bx_Go p l e (bx_rm 2) s m args below meth c 6 A D (MQ below (bx_Q (some (.int u)) (bx_mw q cI cZ σ) D A) args s 0 0 A) (bx_mw q cI cZ σ) 12 [(0, .ref (q 0)), (1, .int v1), (2, .int v2), (3, .int v3), (4, .int v4)] [.int s0] := by
  intro v1 v2 v3 v4 s0 σ u hm
  unfold mX4_probed_12 at hm
  refine go_istore C dX4_probed_12 (by decide) (lv' := [(5, .int s0), (0, .ref (q 0)), (1, .int v1), (2, .int v2), (3, .int v3), (4, .int v4)]) rfl (n := 14) rfl ?_
  refine go_iload_n C dX4_probed_14 rfl 4 rfl (n := 15) rfl ?_
  refine go_aload_n C dX4_probed_15 rfl 1 rfl (n := 16) rfl ?_
  refine go_iload_n C dX4_probed_16 rfl 2 rfl (n := 17) rfl ?_
  refine go_iload_n C dX4_probed_17 rfl 3 rfl (n := 18) rfl ?_
  obtain ⟨u1, e2, hm⟩ := bx_b hm
  refine go_callVi C dX4_probed_18 mw_X4_highOf ml_X4_107 (rest := [.int v3]) (ktX4_highOf e2) (mo4 q cI cZ σ) rfl (by decide) rfl rfl (Nat.le_of_ble_eq_true rfl) (n := 21) rfl ?_
  refine go_iload C dX4_probed_21 0 rfl (n := 23) rfl ?_
  refine go_iadd C dX4_probed_23 (n := 24) rfl ?_
  refine go_icmp_ge C 45 dX4_probed_24 (by decide) (n := 27) rfl (fun c3 => ?_) (fun c3 => ?_)
  · have hm := bx_p c3 hm
    refine go_iconst C dX4_probed_45 (v := (0 : Int32)) (by decide) (n := 46) rfl ?_
    cases hm
    exact go_iret C dX4_probed_46
  · have hm := bx_n c3 hm
    refine go_aload_n C dX4_probed_27 rfl 1 rfl (n := 28) rfl ?_
    refine go_iload_n C dX4_probed_28 rfl 2 rfl (n := 29) rfl ?_
    refine go_iload_n C dX4_probed_29 rfl 3 rfl (n := 30) rfl ?_
    obtain ⟨u4, e5, hm⟩ := bx_b hm
    refine go_callVi C dX4_probed_30 mw_X4_lowOf ml_X4_104 (rest := []) (ktX4_lowOf e5) (mo4 q cI cZ σ) rfl (by decide) rfl rfl (Nat.le_of_ble_eq_true rfl) (n := 33) rfl ?_
    refine go_iload C dX4_probed_33 5 rfl (n := 35) rfl ?_
    refine go_iload C dX4_probed_35 0 rfl (n := 37) rfl ?_
    refine go_iadd C dX4_probed_37 (n := 38) rfl ?_
    refine go_icmp_ge C 45 dX4_probed_38 (by decide) (n := 41) rfl (fun c6 => ?_) (fun c6 => ?_)
    · have hm := bx_p c6 hm
      refine go_iconst C dX4_probed_45 (v := (0 : Int32)) (by decide) (n := 46) rfl ?_
      cases hm
      exact go_iret C dX4_probed_46
    · have hm := bx_n c6 hm
      refine go_iconst C dX4_probed_41 (v := (1 : Int32)) (by decide) (n := 42) rfl ?_
      refine go_goto C 46 dX4_probed_42 (by decide) ?_
      cases hm
      exact go_iret C dX4_probed_46
def mX4_probed (v1 : Int32) (v2 : Int32) (v3 : Int32) (v4 : Int32) (σ : bx_St) : Option Int32 := (if (σ.1 0 3) = 0 then (mX4_probed_12 v1 v2 v3 v4 (0 : Int32) σ) else (mX4_probed_12 v1 v2 v3 v4 (1 : Int32) σ))
set_option maxRecDepth 8000 in
set_option maxHeartbeats 4000000 in
theorem ktX4_probed {l : Launch} {D : va_G} {cI cZ : ClassId} {q : Nat → Nat} {v1 : Int32} {v2 : Int32} {v3 : Int32} {v4 : Int32} {σ : bx_St} {u : Int32} (hm : mX4_probed v1 v2 v3 v4 σ = some u) : bx_Mt l D cI cZ yX4_probed cX4_probed 6 (some .int) 2 [.ref (q 0), .int v1, .int v2, .int v3, .int v4] (bx_mw q cI cZ σ) (some (.int u)) (bx_mw q cI cZ σ) := by
  refine bx_mk (by decide) (Nat.le_of_ble_eq_true rfl) (lv := [(0, .ref (q 0)), (1, .int v1), (2, .int v2), (3, .int v3), (4, .int v4)]) rfl (fun p e s m args below meth c A C => ?_)
  replace C : bx_Cx p s m args meth c 6 A D cI cZ RX4 cX4_probed (some .int) := C
  unfold mX4_probed at hm
  refine go_aload_n C dX4_probed_0 rfl 0 rfl (n := 1) rfl ?_
  refine go_get C dX4_probed_1 (mf4_3 q cI cZ σ) rfl inX4 (by decide) fl_X4_101 (n := 4) rfl ?_
  refine go_if_eq C 11 dX4_probed_4 (by decide) (n := 7) rfl (fun c1 => ?_) (fun c1 => ?_)
  · have hm := bx_p c1 hm
    refine go_iconst C dX4_probed_11 (v := (0 : Int32)) (by decide) (n := 12) rfl ?_
    refine go_lv (lv' := [(0, .ref (q 0)), (1, .int v1), (2, .int v2), (3, .int v3), (4, .int v4)]) [0, 1, 2, 3, 4] rfl ?_
    exact mX4_probed_12_ok C _ _ _ _ _ _ _ hm
  · have hm := bx_n c1 hm
    refine go_iconst C dX4_probed_7 (v := (1 : Int32)) (by decide) (n := 8) rfl ?_
    refine go_goto C 12 dX4_probed_8 (by decide) ?_
    refine go_lv (lv' := [(0, .ref (q 0)), (1, .int v1), (2, .int v2), (3, .int v3), (4, .int v4)]) [0, 1, 2, 3, 4] rfl ?_
    exact mX4_probed_12_ok C _ _ _ _ _ _ _ hm
end
