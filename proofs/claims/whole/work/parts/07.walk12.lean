section
variable {p : Program} {l : Launch} {e : Env} {s : State} {m : MethodId} {args : Array Value} {below : List Frame} {meth : Method} {c : Code} {A : Nat → Prop} {D : va_G} {cI cZ : ClassId} {q : Nat → Nat} {ws : va_W}
def mX4_probe_114 (K37 : Int32 → Int32 → Int32 → Int32 → Int32 → Int32 → Int32 → Int32 → bx_St → Option Int32) (v1 : Int32) (v2 : Int32) (v3 : Int32) (v4 : Int32) (v5 : Int32) (v6 : Int32) (v8 : Int32) (s0 : Int32) (s1 : Int32) (σ : bx_St) : Option Int32 := (K37 v1 v2 v3 v4 v5 v6 (s1 ||| s0) (v8 + 1) σ)
set_option maxRecDepth 8000 in
set_option maxHeartbeats 4000000 in
theorem mX4_probe_114_ok (C : bx_Cx p s m args meth c 10 A D cI cZ RX4 cX4_probe (some .int)) (K37 : Int32 → Int32 → Int32 → Int32 → Int32 → Int32 → Int32 → Int32 → bx_St → Option Int32) (HK37 : ∀ (v1 : Int32) (v2 : Int32) (v3 : Int32) (v4 : Int32) (v5 : Int32) (v6 : Int32) (v7 : Int32) (v8 : Int32) (σ : bx_St) (u : Int32), K37 v1 v2 v3 v4 v5 v6 v7 v8 σ = some u → bx_Go p l e (bx_rm 3) s m args below meth c 10 A D (MQ below (bx_Q (some (.int u)) (bx_mw q cI cZ σ) D A) args s 0 0 A) (bx_mw q cI cZ σ) 37 [(0, .ref (q 0)), (1, .int v1), (2, .int v2), (3, .int v3), (4, .int v4), (5, .int v5), (6, .int v6), (7, .int v7), (8, .int v8)] []) : ∀ (v1 : Int32) (v2 : Int32) (v3 : Int32) (v4 : Int32) (v5 : Int32) (v6 : Int32) (v8 : Int32) (s0 : Int32) (s1 : Int32) (σ : bx_St) (u : Int32), mX4_probe_114 K37 v1 v2 v3 v4 v5 v6 v8 s0 s1 σ = some u → bx_Go p l e (bx_rm 3) s m args below meth c 10 A D (MQ below (bx_Q (some (.int u)) (bx_mw q cI cZ σ) D A) args s 0 0 A) (bx_mw q cI cZ σ) 114 [(0, .ref (q 0)), (1, .int v1), (2, .int v2), (3, .int v3), (4, .int v4), (5, .int v5), (6, .int v6), (8, .int v8)] [.int s0, .int s1] := by
  intro v1 v2 v3 v4 v5 v6 v8 s0 s1 σ u hm
  unfold mX4_probe_114 at hm
  refine go_ior C dX4_probe_114 (n := 115) rfl ?_
  refine go_istore C dX4_probe_115 (by decide) (lv' := [(7, .int (s1 ||| s0)), (0, .ref (q 0)), (1, .int v1), (2, .int v2), (3, .int v3), (4, .int v4), (5, .int v5), (6, .int v6), (8, .int v8)]) rfl (n := 117) rfl ?_
  refine go_iinc C (j := 8) dX4_probe_117 rfl (v := (v8 + 1)) rfl (by decide) (lv' := [(8, .int (v8 + 1)), (7, .int (s1 ||| s0)), (0, .ref (q 0)), (1, .int v1), (2, .int v2), (3, .int v3), (4, .int v4), (5, .int v5), (6, .int v6)]) rfl (n := 120) rfl ?_
  refine go_goto C 37 dX4_probe_120 (by decide) ?_
  refine go_lv (lv' := [(0, .ref (q 0)), (1, .int v1), (2, .int v2), (3, .int v3), (4, .int v4), (5, .int v5), (6, .int v6), (7, .int (s1 ||| s0)), (8, .int (v8 + 1))]) [2, 3, 4, 5, 6, 7, 8, 1, 0] rfl ?_
  exact HK37 _ _ _ _ _ _ _ _ _ _ hm
def mX4_probe_97 (K37 : Int32 → Int32 → Int32 → Int32 → Int32 → Int32 → Int32 → Int32 → bx_St → Option Int32) (v1 : Int32) (v2 : Int32) (v3 : Int32) (v4 : Int32) (v5 : Int32) (v6 : Int32) (v7 : Int32) (v8 : Int32) (s0 : Int32) (σ : bx_St) : Option Int32 := (if s0 = 0 then (mX4_probe_114 K37 v1 v2 v3 v4 v5 v6 v8 (0 : Int32) v7 σ) else (mX4_probe_114 K37 v1 v2 v3 v4 v5 v6 v8 ((1 : Int32) <<< (v8 &&& 31)) v7 σ))
set_option maxRecDepth 8000 in
set_option maxHeartbeats 4000000 in
theorem mX4_probe_97_ok (C : bx_Cx p s m args meth c 10 A D cI cZ RX4 cX4_probe (some .int)) (K37 : Int32 → Int32 → Int32 → Int32 → Int32 → Int32 → Int32 → Int32 → bx_St → Option Int32) (HK37 : ∀ (v1 : Int32) (v2 : Int32) (v3 : Int32) (v4 : Int32) (v5 : Int32) (v6 : Int32) (v7 : Int32) (v8 : Int32) (σ : bx_St) (u : Int32), K37 v1 v2 v3 v4 v5 v6 v7 v8 σ = some u → bx_Go p l e (bx_rm 3) s m args below meth c 10 A D (MQ below (bx_Q (some (.int u)) (bx_mw q cI cZ σ) D A) args s 0 0 A) (bx_mw q cI cZ σ) 37 [(0, .ref (q 0)), (1, .int v1), (2, .int v2), (3, .int v3), (4, .int v4), (5, .int v5), (6, .int v6), (7, .int v7), (8, .int v8)] []) : ∀ (v1 : Int32) (v2 : Int32) (v3 : Int32) (v4 : Int32) (v5 : Int32) (v6 : Int32) (v7 : Int32) (v8 : Int32) (s0 : Int32) (σ : bx_St) (u : Int32), mX4_probe_97 K37 v1 v2 v3 v4 v5 v6 v7 v8 s0 σ = some u → bx_Go p l e (bx_rm 3) s m args below meth c 10 A D (MQ below (bx_Q (some (.int u)) (bx_mw q cI cZ σ) D A) args s 0 0 A) (bx_mw q cI cZ σ) 97 [(0, .ref (q 0)), (1, .int v1), (2, .int v2), (3, .int v3), (4, .int v4), (5, .int v5), (6, .int v6), (7, .int v7), (8, .int v8)] [.int s0] := by
  intro v1 v2 v3 v4 v5 v6 v7 v8 s0 σ u hm
  unfold mX4_probe_97 at hm
  refine go_istore C dX4_probe_97 (by decide) (lv' := [(9, .int s0), (0, .ref (q 0)), (1, .int v1), (2, .int v2), (3, .int v3), (4, .int v4), (5, .int v5), (6, .int v6), (7, .int v7), (8, .int v8)]) rfl (n := 99) rfl ?_
  refine go_iload C dX4_probe_99 8 rfl (n := 101) rfl ?_
  refine go_iload C dX4_probe_101 0 rfl (n := 103) rfl ?_
  refine go_if_eq C 113 dX4_probe_103 (by decide) (n := 106) rfl (fun c1 => ?_) (fun c1 => ?_)
  · have hm := bx_p c1 hm
    refine go_iconst C dX4_probe_113 (v := (0 : Int32)) (by decide) (n := 114) rfl ?_
    refine go_lv (lv' := [(0, .ref (q 0)), (1, .int v1), (2, .int v2), (3, .int v3), (4, .int v4), (5, .int v5), (6, .int v6), (8, .int v8)]) [1, 2, 3, 4, 5, 6, 7, 9] rfl ?_
    exact mX4_probe_114_ok C _ HK37 _ _ _ _ _ _ _ _ _ _ _ hm
  · have hm := bx_n c1 hm
    refine go_iconst C dX4_probe_106 (v := (1 : Int32)) (by decide) (n := 107) rfl ?_
    refine go_iload C dX4_probe_107 9 rfl (n := 109) rfl ?_
    refine go_ishl C dX4_probe_109 (n := 110) rfl ?_
    refine go_goto C 114 dX4_probe_110 (by decide) ?_
    refine go_lv (lv' := [(0, .ref (q 0)), (1, .int v1), (2, .int v2), (3, .int v3), (4, .int v4), (5, .int v5), (6, .int v6), (8, .int v8)]) [1, 2, 3, 4, 5, 6, 7, 9] rfl ?_
    exact mX4_probe_114_ok C _ HK37 _ _ _ _ _ _ _ _ _ _ _ hm
def mX4_probe_96 (K37 : Int32 → Int32 → Int32 → Int32 → Int32 → Int32 → Int32 → Int32 → bx_St → Option Int32) (v1 : Int32) (v2 : Int32) (v3 : Int32) (v4 : Int32) (v5 : Int32) (v6 : Int32) (v7 : Int32) (v8 : Int32) (σ : bx_St) : Option Int32 := (mX4_probe_97 K37 v1 v2 v3 v4 v5 v6 v7 v8 (0 : Int32) σ)
set_option maxRecDepth 8000 in
set_option maxHeartbeats 4000000 in
theorem mX4_probe_96_ok (C : bx_Cx p s m args meth c 10 A D cI cZ RX4 cX4_probe (some .int)) (K37 : Int32 → Int32 → Int32 → Int32 → Int32 → Int32 → Int32 → Int32 → bx_St → Option Int32) (HK37 : ∀ (v1 : Int32) (v2 : Int32) (v3 : Int32) (v4 : Int32) (v5 : Int32) (v6 : Int32) (v7 : Int32) (v8 : Int32) (σ : bx_St) (u : Int32), K37 v1 v2 v3 v4 v5 v6 v7 v8 σ = some u → bx_Go p l e (bx_rm 3) s m args below meth c 10 A D (MQ below (bx_Q (some (.int u)) (bx_mw q cI cZ σ) D A) args s 0 0 A) (bx_mw q cI cZ σ) 37 [(0, .ref (q 0)), (1, .int v1), (2, .int v2), (3, .int v3), (4, .int v4), (5, .int v5), (6, .int v6), (7, .int v7), (8, .int v8)] []) : ∀ (v1 : Int32) (v2 : Int32) (v3 : Int32) (v4 : Int32) (v5 : Int32) (v6 : Int32) (v7 : Int32) (v8 : Int32) (σ : bx_St) (u : Int32), mX4_probe_96 K37 v1 v2 v3 v4 v5 v6 v7 v8 σ = some u → bx_Go p l e (bx_rm 3) s m args below meth c 10 A D (MQ below (bx_Q (some (.int u)) (bx_mw q cI cZ σ) D A) args s 0 0 A) (bx_mw q cI cZ σ) 96 [(0, .ref (q 0)), (1, .int v1), (2, .int v2), (3, .int v3), (4, .int v4), (5, .int v5), (6, .int v6), (7, .int v7), (8, .int v8)] [] := by
  intro v1 v2 v3 v4 v5 v6 v7 v8 σ u hm
  unfold mX4_probe_96 at hm
  refine go_iconst C dX4_probe_96 (v := (0 : Int32)) (by decide) (n := 97) rfl ?_
  refine go_lv (lv' := [(0, .ref (q 0)), (1, .int v1), (2, .int v2), (3, .int v3), (4, .int v4), (5, .int v5), (6, .int v6), (7, .int v7), (8, .int v8)]) [0, 1, 2, 3, 4, 5, 6, 7, 8] rfl ?_
  exact mX4_probe_97_ok C _ HK37 _ _ _ _ _ _ _ _ _ _ _ hm
def mX4_probe_37 : Nat → Int32 → Int32 → Int32 → Int32 → Int32 → Int32 → Int32 → Int32 → bx_St → Option Int32
  | 0, _, _, _, _, _, _, _, _, _ => none
  | n + 1, v1, v2, v3, v4, v5, v6, v7, v8, σ => (if (12 : Int32) ≤ v8 then (some v7) else (if (mX4_has (σ.1 0 2) v8) = 0 then (mX4_probe_96 (mX4_probe_37 n) v1 v2 v3 v4 v5 v6 v7 v8 σ) else (Option.bind (mX4_probed v8 (0 : Int32) v1 v2 σ) fun u3 => (Option.bind (mX4_probed v8 (1 : Int32) v3 v4 σ) fun u5 => (Option.bind (mX4_probed v8 (2 : Int32) v5 v6 σ) fun u7 => (if ((u3 + u5) + u7) = (3 : Int32) then (mX4_probe_97 (mX4_probe_37 n) v1 v2 v3 v4 v5 v6 v7 v8 (1 : Int32) σ) else (mX4_probe_96 (mX4_probe_37 n) v1 v2 v3 v4 v5 v6 v7 v8 σ)))))))
set_option maxRecDepth 8000 in
set_option maxHeartbeats 4000000 in
theorem mX4_probe_37_ok (C : bx_Cx p s m args meth c 10 A D cI cZ RX4 cX4_probe (some .int)) : ∀ (n : Nat) (v1 : Int32) (v2 : Int32) (v3 : Int32) (v4 : Int32) (v5 : Int32) (v6 : Int32) (v7 : Int32) (v8 : Int32) (σ : bx_St) (u : Int32), mX4_probe_37 n v1 v2 v3 v4 v5 v6 v7 v8 σ = some u → bx_Go p l e (bx_rm 3) s m args below meth c 10 A D (MQ below (bx_Q (some (.int u)) (bx_mw q cI cZ σ) D A) args s 0 0 A) (bx_mw q cI cZ σ) 37 [(0, .ref (q 0)), (1, .int v1), (2, .int v2), (3, .int v3), (4, .int v4), (5, .int v5), (6, .int v6), (7, .int v7), (8, .int v8)] [] := by
  intro n
  induction n with
  | zero =>
    intro v1 v2 v3 v4 v5 v6 v7 v8 σ u hm
    cases hm
  | succ n ih =>
    intro v1 v2 v3 v4 v5 v6 v7 v8 σ u hm
    rw [mX4_probe_37] at hm
    refine go_iload C dX4_probe_37 8 rfl (n := 39) rfl ?_
    refine go_bipush C dX4_probe_39 (v := (12 : Int32)) (by decide) (n := 41) rfl ?_
    refine go_icmp_ge C 123 dX4_probe_41 (by decide) (n := 44) rfl (fun c1 => ?_) (fun c1 => ?_)
    · have hm := bx_p c1 hm
      refine go_iload C dX4_probe_123 7 rfl (n := 125) rfl ?_
      cases hm
      exact go_iret C dX4_probe_125
    · have hm := bx_n c1 hm
      refine go_aload_n C dX4_probe_44 rfl 0 rfl (n := 45) rfl ?_
      refine go_get C dX4_probe_45 (mf4_2 q cI cZ σ) rfl inX4 (by decide) fl_X4_73 (n := 48) rfl ?_
      refine go_iload C dX4_probe_48 8 rfl (n := 50) rfl ?_
      refine go_callSi C dX4_probe_50 mw_X4_has ml_X4_86 (rest := []) (ktX4_has rfl) (by decide) rfl rfl (Nat.le_of_ble_eq_true rfl) (n := 53) rfl ?_
      refine go_if_eq C 96 dX4_probe_53 (by decide) (n := 56) rfl (fun c2 => ?_) (fun c2 => ?_)
      · have hm := bx_p c2 hm
        refine go_lv (lv' := [(0, .ref (q 0)), (1, .int v1), (2, .int v2), (3, .int v3), (4, .int v4), (5, .int v5), (6, .int v6), (7, .int v7), (8, .int v8)]) [0, 1, 2, 3, 4, 5, 6, 7, 8] rfl ?_
        exact mX4_probe_96_ok C _ ih _ _ _ _ _ _ _ _ _ _ hm
      · have hm := bx_n c2 hm
        refine go_aload_n C dX4_probe_56 rfl 0 rfl (n := 57) rfl ?_
        refine go_iload C dX4_probe_57 8 rfl (n := 59) rfl ?_
        refine go_iconst C dX4_probe_59 (v := (0 : Int32)) (by decide) (n := 60) rfl ?_
        refine go_iload_n C dX4_probe_60 rfl 1 rfl (n := 61) rfl ?_
        refine go_iload_n C dX4_probe_61 rfl 2 rfl (n := 62) rfl ?_
        obtain ⟨u3, e4, hm⟩ := bx_b hm
        refine go_callVi C dX4_probe_62 mw_X4_probed ml_X4_230 (rest := []) (ktX4_probed e4) (mo4 q cI cZ σ) rfl (by decide) rfl rfl (Nat.le_of_ble_eq_true rfl) (n := 65) rfl ?_
        refine go_aload_n C dX4_probe_65 rfl 0 rfl (n := 66) rfl ?_
        refine go_iload C dX4_probe_66 8 rfl (n := 68) rfl ?_
        refine go_iconst C dX4_probe_68 (v := (1 : Int32)) (by decide) (n := 69) rfl ?_
        refine go_iload_n C dX4_probe_69 rfl 3 rfl (n := 70) rfl ?_
        refine go_iload C dX4_probe_70 4 rfl (n := 72) rfl ?_
        obtain ⟨u5, e6, hm⟩ := bx_b hm
        refine go_callVi C dX4_probe_72 mw_X4_probed ml_X4_230 (rest := [.int u3]) (ktX4_probed e6) (mo4 q cI cZ σ) rfl (by decide) rfl rfl (Nat.le_of_ble_eq_true rfl) (n := 75) rfl ?_
        refine go_iadd C dX4_probe_75 (n := 76) rfl ?_
        refine go_aload_n C dX4_probe_76 rfl 0 rfl (n := 77) rfl ?_
        refine go_iload C dX4_probe_77 8 rfl (n := 79) rfl ?_
        refine go_iconst C dX4_probe_79 (v := (2 : Int32)) (by decide) (n := 80) rfl ?_
        refine go_iload C dX4_probe_80 5 rfl (n := 82) rfl ?_
        refine go_iload C dX4_probe_82 6 rfl (n := 84) rfl ?_
        obtain ⟨u7, e8, hm⟩ := bx_b hm
        refine go_callVi C dX4_probe_84 mw_X4_probed ml_X4_230 (rest := [.int (u3 + u5)]) (ktX4_probed e8) (mo4 q cI cZ σ) rfl (by decide) rfl rfl (Nat.le_of_ble_eq_true rfl) (n := 87) rfl ?_
        refine go_iadd C dX4_probe_87 (n := 88) rfl ?_
        refine go_iconst C dX4_probe_88 (v := (3 : Int32)) (by decide) (n := 89) rfl ?_
        refine go_icmp_ne C 96 dX4_probe_89 (by decide) (n := 92) rfl (fun c9 => ?_) (fun c9 => ?_)
        · have hm := bx_n c9 hm
          refine go_lv (lv' := [(0, .ref (q 0)), (1, .int v1), (2, .int v2), (3, .int v3), (4, .int v4), (5, .int v5), (6, .int v6), (7, .int v7), (8, .int v8)]) [0, 1, 2, 3, 4, 5, 6, 7, 8] rfl ?_
          exact mX4_probe_96_ok C _ ih _ _ _ _ _ _ _ _ _ _ hm
        · have hm := bx_p c9 hm
          refine go_iconst C dX4_probe_92 (v := (1 : Int32)) (by decide) (n := 93) rfl ?_
          refine go_goto C 97 dX4_probe_93 (by decide) ?_
          refine go_lv (lv' := [(0, .ref (q 0)), (1, .int v1), (2, .int v2), (3, .int v3), (4, .int v4), (5, .int v5), (6, .int v6), (7, .int v7), (8, .int v8)]) [0, 1, 2, 3, 4, 5, 6, 7, 8] rfl ?_
          exact mX4_probe_97_ok C _ ih _ _ _ _ _ _ _ _ _ _ _ hm
def mX4_probe (v1 : Int32) (v2 : Int32) (v3 : Int32) (v4 : Int32) (v5 : Int32) (v6 : Int32) (σ : bx_St) : Option Int32 := (if (mX4_areEnds v1 v2) = 0 then (some (-10003 : Int32)) else (if (mX4_areEnds v3 v4) = 0 then (some (-10003 : Int32)) else (if (mX4_areEnds v5 v6) = 0 then (some (-10003 : Int32)) else (mX4_probe_37 bx_F v1 v2 v3 v4 v5 v6 (0 : Int32) (0 : Int32) σ))))
set_option maxRecDepth 8000 in
set_option maxHeartbeats 4000000 in
theorem ktX4_probe {l : Launch} {D : va_G} {cI cZ : ClassId} {q : Nat → Nat} {v1 : Int32} {v2 : Int32} {v3 : Int32} {v4 : Int32} {v5 : Int32} {v6 : Int32} {σ : bx_St} {u : Int32} (hm : mX4_probe v1 v2 v3 v4 v5 v6 σ = some u) : bx_Mt l D cI cZ yX4_probe cX4_probe 10 (some .int) 3 [.ref (q 0), .int v1, .int v2, .int v3, .int v4, .int v5, .int v6] (bx_mw q cI cZ σ) (some (.int u)) (bx_mw q cI cZ σ) := by
  refine bx_mk (by decide) (Nat.le_of_ble_eq_true rfl) (lv := [(0, .ref (q 0)), (1, .int v1), (2, .int v2), (3, .int v3), (4, .int v4), (5, .int v5), (6, .int v6)]) rfl (fun p e s m args below meth c A C => ?_)
  replace C : bx_Cx p s m args meth c 10 A D cI cZ RX4 cX4_probe (some .int) := C
  unfold mX4_probe at hm
  refine go_iload_n C dX4_probe_0 rfl 1 rfl (n := 1) rfl ?_
  refine go_iload_n C dX4_probe_1 rfl 2 rfl (n := 2) rfl ?_
  refine go_callSi C dX4_probe_2 mw_X4_areEnds ml_X4_176 (rest := []) (ktX4_areEnds rfl) (by decide) rfl rfl (Nat.le_of_ble_eq_true rfl) (n := 5) rfl ?_
  refine go_if_eq C 27 dX4_probe_5 (by decide) (n := 8) rfl (fun c1 => ?_) (fun c1 => ?_)
  · have hm := bx_p c1 hm
    refine go_sipush C dX4_probe_27 (v := (-10003 : Int32)) (by decide) (n := 30) rfl ?_
    cases hm
    exact go_iret C dX4_probe_30
  · have hm := bx_n c1 hm
    refine go_iload_n C dX4_probe_8 rfl 3 rfl (n := 9) rfl ?_
    refine go_iload C dX4_probe_9 4 rfl (n := 11) rfl ?_
    refine go_callSi C dX4_probe_11 mw_X4_areEnds ml_X4_176 (rest := []) (ktX4_areEnds rfl) (by decide) rfl rfl (Nat.le_of_ble_eq_true rfl) (n := 14) rfl ?_
    refine go_if_eq C 27 dX4_probe_14 (by decide) (n := 17) rfl (fun c2 => ?_) (fun c2 => ?_)
    · have hm := bx_p c2 hm
      refine go_sipush C dX4_probe_27 (v := (-10003 : Int32)) (by decide) (n := 30) rfl ?_
      cases hm
      exact go_iret C dX4_probe_30
    · have hm := bx_n c2 hm
      refine go_iload C dX4_probe_17 5 rfl (n := 19) rfl ?_
      refine go_iload C dX4_probe_19 6 rfl (n := 21) rfl ?_
      refine go_callSi C dX4_probe_21 mw_X4_areEnds ml_X4_176 (rest := []) (ktX4_areEnds rfl) (by decide) rfl rfl (Nat.le_of_ble_eq_true rfl) (n := 24) rfl ?_
      refine go_if_ne C 31 dX4_probe_24 (by decide) (n := 27) rfl (fun c3 => ?_) (fun c3 => ?_)
      · have hm := bx_n c3 hm
        refine go_iconst C dX4_probe_31 (v := (0 : Int32)) (by decide) (n := 32) rfl ?_
        refine go_istore C dX4_probe_32 (by decide) (lv' := [(7, .int (0 : Int32)), (0, .ref (q 0)), (1, .int v1), (2, .int v2), (3, .int v3), (4, .int v4), (5, .int v5), (6, .int v6)]) rfl (n := 34) rfl ?_
        refine go_iconst C dX4_probe_34 (v := (0 : Int32)) (by decide) (n := 35) rfl ?_
        refine go_istore C dX4_probe_35 (by decide) (lv' := [(8, .int (0 : Int32)), (7, .int (0 : Int32)), (0, .ref (q 0)), (1, .int v1), (2, .int v2), (3, .int v3), (4, .int v4), (5, .int v5), (6, .int v6)]) rfl (n := 37) rfl ?_
        refine go_lv (lv' := [(0, .ref (q 0)), (1, .int v1), (2, .int v2), (3, .int v3), (4, .int v4), (5, .int v5), (6, .int v6), (7, .int (0 : Int32)), (8, .int (0 : Int32))]) [2, 3, 4, 5, 6, 7, 8, 1, 0] rfl ?_
        exact mX4_probe_37_ok C _ _ _ _ _ _ _ _ _ _ _ hm
      · have hm := bx_p c3 hm
        refine go_sipush C dX4_probe_27 (v := (-10003 : Int32)) (by decide) (n := 30) rfl ?_
        cases hm
        exact go_iret C dX4_probe_30
def mX4_remove (v1 : Int32) (σ : bx_St) : Option (Int32 × bx_St) := (if v1 = 0 then (some ((-10003 : Int32), σ)) else (if (v1 &&& ((σ.1 0 2) ^^^ (-1 : Int32))) = 0 then (Option.bind (mX4_boxMany σ) fun u3 => (Option.bind (mX4_beginChange σ) fun u5 => (bx_let (bx_up u5 0 2 ((u5.1 0 2) &&& (v1 ^^^ (-1 : Int32)))) fun σ7 => (Option.bind (mX4_layAll σ7) fun u9 => (Option.bind (mX4_endChange (0 : Int32) u9) fun u11 => (Option.bind (mX4_boxMany u11) fun u13 => (some ((u3 - u13), u11)))))))) else (some ((-10003 : Int32), σ))))
set_option maxRecDepth 8000 in
set_option maxHeartbeats 4000000 in
theorem ktX4_remove {l : Launch} {D : va_G} {cI cZ : ClassId} {q : Nat → Nat} {v1 : Int32} {σ : bx_St} {u : (Int32 × bx_St)} (hm : mX4_remove v1 σ = some u) : bx_Mt l D cI cZ yX4_remove cX4_remove 3 (some .int) 5 [.ref (q 0), .int v1] (bx_mw q cI cZ σ) (some (.int u.1)) (bx_mw q cI cZ u.2) := by
  refine bx_mk (by decide) (Nat.le_of_ble_eq_true rfl) (lv := [(0, .ref (q 0)), (1, .int v1)]) rfl (fun p e s m args below meth c A C => ?_)
  replace C : bx_Cx p s m args meth c 3 A D cI cZ RX4 cX4_remove (some .int) := C
  unfold mX4_remove at hm
  refine go_iload_n C dX4_remove_0 rfl 1 rfl (n := 1) rfl ?_
  refine go_if_eq C 15 dX4_remove_1 (by decide) (n := 4) rfl (fun c1 => ?_) (fun c1 => ?_)
  · have hm := bx_p c1 hm
    refine go_sipush C dX4_remove_15 (v := (-10003 : Int32)) (by decide) (n := 18) rfl ?_
    cases hm
    exact go_iret C dX4_remove_18
  · have hm := bx_n c1 hm
    refine go_iload_n C dX4_remove_4 rfl 1 rfl (n := 5) rfl ?_
    refine go_aload_n C dX4_remove_5 rfl 0 rfl (n := 6) rfl ?_
    refine go_get C dX4_remove_6 (mf4_2 q cI cZ σ) rfl inX4 (by decide) fl_X4_73 (n := 9) rfl ?_
    refine go_iconst C dX4_remove_9 (v := (-1 : Int32)) (by decide) (n := 10) rfl ?_
    refine go_ixor C dX4_remove_10 (n := 11) rfl ?_
    refine go_iand C dX4_remove_11 (n := 12) rfl ?_
    refine go_if_eq C 19 dX4_remove_12 (by decide) (n := 15) rfl (fun c2 => ?_) (fun c2 => ?_)
    · have hm := bx_p c2 hm
      refine go_aload_n C dX4_remove_19 rfl 0 rfl (n := 20) rfl ?_
      obtain ⟨u3, e4, hm⟩ := bx_b hm
      refine go_callVi C dX4_remove_20 mw_X4_boxMany ml_X4_80 (rest := []) (ktX4_boxMany e4) (mo4 q cI cZ σ) rfl (by decide) rfl rfl (Nat.le_of_ble_eq_true rfl) (n := 23) rfl ?_
      refine go_istore_n C dX4_remove_23 rfl (by decide) (lv' := [(2, .int u3), (0, .ref (q 0)), (1, .int v1)]) rfl (n := 24) rfl ?_
      refine go_aload_n C dX4_remove_24 rfl 1 rfl (n := 25) rfl ?_
      obtain ⟨u5, e6, hm⟩ := bx_b hm
      refine go_callVv C dX4_remove_25 mw_X4_beginChange ml_X4_83 (rest := []) (ktX4_beginChange e6) (mo4 q cI cZ σ) rfl (by decide) rfl rfl (Nat.le_of_ble_eq_true rfl) (n := 28) rfl ?_
      refine go_aload_n C dX4_remove_28 rfl 1 rfl (n := 29) rfl ?_
      refine go_dup C dX4_remove_29 rfl (n := 30) rfl ?_
      refine go_get C dX4_remove_30 (mf4_2 q cI cZ u5) rfl inX4 (by decide) fl_X4_73 (n := 33) rfl ?_
      refine go_iload_n C dX4_remove_33 rfl 2 rfl (n := 34) rfl ?_
      refine go_iconst C dX4_remove_34 (v := (-1 : Int32)) (by decide) (n := 35) rfl ?_
      refine go_ixor C dX4_remove_35 (n := 36) rfl ?_
      refine go_iand C dX4_remove_36 (n := 37) rfl ?_
      obtain ⟨σ7, z8, hm⟩ := bx_lt hm
      refine go_put C dX4_remove_37 (ws' := (bx_mw q cI cZ σ7)) (by rw [z8]; exact (mp4_2 q cI cZ u5 ((u5.1 0 2) &&& (v1 ^^^ (-1 : Int32))))) rfl inX4 tyX4_ok nmX4 (by decide) fl_X4_73 rfl (ty := .int) (by decide +kernel) (by rfl) (by rfl) (n := 40) rfl ?_
      refine go_aload_n C dX4_remove_40 rfl 1 rfl (n := 41) rfl ?_
      obtain ⟨u9, e10, hm⟩ := bx_b hm
      refine go_callVv C dX4_remove_41 mw_X4_layAll ml_X4_90 (rest := []) (ktX4_layAll e10) (mo4 q cI cZ σ7) rfl (by decide) rfl rfl (Nat.le_of_ble_eq_true rfl) (n := 44) rfl ?_
      refine go_aload_n C dX4_remove_44 rfl 1 rfl (n := 45) rfl ?_
      refine go_iconst C dX4_remove_45 (v := (0 : Int32)) (by decide) (n := 46) rfl ?_
      obtain ⟨u11, e12, hm⟩ := bx_b hm
      refine go_callVv C dX4_remove_46 mw_X4_endChange ml_X4_93 (rest := []) (ktX4_endChange e12) (mo4 q cI cZ u9) rfl (by decide) rfl rfl (Nat.le_of_ble_eq_true rfl) (n := 49) rfl ?_
      refine go_iload_n C dX4_remove_49 rfl 0 rfl (n := 50) rfl ?_
      refine go_aload_n C dX4_remove_50 rfl 1 rfl (n := 51) rfl ?_
      obtain ⟨u13, e14, hm⟩ := bx_b hm
      refine go_callVi C dX4_remove_51 mw_X4_boxMany ml_X4_80 (rest := [.int u3]) (ktX4_boxMany e14) (mo4 q cI cZ u11) rfl (by decide) rfl rfl (Nat.le_of_ble_eq_true rfl) (n := 54) rfl ?_
      refine go_isub C dX4_remove_54 (n := 55) rfl ?_
      cases hm
      exact go_iret C dX4_remove_55
    · have hm := bx_n c2 hm
      refine go_sipush C dX4_remove_15 (v := (-10003 : Int32)) (by decide) (n := 18) rfl ?_
      cases hm
      exact go_iret C dX4_remove_18
def mX4_touch_12 (v1 : Int32) (s0 : Int32) (σ : bx_St) : Option (Int32 × bx_St) := (Option.bind (mX4_beginChange σ) fun u1 => (if bx_bo v1 then (Option.bind (mX4_layAll (bx_up u1 0 3 v1)) fun u4 => (Option.bind (mX4_endChange (0 : Int32) u4) fun u6 => (some (s0, u6)))) else none))
set_option maxRecDepth 8000 in
set_option maxHeartbeats 4000000 in
theorem mX4_touch_12_ok (C : bx_Cx p s m args meth c 3 A D cI cZ RX4 cX4_touch (some .int)) : ∀ (v1 : Int32) (s0 : Int32) (σ : bx_St) (u : (Int32 × bx_St)), mX4_touch_12 v1 s0 σ = some u → bx_Go p l e (bx_rm 5) s m args below meth c 3 A D (MQ below (bx_Q (some (.int u.1)) (bx_mw q cI cZ u.2) D A) args s 0 0 A) (bx_mw q cI cZ σ) 12 [(0, .ref (q 0)), (1, .int v1)] [.int s0] := by
  intro v1 s0 σ u hm
  unfold mX4_touch_12 at hm
  refine go_istore_n C dX4_touch_12 rfl (by decide) (lv' := [(2, .int s0), (0, .ref (q 0)), (1, .int v1)]) rfl (n := 13) rfl ?_
  refine go_aload_n C dX4_touch_13 rfl 1 rfl (n := 14) rfl ?_
  obtain ⟨u1, e2, hm⟩ := bx_b hm
  refine go_callVv C dX4_touch_14 mw_X4_beginChange ml_X4_83 (rest := []) (ktX4_beginChange e2) (mo4 q cI cZ σ) rfl (by decide) rfl rfl (Nat.le_of_ble_eq_true rfl) (n := 17) rfl ?_
  refine go_aload_n C dX4_touch_17 rfl 1 rfl (n := 18) rfl ?_
  refine go_iload_n C dX4_touch_18 rfl 2 rfl (n := 19) rfl ?_
  obtain ⟨b3, hm⟩ := bx_g hm
  refine go_put C dX4_touch_19 (mp4_3 q cI cZ u1 v1) rfl inX4 tyX4_ok nmX4 (by decide) fl_X4_101 rfl (ty := .boolean) (by decide +kernel) (bx_nb b3) (bx_fb b3) (n := 22) rfl ?_
  refine go_aload_n C dX4_touch_22 rfl 1 rfl (n := 23) rfl ?_
  obtain ⟨u4, e5, hm⟩ := bx_b hm
  refine go_callVv C dX4_touch_23 mw_X4_layAll ml_X4_90 (rest := []) (ktX4_layAll e5) (mo4 q cI cZ (bx_up u1 0 3 v1)) rfl (by decide) rfl rfl (Nat.le_of_ble_eq_true rfl) (n := 26) rfl ?_
  refine go_aload_n C dX4_touch_26 rfl 1 rfl (n := 27) rfl ?_
  refine go_iconst C dX4_touch_27 (v := (0 : Int32)) (by decide) (n := 28) rfl ?_
  obtain ⟨u6, e7, hm⟩ := bx_b hm
  refine go_callVv C dX4_touch_28 mw_X4_endChange ml_X4_93 (rest := []) (ktX4_endChange e7) (mo4 q cI cZ u4) rfl (by decide) rfl rfl (Nat.le_of_ble_eq_true rfl) (n := 31) rfl ?_
  refine go_iload_n C dX4_touch_31 rfl 0 rfl (n := 32) rfl ?_
  cases hm
  exact go_iret C dX4_touch_32
def mX4_touch (v1 : Int32) (σ : bx_St) : Option (Int32 × bx_St) := (if (σ.1 0 3) = 0 then (mX4_touch_12 v1 (0 : Int32) σ) else (mX4_touch_12 v1 (1 : Int32) σ))
set_option maxRecDepth 8000 in
set_option maxHeartbeats 4000000 in
theorem ktX4_touch {l : Launch} {D : va_G} {cI cZ : ClassId} {q : Nat → Nat} {v1 : Int32} {σ : bx_St} {u : (Int32 × bx_St)} (hm : mX4_touch v1 σ = some u) : bx_Mt l D cI cZ yX4_touch cX4_touch 3 (some .int) 5 [.ref (q 0), .int v1] (bx_mw q cI cZ σ) (some (.int u.1)) (bx_mw q cI cZ u.2) := by
  refine bx_mk (by decide) (Nat.le_of_ble_eq_true rfl) (lv := [(0, .ref (q 0)), (1, .int v1)]) rfl (fun p e s m args below meth c A C => ?_)
  replace C : bx_Cx p s m args meth c 3 A D cI cZ RX4 cX4_touch (some .int) := C
  unfold mX4_touch at hm
  refine go_aload_n C dX4_touch_0 rfl 0 rfl (n := 1) rfl ?_
  refine go_get C dX4_touch_1 (mf4_3 q cI cZ σ) rfl inX4 (by decide) fl_X4_101 (n := 4) rfl ?_
  refine go_if_eq C 11 dX4_touch_4 (by decide) (n := 7) rfl (fun c1 => ?_) (fun c1 => ?_)
  · have hm := bx_p c1 hm
    refine go_iconst C dX4_touch_11 (v := (0 : Int32)) (by decide) (n := 12) rfl ?_
    refine go_lv (lv' := [(0, .ref (q 0)), (1, .int v1)]) [0, 1] rfl ?_
    exact mX4_touch_12_ok C _ _ _ _ hm
  · have hm := bx_n c1 hm
    refine go_iconst C dX4_touch_7 (v := (1 : Int32)) (by decide) (n := 8) rfl ?_
    refine go_goto C 12 dX4_touch_8 (by decide) ?_
    refine go_lv (lv' := [(0, .ref (q 0)), (1, .int v1)]) [0, 1] rfl ?_
    exact mX4_touch_12_ok C _ _ _ _ hm
end
