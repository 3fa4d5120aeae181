section
variable {p : Program} {l : Launch} {e : Env} {s : State} {m : MethodId} {args : Array Value} {below : List Frame} {meth : Method} {c : Code} {A : Nat → Prop} {D : va_G} {cI cZ : ClassId} {q : Nat → Nat} {ws : va_W}
def mX4_letNow_117 (K38 : Int32 → Int32 → Int32 → Int32 → Int32 → Int32 → bx_St → Option Int32) (v1 : Int32) (v2 : Int32) (v3 : Int32) (v4 : Int32) (v6 : Int32) (s0 : Int32) (σ : bx_St) : Option Int32 := (K38 v1 v2 v3 v4 s0 (v6 + 1) σ)
set_option maxRecDepth 8000 in
set_option maxHeartbeats 4000000 in
theorem mX4_letNow_117_ok (C : bx_Cx p s m args meth c 8 A D cI cZ RX4 cX4_letNow (some .int)) (K38 : Int32 → Int32 → Int32 → Int32 → Int32 → Int32 → bx_St → Option Int32) (HK38 : ∀ (v1 : Int32) (v2 : Int32) (v3 : Int32) (v4 : Int32) (v5 : Int32) (v6 : Int32) (σ : bx_St) (u : Int32), K38 v1 v2 v3 v4 v5 v6 σ = some u → bx_Go p l e (bx_rm 3) s m args below meth c 8 A D (MQ below (bx_Q (some (.int u)) (bx_mw q cI cZ σ) D A) args s 0 0 A) (bx_mw q cI cZ σ) 38 [(0, .ref (q 0)), (1, .int v1), (2, .int v2), (3, .int v3), (4, .int v4), (5, .int v5), (6, .int v6)] []) : ∀ (v1 : Int32) (v2 : Int32) (v3 : Int32) (v4 : Int32) (v6 : Int32) (s0 : Int32) (σ : bx_St) (u : Int32), mX4_letNow_117 K38 v1 v2 v3 v4 v6 s0 σ = some u → bx_Go p l e (bx_rm 3) s m args below meth c 8 A D (MQ below (bx_Q (some (.int u)) (bx_mw q cI cZ σ) D A) args s 0 0 A) (bx_mw q cI cZ σ) 117 [(0, .ref (q 0)), (1, .int v1), (2, .int v2), (3, .int v3), (4, .int v4), (6, .int v6)] [.int s0] := by
  intro v1 v2 v3 v4 v6 s0 σ u hm
  unfold mX4_letNow_117 at hm
  refine go_istore C dX4_letNow_117 (by decide) (lv' := [(5, .int s0), (0, .ref (q 0)), (1, .int v1), (2, .int v2), (3, .int v3), (4, .int v4), (6, .int v6)]) rfl (n := 119) rfl ?_
  refine go_iinc C (j := 6) dX4_letNow_119 rfl (v := (v6 + 1)) rfl (by decide) (lv' := [(6, .int (v6 + 1)), (5, .int s0), (0, .ref (q 0)), (1, .int v1), (2, .int v2), (3, .int v3), (4, .int v4)]) rfl (n := 122) rfl ?_
  refine go_goto C 38 dX4_letNow_122 (by decide) ?_
  refine go_lv (lv' := [(0, .ref (q 0)), (1, .int v1), (2, .int v2), (3, .int v3), (4, .int v4), (5, .int s0), (6, .int (v6 + 1))]) [2, 3, 4, 5, 6, 1, 0] rfl ?_
  exact HK38 _ _ _ _ _ _ _ _ hm
def mX4_letNow_115 (K38 : Int32 → Int32 → Int32 → Int32 → Int32 → Int32 → bx_St → Option Int32) (v1 : Int32) (v2 : Int32) (v3 : Int32) (v4 : Int32) (v5 : Int32) (v6 : Int32) (σ : bx_St) : Option Int32 := (mX4_letNow_117 K38 v1 v2 v3 v4 v6 v5 σ)
set_option maxRecDepth 8000 in
set_option maxHeartbeats 4000000 in
theorem mX4_letNow_115_ok (C : bx_Cx p s m args meth c 8 A D cI cZ RX4 cX4_letNow (some .int)) (K38 : Int32 → Int32 → Int32 → Int32 → Int32 → Int32 → bx_St → Option Int32) (HK38 : ∀ (v1 : Int32) (v2 : Int32) (v3 : Int32) (v4 : Int32) (v5 : Int32) (v6 : Int32) (σ : bx_St) (u : Int32), K38 v1 v2 v3 v4 v5 v6 σ = some u → bx_Go p l e (bx_rm 3) s m args below meth c 8 A D (MQ below (bx_Q (some (.int u)) (bx_mw q cI cZ σ) D A) args s 0 0 A) (bx_mw q cI cZ σ) 38 [(0, .ref (q 0)), (1, .int v1), (2, .int v2), (3, .int v3), (4, .int v4), (5, .int v5), (6, .int v6)] []) : ∀ (v1 : Int32) (v2 : Int32) (v3 : Int32) (v4 : Int32) (v5 : Int32) (v6 : Int32) (σ : bx_St) (u : Int32), mX4_letNow_115 K38 v1 v2 v3 v4 v5 v6 σ = some u → bx_Go p l e (bx_rm 3) s m args below meth c 8 A D (MQ below (bx_Q (some (.int u)) (bx_mw q cI cZ σ) D A) args s 0 0 A) (bx_mw q cI cZ σ) 115 [(0, .ref (q 0)), (1, .int v1), (2, .int v2), (3, .int v3), (4, .int v4), (5, .int v5), (6, .int v6)] [] := by
  intro v1 v2 v3 v4 v5 v6 σ u hm
  unfold mX4_letNow_115 at hm
  refine go_iload C dX4_letNow_115 5 rfl (n := 117) rfl ?_
  refine go_lv (lv' := [(0, .ref (q 0)), (1, .int v1), (2, .int v2), (3, .int v3), (4, .int v4), (6, .int v6)]) [0, 1, 2, 3, 4, 6] rfl ?_
  exact mX4_letNow_117_ok C _ HK38 _ _ _ _ _ _ _ _ hm
def mX4_letNow_110 (K38 : Int32 → Int32 → Int32 → Int32 → Int32 → Int32 → bx_St → Option Int32) (v1 : Int32) (v2 : Int32) (v3 : Int32) (v4 : Int32) (v6 : Int32) (v7 : Int32) (σ : bx_St) : Option Int32 := (mX4_letNow_117 K38 v1 v2 v3 v4 v6 v7 σ)
set_option maxRecDepth 8000 in
set_option maxHeartbeats 4000000 in
theorem mX4_letNow_110_ok (C : bx_Cx p s m args meth c 8 A D cI cZ RX4 cX4_letNow (some .int)) (K38 : Int32 → Int32 → Int32 → Int32 → Int32 → Int32 → bx_St → Option Int32) (HK38 : ∀ (v1 : Int32) (v2 : Int32) (v3 : Int32) (v4 : Int32) (v5 : Int32) (v6 : Int32) (σ : bx_St) (u : Int32), K38 v1 v2 v3 v4 v5 v6 σ = some u → bx_Go p l e (bx_rm 3) s m args below meth c 8 A D (MQ below (bx_Q (some (.int u)) (bx_mw q cI cZ σ) D A) args s 0 0 A) (bx_mw q cI cZ σ) 38 [(0, .ref (q 0)), (1, .int v1), (2, .int v2), (3, .int v3), (4, .int v4), (5, .int v5), (6, .int v6)] []) : ∀ (v1 : Int32) (v2 : Int32) (v3 : Int32) (v4 : Int32) (v6 : Int32) (v7 : Int32) (σ : bx_St) (u : Int32), mX4_letNow_110 K38 v1 v2 v3 v4 v6 v7 σ = some u → bx_Go p l e (bx_rm 3) s m args below meth c 8 A D (MQ below (bx_Q (some (.int u)) (bx_mw q cI cZ σ) D A) args s 0 0 A) (bx_mw q cI cZ σ) 110 [(0, .ref (q 0)), (1, .int v1), (2, .int v2), (3, .int v3), (4, .int v4), (6, .int v6), (7, .int v7)] [] := by
  intro v1 v2 v3 v4 v6 v7 σ u hm
  unfold mX4_letNow_110 at hm
  refine go_iload C dX4_letNow_110 6 rfl (n := 112) rfl ?_
  refine go_goto C 117 dX4_letNow_112 (by decide) ?_
  refine go_lv (lv' := [(0, .ref (q 0)), (1, .int v1), (2, .int v2), (3, .int v3), (4, .int v4), (6, .int v6)]) [0, 1, 2, 3, 4, 5] rfl ?_
  exact mX4_letNow_117_ok C _ HK38 _ _ _ _ _ _ _ _ hm
def mX4_letNow_78 (K38 : Int32 → Int32 → Int32 → Int32 → Int32 → Int32 → bx_St → Option Int32) (v1 : Int32) (v2 : Int32) (v3 : Int32) (v4 : Int32) (v5 : Int32) (v6 : Int32) (s0 : Int32) (σ : bx_St) : Option Int32 := (if s0 = (-10001 : Int32) then (mX4_letNow_115 K38 v1 v2 v3 v4 v5 v6 σ) else (if v4 < s0 then (mX4_letNow_115 K38 v1 v2 v3 v4 v5 v6 σ) else (if v5 = (-10001 : Int32) then (mX4_letNow_110 K38 v1 v2 v3 v4 v6 s0 σ) else (if v5 ≤ s0 then (mX4_letNow_115 K38 v1 v2 v3 v4 v5 v6 σ) else (mX4_letNow_110 K38 v1 v2 v3 v4 v6 s0 σ)))))
set_option maxRecDepth 8000 in
set_option maxHeartbeats 4000000 in
theorem mX4_letNow_78_ok (C : bx_Cx p s m args meth c 8 A D cI cZ RX4 cX4_letNow (some .int)) (K38 : Int32 → Int32 → Int32 → Int32 → Int32 → Int32 → bx_St → Option Int32) (HK38 : ∀ (v1 : Int32) (v2 : Int32) (v3 : Int32) (v4 : Int32) (v5 : Int32) (v6 : Int32) (σ : bx_St) (u : Int32), K38 v1 v2 v3 v4 v5 v6 σ = some u → bx_Go p l e (bx_rm 3) s m args below meth c 8 A D (MQ below (bx_Q (some (.int u)) (bx_mw q cI cZ σ) D A) args s 0 0 A) (bx_mw q cI cZ σ) 38 [(0, .ref (q 0)), (1, .int v1), (2, .int v2), (3, .int v3), (4, .int v4), (5, .int v5), (6, .int v6)] []) : ∀ (v1 : Int32) (v2 : Int32) (v3 : Int32) (v4 : Int32) (v5 : Int32) (v6 : Int32) (s0 : Int32) (σ : bx_St) (u : Int32), mX4_letNow_78 K38 v1 v2 v3 v4 v5 v6 s0 σ = some u → bx_Go p l e (bx_rm 3) s m args below meth c 8 A D (MQ below (bx_Q (some (.int u)) (bx_mw q cI cZ σ) D A) args s 0 0 A) (bx_mw q cI cZ σ) 78 [(0, .ref (q 0)), (1, .int v1), (2, .int v2), (3, .int v3), (4, .int v4), (5, .int v5), (6, .int v6)] [.int s0] := by
  intro v1 v2 v3 v4 v5 v6 s0 σ u hm
  unfold mX4_letNow_78 at hm
  refine go_istore C dX4_letNow_78 (by decide) (lv' := [(7, .int s0), (0, .ref (q 0)), (1, .int v1), (2, .int v2), (3, .int v3), (4, .int v4), (5, .int v5), (6, .int v6)]) rfl (n := 80) rfl ?_
  refine go_iload C dX4_letNow_80 0 rfl (n := 82) rfl ?_
  refine go_sipush C dX4_letNow_82 (v := (-10001 : Int32)) (by decide) (n := 85) rfl ?_
  refine go_icmp_eq C 115 dX4_letNow_85 (by decide) (n := 88) rfl (fun c1 => ?_) (fun c1 => ?_)
  · have hm := bx_p c1 hm
    refine go_lv (lv' := [(0, .ref (q 0)), (1, .int v1), (2, .int v2), (3, .int v3), (4, .int v4), (5, .int v5), (6, .int v6)]) [1, 2, 3, 4, 5, 6, 7] rfl ?_
    exact mX4_letNow_115_ok C _ HK38 _ _ _ _ _ _ _ _ hm
  · have hm := bx_n c1 hm
    refine go_iload C dX4_letNow_88 0 rfl (n := 90) rfl ?_
    refine go_iload C dX4_letNow_90 5 rfl (n := 92) rfl ?_
    refine go_icmp_gt C 115 dX4_letNow_92 (by decide) (n := 95) rfl (fun c2 => ?_) (fun c2 => ?_)
    · have hm := bx_p c2 hm
      refine go_lv (lv' := [(0, .ref (q 0)), (1, .int v1), (2, .int v2), (3, .int v3), (4, .int v4), (5, .int v5), (6, .int v6)]) [1, 2, 3, 4, 5, 6, 7] rfl ?_
      exact mX4_letNow_115_ok C _ HK38 _ _ _ _ _ _ _ _ hm
    · have hm := bx_n c2 hm
      refine go_iload C dX4_letNow_95 6 rfl (n := 97) rfl ?_
      refine go_sipush C dX4_letNow_97 (v := (-10001 : Int32)) (by decide) (n := 100) rfl ?_
      refine go_icmp_eq C 110 dX4_letNow_100 (by decide) (n := 103) rfl (fun c3 => ?_) (fun c3 => ?_)
      · have hm := bx_p c3 hm
        refine go_lv (lv' := [(0, .ref (q 0)), (1, .int v1), (2, .int v2), (3, .int v3), (4, .int v4), (6, .int v6), (7, .int s0)]) [1, 2, 3, 4, 5, 7, 0] rfl ?_
        exact mX4_letNow_110_ok C _ HK38 _ _ _ _ _ _ _ _ hm
      · have hm := bx_n c3 hm
        refine go_iload C dX4_letNow_103 0 rfl (n := 105) rfl ?_
        refine go_iload C dX4_letNow_105 6 rfl (n := 107) rfl ?_
        refine go_icmp_ge C 115 dX4_letNow_107 (by decide) (n := 110) rfl (fun c4 => ?_) (fun c4 => ?_)
        · have hm := bx_p c4 hm
          refine go_lv (lv' := [(0, .ref (q 0)), (1, .int v1), (2, .int v2), (3, .int v3), (4, .int v4), (5, .int v5), (6, .int v6)]) [1, 2, 3, 4, 5, 6, 7] rfl ?_
          exact mX4_letNow_115_ok C _ HK38 _ _ _ _ _ _ _ _ hm
        · have hm := bx_n c4 hm
          refine go_lv (lv' := [(0, .ref (q 0)), (1, .int v1), (2, .int v2), (3, .int v3), (4, .int v4), (6, .int v6), (7, .int s0)]) [1, 2, 3, 4, 5, 7, 0] rfl ?_
          exact mX4_letNow_110_ok C _ HK38 _ _ _ _ _ _ _ _ hm
def mX4_letNow_75 (K38 : Int32 → Int32 → Int32 → Int32 → Int32 → Int32 → bx_St → Option Int32) (v1 : Int32) (v2 : Int32) (v3 : Int32) (v4 : Int32) (v5 : Int32) (v6 : Int32) (σ : bx_St) : Option Int32 := (mX4_letNow_78 K38 v1 v2 v3 v4 v5 v6 (-10001 : Int32) σ)
set_option maxRecDepth 8000 in
set_option maxHeartbeats 4000000 in
theorem mX4_letNow_75_ok (C : bx_Cx p s m args meth c 8 A D cI cZ RX4 cX4_letNow (some .int)) (K38 : Int32 → Int32 → Int32 → Int32 → Int32 → Int32 → bx_St → Option Int32) (HK38 : ∀ (v1 : Int32) (v2 : Int32) (v3 : Int32) (v4 : Int32) (v5 : Int32) (v6 : Int32) (σ : bx_St) (u : Int32), K38 v1 v2 v3 v4 v5 v6 σ = some u → bx_Go p l e (bx_rm 3) s m args below meth c 8 A D (MQ below (bx_Q (some (.int u)) (bx_mw q cI cZ σ) D A) args s 0 0 A) (bx_mw q cI cZ σ) 38 [(0, .ref (q 0)), (1, .int v1), (2, .int v2), (3, .int v3), (4, .int v4), (5, .int v5), (6, .int v6)] []) : ∀ (v1 : Int32) (v2 : Int32) (v3 : Int32) (v4 : Int32) (v5 : Int32) (v6 : Int32) (σ : bx_St) (u : Int32), mX4_letNow_75 K38 v1 v2 v3 v4 v5 v6 σ = some u → bx_Go p l e (bx_rm 3) s m args below meth c 8 A D (MQ below (bx_Q (some (.int u)) (bx_mw q cI cZ σ) D A) args s 0 0 A) (bx_mw q cI cZ σ) 75 [(0, .ref (q 0)), (1, .int v1), (2, .int v2), (3, .int v3), (4, .int v4), (5, .int v5), (6, .int v6)] [] := by
  intro v1 v2 v3 v4 v5 v6 σ u hm
  unfold mX4_letNow_75 at hm
  refine go_sipush C dX4_letNow_75 (v := (-10001 : Int32)) (by decide) (n := 78) rfl ?_
  refine go_lv (lv' := [(0, .ref (q 0)), (1, .int v1), (2, .int v2), (3, .int v3), (4, .int v4), (5, .int v5), (6, .int v6)]) [0, 1, 2, 3, 4, 5, 6] rfl ?_
  exact mX4_letNow_78_ok C _ HK38 _ _ _ _ _ _ _ _ _ hm
def mX4_letNow_38 : Nat → Int32 → Int32 → Int32 → Int32 → Int32 → Int32 → bx_St → Option Int32
  | 0, _, _, _, _, _, _, _ => none
  | n + 1, v1, v2, v3, v4, v5, v6, σ => (if (12 : Int32) ≤ v6 then (some v5) else (if v6 = v1 then (mX4_letNow_75 (mX4_letNow_38 n) v1 v2 v3 v4 v5 v6 σ) else (if (mX4_has (σ.1 0 2) v6) = 0 then (mX4_letNow_75 (mX4_letNow_38 n) v1 v2 v3 v4 v5 v6 σ) else (Option.bind (mX4_letBy v1 v6 v2 v3 σ) fun u4 => (mX4_letNow_78 (mX4_letNow_38 n) v1 v2 v3 v4 v5 v6 u4 σ)))))
set_option maxRecDepth 8000 in
set_option maxHeartbeats 4000000 in
theorem mX4_letNow_38_ok (C : bx_Cx p s m args meth c 8 A D cI cZ RX4 cX4_letNow (some .int)) : ∀ (n : Nat) (v1 : Int32) (v2 : Int32) (v3 : Int32) (v4 : Int32) (v5 : Int32) (v6 : Int32) (σ : bx_St) (u : Int32), mX4_letNow_38 n v1 v2 v3 v4 v5 v6 σ = some u → bx_Go p l e (bx_rm 3) s m args below meth c 8 A D (MQ below (bx_Q (some (.int u)) (bx_mw q cI cZ σ) D A) args s 0 0 A) (bx_mw q cI cZ σ) 38 [(0, .ref (q 0)), (1, .int v1), (2, .int v2), (3, .int v3), (4, .int v4), (5, .int v5), (6, .int v6)] [] := by
  intro n
  induction n with
  | zero =>
    intro v1 v2 v3 v4 v5 v6 σ u hm
    cases hm
  | succ n ih =>
    intro v1 v2 v3 v4 v5 v6 σ u hm
    rw [mX4_letNow_38] at hm
    refine go_iload C dX4_letNow_38 6 rfl (n := 40) rfl ?_
    refine go_bipush C dX4_letNow_40 (v := (12 : Int32)) (by decide) (n := 42) rfl ?_
    refine go_icmp_ge C 125 dX4_letNow_42 (by decide) (n := 45) rfl (fun c1 => ?_) (fun c1 => ?_)
    · have hm := bx_p c1 hm
      refine go_iload C dX4_letNow_125 5 rfl (n := 127) rfl ?_
      cases hm
      exact go_iret C dX4_letNow_127
    · have hm := bx_n c1 hm
      refine go_iload C dX4_letNow_45 6 rfl (n := 47) rfl ?_
      refine go_iload_n C dX4_letNow_47 rfl 1 rfl (n := 48) rfl ?_
      refine go_icmp_eq C 75 dX4_letNow_48 (by decide) (n := 51) rfl (fun c2 => ?_) (fun c2 => ?_)
      · have hm := bx_p c2 hm
        refine go_lv (lv' := [(0, .ref (q 0)), (1, .int v1), (2, .int v2), (3, .int v3), (4, .int v4), (5, .int v5), (6, .int v6)]) [0, 1, 2, 3, 4, 5, 6] rfl ?_
        exact mX4_letNow_75_ok C _ ih _ _ _ _ _ _ _ _ hm
      · have hm := bx_n c2 hm
        refine go_aload_n C dX4_letNow_51 rfl 0 rfl (n := 52) rfl ?_
        refine go_get C dX4_letNow_52 (mf4_2 q cI cZ σ) rfl inX4 (by decide) fl_X4_73 (n := 55) rfl ?_
        refine go_iload C dX4_letNow_55 6 rfl (n := 57) rfl ?_
        refine go_callSi C dX4_letNow_57 mw_X4_has ml_X4_86 (rest := []) (ktX4_has rfl) (by decide) rfl rfl (Nat.le_of_ble_eq_true rfl) (n := 60) rfl ?_
        refine go_if_eq C 75 dX4_letNow_60 (by decide) (n := 63) rfl (fun c3 => ?_) (fun c3 => ?_)
        · have hm := bx_p c3 hm
          refine go_lv (lv' := [(0, .ref (q 0)), (1, .int v1), (2, .int v2), (3, .int v3), (4, .int v4), (5, .int v5), (6, .int v6)]) [0, 1, 2, 3, 4, 5, 6] rfl ?_
          exact mX4_letNow_75_ok C _ ih _ _ _ _ _ _ _ _ hm
        · have hm := bx_n c3 hm
          refine go_aload_n C dX4_letNow_63 rfl 0 rfl (n := 64) rfl ?_
          refine go_iload_n C dX4_letNow_64 rfl 1 rfl (n := 65) rfl ?_
          refine go_iload C dX4_letNow_65 6 rfl (n := 67) rfl ?_
          refine go_iload_n C dX4_letNow_67 rfl 2 rfl (n := 68) rfl ?_
          refine go_iload_n C dX4_letNow_68 rfl 3 rfl (n := 69) rfl ?_
          obtain ⟨u4, e5, hm⟩ := bx_b hm
          refine go_callVi C dX4_letNow_69 mw_X4_letBy ml_X4_208 (rest := []) (ktX4_letBy e5) (mo4 q cI cZ σ) rfl (by decide) rfl rfl (Nat.le_of_ble_eq_true rfl) (n := 72) rfl ?_
          refine go_goto C 78 dX4_letNow_72 (by decide) ?_
          refine go_lv (lv' := [(0, .ref (q 0)), (1, .int v1), (2, .int v2), (3, .int v3), (4, .int v4), (5, .int v5), (6, .int v6)]) [0, 1, 2, 3, 4, 5, 6] rfl ?_
          exact mX4_letNow_78_ok C _ ih _ _ _ _ _ _ _ _ _ hm
def mX4_letNow_28 (v1 : Int32) (v2 : Int32) (v3 : Int32) (s0 : Int32) (σ : bx_St) : Option Int32 := (mX4_letNow_38 bx_F v1 v2 v3 s0 (-10001 : Int32) (0 : Int32) σ)
set_option maxRecDepth 8000 in
set_option maxHeartbeats 4000000 in
theorem mX4_letNow_28_ok (C : bx_Cx p s m args meth c 8 A D cI cZ RX4 cX4_letNow (some .int)) : ∀ (v1 : Int32) (v2 : Int32) (v3 : Int32) (s0 : Int32) (σ : bx_St) (u : Int32), mX4_letNow_28 v1 v2 v3 s0 σ = some u → bx_Go p l e (bx_rm 3) s m args below meth c 8 A D (MQ below (bx_Q (some (.int u)) (bx_mw q cI cZ σ) D A) args s 0 0 A) (bx_mw q cI cZ σ) 28 [(0, .ref (q 0)), (1, .int v1), (2, .int v2), (3, .int v3)] [.int s0] := by
  intro v1 v2 v3 s0 σ u hm
  unfold mX4_letNow_28 at hm
  refine go_istore C dX4_letNow_28 (by decide) (lv' := [(4, .int s0), (0, .ref (q 0)), (1, .int v1), (2, .int v2), (3, .int v3)]) rfl (n := 30) rfl ?_
  refine go_sipush C dX4_letNow_30 (v := (-10001 : Int32)) (by decide) (n := 33) rfl ?_
  refine go_istore C dX4_letNow_33 (by decide) (lv' := [(5, .int (-10001 : Int32)), (4, .int s0), (0, .ref (q 0)), (1, .int v1), (2, .int v2), (3, .int v3)]) rfl (n := 35) rfl ?_
  refine go_iconst C dX4_letNow_35 (v := (0 : Int32)) (by decide) (n := 36) rfl ?_
  refine go_istore C dX4_letNow_36 (by decide) (lv' := [(6, .int (0 : Int32)), (5, .int (-10001 : Int32)), (4, .int s0), (0, .ref (q 0)), (1, .int v1), (2, .int v2), (3, .int v3)]) rfl (n := 38) rfl ?_
  refine go_lv (lv' := [(0, .ref (q 0)), (1, .int v1), (2, .int v2), (3, .int v3), (4, .int s0), (5, .int (-10001 : Int32)), (6, .int (0 : Int32))]) [3, 4, 5, 6, 2, 1, 0] rfl ?_
  exact mX4_letNow_38_ok C _ _ _ _ _ _ _ _ _ hm
def mX4_letNow (v1 : Int32) (v2 : Int32) (v3 : Int32) (σ : bx_St) : Option Int32 := (if v3 = (1 : Int32) then (Option.bind (mX4_highOf v1 v2 σ) fun u4 => (mX4_letNow_28 v1 v2 v3 ((999 : Int32) - u4) σ)) else (Option.bind (mX4_lowOf v1 v2 σ) fun u2 => (mX4_letNow_28 v1 v2 v3 (u2 + (999 : Int32)) σ)))
set_option maxRecDepth 8000 in
set_option maxHeartbeats 4000000 in
theorem ktX4_letNow {l : Launch} {D : va_G} {cI cZ : ClassId} {q : Nat → Nat} {v1 : Int32} {v2 : Int32} {v3 : Int32} {σ : bx_St} {u : Int32} (hm : mX4_letNow v1 v2 v3 σ = some u) : bx_Mt l D cI cZ yX4_letNow cX4_letNow 8 (some .int) 3 [.ref (q 0), .int v1, .int v2, .int v3] (bx_mw q cI cZ σ) (some (.int u)) (bx_mw q cI cZ σ) := by
  refine bx_mk (by decide) (Nat.le_of_ble_eq_true rfl) (lv := [(0, .ref (q 0)), (1, .int v1), (2, .int v2), (3, .int v3)]) rfl (fun p e s m args below meth c A C => ?_)
  replace C : bx_Cx p s m args meth c 8 A D cI cZ RX4 cX4_letNow (some .int) := C
  unfold mX4_letNow at hm
  refine go_iload_n C dX4_letNow_0 rfl 3 rfl (n := 1) rfl ?_
  refine go_iconst C dX4_letNow_1 (v := (1 : Int32)) (by decide) (n := 2) rfl ?_
  refine go_icmp_ne C 18 dX4_letNow_2 (by decide) (n := 5) rfl (fun c1 => ?_) (fun c1 => ?_)
  · have hm := bx_n c1 hm
    refine go_aload_n C dX4_letNow_18 rfl 0 rfl (n := 19) rfl ?_
    refine go_iload_n C dX4_letNow_19 rfl 1 rfl (n := 20) rfl ?_
    refine go_iload_n C dX4_letNow_20 rfl 2 rfl (n := 21) rfl ?_
    obtain ⟨u2, e3, hm⟩ := bx_b hm
    refine go_callVi C dX4_letNow_21 mw_X4_lowOf ml_X4_104 (rest := []) (ktX4_lowOf e3) (mo4 q cI cZ σ) rfl (by decide) rfl rfl (Nat.le_of_ble_eq_true rfl) (n := 24) rfl ?_
    refine go_sipush C dX4_letNow_24 (v := (999 : Int32)) (by decide) (n := 27) rfl ?_
    refine go_iadd C dX4_letNow_27 (n := 28) rfl ?_
    refine go_lv (lv' := [(0, .ref (q 0)), (1, .int v1), (2, .int v2), (3, .int v3)]) [0, 1, 2, 3] rfl ?_
    exact mX4_letNow_28_ok C _ _ _ _ _ _ hm
  · have hm := bx_p c1 hm
    refine go_sipush C dX4_letNow_5 (v := (999 : Int32)) (by decide) (n := 8) rfl ?_
    refine go_aload_n C dX4_letNow_8 rfl 0 rfl (n := 9) rfl ?_
    refine go_iload_n C dX4_letNow_9 rfl 1 rfl (n := 10) rfl ?_
    refine go_iload_n C dX4_letNow_10 rfl 2 rfl (n := 11) rfl ?_
    obtain ⟨u4, e5, hm⟩ := bx_b hm
    refine go_callVi C dX4_letNow_11 mw_X4_highOf ml_X4_107 (rest := [.int (999 : Int32)]) (ktX4_highOf e5) (mo4 q cI cZ σ) rfl (by decide) rfl rfl (Nat.le_of_ble_eq_true rfl) (n := 14) rfl ?_
    refine go_isub C dX4_letNow_14 (n := 15) rfl ?_
    refine go_goto C 28 dX4_letNow_15 (by decide) ?_
    refine go_lv (lv' := [(0, .ref (q 0)), (1, .int v1), (2, .int v2), (3, .int v3)]) [0, 1, 2, 3] rfl ?_
    exact mX4_letNow_28_ok C _ _ _ _ _ _ hm
def mX4_mixBox_33 : Nat → Int32 → Int32 → bx_St → Option bx_St
  | 0, _, _, _ => none
  | n + 1, v1, v2, σ => (if (3 : Int32) ≤ v2 then (some σ) else (Option.bind (mX4_letNow v1 v2 (-1 : Int32) σ) fun u2 => (Option.bind (mX4_letNow v1 v2 (1 : Int32) (mX4_mix u2.toInt64 σ)) fun u4 => (mX4_mixBox_33 n v1 (v2 + 1) (mX4_mix u4.toInt64 (mX4_mix u2.toInt64 σ))))))
set_option maxRecDepth 8000 in
set_option maxHeartbeats 4000000 in
theorem mX4_mixBox_33_ok (C : bx_Cx p s m args meth c 3 A D cI cZ RX4 cX4_mixBox none) : ∀ (n : Nat) (v1 : Int32) (v2 : Int32) (σ : bx_St) (u : bx_St), mX4_mixBox_33 n v1 v2 σ = some u → bx_Go p l e (bx_rm 5) s m args below meth c 3 A D (MQ below (bx_Q none (bx_mw q cI cZ u) D A) args s 0 0 A) (bx_mw q cI cZ σ) 33 [(0, .ref (q 0)), (1, .int v1), (2, .int v2)] [] := by
  intro n
  induction n with
  | zero =>
    intro v1 v2 σ u hm
    cases hm
  | succ n ih =>
    intro v1 v2 σ u hm
    rw [mX4_mixBox_33] at hm
    refine go_iload_n C dX4_mixBox_33 rfl 2 rfl (n := 34) rfl ?_
    refine go_iconst C dX4_mixBox_34 (v := (3 : Int32)) (by decide) (n := 35) rfl ?_
    refine go_icmp_ge C 68 dX4_mixBox_35 (by decide) (n := 38) rfl (fun c1 => ?_) (fun c1 => ?_)
    · have hm := bx_p c1 hm
      cases hm
      exact go_vret C dX4_mixBox_68
    · have hm := bx_n c1 hm
      refine go_aload_n C dX4_mixBox_38 rfl 0 rfl (n := 39) rfl ?_
      refine go_aload_n C dX4_mixBox_39 rfl 0 rfl (n := 40) rfl ?_
      refine go_iload_n C dX4_mixBox_40 rfl 1 rfl (n := 41) rfl ?_
      refine go_iload_n C dX4_mixBox_41 rfl 2 rfl (n := 42) rfl ?_
      refine go_iconst C dX4_mixBox_42 (v := (-1 : Int32)) (by decide) (n := 43) rfl ?_
      obtain ⟨u2, e3, hm⟩ := bx_b hm
      refine go_callVi C dX4_mixBox_43 mw_X4_letNow ml_X4_212 (rest := [.ref (q 0)]) (ktX4_letNow e3) (mo4 q cI cZ σ) rfl (by decide) rfl rfl (Nat.le_of_ble_eq_true rfl) (n := 46) rfl ?_
      refine go_i2l C dX4_mixBox_46 (n := 47) rfl ?_
      refine go_callVv C dX4_mixBox_47 mw_X4_mix ml_X4_245 (rest := []) (ktX4_mix rfl) (mo4 q cI cZ σ) rfl (by decide) rfl rfl (Nat.le_of_ble_eq_true rfl) (n := 50) rfl ?_
      refine go_aload_n C dX4_mixBox_50 rfl 0 rfl (n := 51) rfl ?_
      refine go_aload_n C dX4_mixBox_51 rfl 0 rfl (n := 52) rfl ?_
      refine go_iload_n C dX4_mixBox_52 rfl 1 rfl (n := 53) rfl ?_
      refine go_iload_n C dX4_mixBox_53 rfl 2 rfl (n := 54) rfl ?_
      refine go_iconst C dX4_mixBox_54 (v := (1 : Int32)) (by decide) (n := 55) rfl ?_
      obtain ⟨u4, e5, hm⟩ := bx_b hm
      refine go_callVi C dX4_mixBox_55 mw_X4_letNow ml_X4_212 (rest := [.ref (q 0)]) (ktX4_letNow e5) (mo4 q cI cZ (mX4_mix u2.toInt64 σ)) rfl (by decide) rfl rfl (Nat.le_of_ble_eq_true rfl) (n := 58) rfl ?_
      refine go_i2l C dX4_mixBox_58 (n := 59) rfl ?_
      refine go_callVv C dX4_mixBox_59 mw_X4_mix ml_X4_245 (rest := []) (ktX4_mix rfl) (mo4 q cI cZ (mX4_mix u2.toInt64 σ)) rfl (by decide) rfl rfl (Nat.le_of_ble_eq_true rfl) (n := 62) rfl ?_
      refine go_iinc C (j := 2) dX4_mixBox_62 rfl (v := (v2 + 1)) rfl (by decide) (lv' := [(2, .int (v2 + 1)), (0, .ref (q 0)), (1, .int v1)]) rfl (n := 65) rfl ?_
      refine go_goto C 33 dX4_mixBox_65 (by decide) ?_
      refine go_lv (lv' := [(0, .ref (q 0)), (1, .int v1), (2, .int (v2 + 1))]) [1, 2, 0] rfl ?_
      exact ih _ _ _ _ hm
def mX4_mixBox_8 : Nat → Int32 → Int32 → bx_St → Option bx_St
  | 0, _, _, _ => none
  | n + 1, v1, v2, σ => (if (9 : Int32) ≤ v2 then (mX4_mixBox_33 bx_F v1 (0 : Int32) σ) else (Option.bind (mX4_boxNow v1 v2 σ) fun u2 => (mX4_mixBox_8 n v1 (v2 + 1) (mX4_mix u2.toInt64 σ))))
set_option maxRecDepth 8000 in
set_option maxHeartbeats 4000000 in
theorem mX4_mixBox_8_ok (C : bx_Cx p s m args meth c 3 A D cI cZ RX4 cX4_mixBox none) : ∀ (n : Nat) (v1 : Int32) (v2 : Int32) (σ : bx_St) (u : bx_St), mX4_mixBox_8 n v1 v2 σ = some u → bx_Go p l e (bx_rm 5) s m args below meth c 3 A D (MQ below (bx_Q none (bx_mw q cI cZ u) D A) args s 0 0 A) (bx_mw q cI cZ σ) 8 [(0, .ref (q 0)), (1, .int v1), (2, .int v2)] [] := by
  intro n
  induction n with
  | zero =>
    intro v1 v2 σ u hm
    cases hm
  | succ n ih =>
    intro v1 v2 σ u hm
    rw [mX4_mixBox_8] at hm
    refine go_iload_n C dX4_mixBox_8 rfl 2 rfl (n := 9) rfl ?_
    refine go_bipush C dX4_mixBox_9 (v := (9 : Int32)) (by decide) (n := 11) rfl ?_
    refine go_icmp_ge C 31 dX4_mixBox_11 (by decide) (n := 14) rfl (fun c1 => ?_) (fun c1 => ?_)
    · have hm := bx_p c1 hm
      refine go_iconst C dX4_mixBox_31 (v := (0 : Int32)) (by decide) (n := 32) rfl ?_
      refine go_istore_n C dX4_mixBox_32 rfl (by decide) (lv' := [(2, .int (0 : Int32)), (0, .ref (q 0)), (1, .int v1)]) rfl (n := 33) rfl ?_
      refine go_lv (lv' := [(0, .ref (q 0)), (1, .int v1), (2, .int (0 : Int32))]) [1, 2, 0] rfl ?_
      exact mX4_mixBox_33_ok C _ _ _ _ _ hm
    · have hm := bx_n c1 hm
      refine go_aload_n C dX4_mixBox_14 rfl 0 rfl (n := 15) rfl ?_
      refine go_aload_n C dX4_mixBox_15 rfl 0 rfl (n := 16) rfl ?_
      refine go_iload_n C dX4_mixBox_16 rfl 1 rfl (n := 17) rfl ?_
      refine go_iload_n C dX4_mixBox_17 rfl 2 rfl (n := 18) rfl ?_
      obtain ⟨u2, e3, hm⟩ := bx_b hm
      refine go_callVi C dX4_mixBox_18 mw_X4_boxNow ml_X4_192 (rest := [.ref (q 0)]) (ktX4_boxNow e3) (mo4 q cI cZ σ) rfl (by decide) rfl rfl (Nat.le_of_ble_eq_true rfl) (n := 21) rfl ?_
      refine go_i2l C dX4_mixBox_21 (n := 22) rfl ?_
      refine go_callVv C dX4_mixBox_22 mw_X4_mix ml_X4_245 (rest := []) (ktX4_mix rfl) (mo4 q cI cZ σ) rfl (by decide) rfl rfl (Nat.le_of_ble_eq_true rfl) (n := 25) rfl ?_
      refine go_iinc C (j := 2) dX4_mixBox_25 rfl (v := (v2 + 1)) rfl (by decide) (lv' := [(2, .int (v2 + 1)), (0, .ref (q 0)), (1, .int v1)]) rfl (n := 28) rfl ?_
      refine go_goto C 8 dX4_mixBox_28 (by decide) ?_
      refine go_lv (lv' := [(0, .ref (q 0)), (1, .int v1), (2, .int (v2 + 1))]) [1, 2, 0] rfl ?_
      exact ih _ _ _ _ hm
def mX4_mixBox (v1 : Int32) (σ : bx_St) : Option bx_St := (mX4_mixBox_8 bx_F v1 (0 : Int32) (mX4_mix v1.toInt64 σ))
set_option maxRecDepth 8000 in
set_option maxHeartbeats 4000000 in
theorem ktX4_mixBox {l : Launch} {D : va_G} {cI cZ : ClassId} {q : Nat → Nat} {v1 : Int32} {σ : bx_St} {u : bx_St} (hm : mX4_mixBox v1 σ = some u) : bx_Mt l D cI cZ yX4_mixBox cX4_mixBox 3 none 5 [.ref (q 0), .int v1] (bx_mw q cI cZ σ) none (bx_mw q cI cZ u) := by
  refine bx_mk (by decide) (Nat.le_of_ble_eq_true rfl) (lv := [(0, .ref (q 0)), (1, .int v1)]) rfl (fun p e s m args below meth c A C => ?_)
  replace C : bx_Cx p s m args meth c 3 A D cI cZ RX4 cX4_mixBox none := C
  unfold mX4_mixBox at hm
  refine go_aload_n C dX4_mixBox_0 rfl 0 rfl (n := 1) rfl ?_
  refine go_iload_n C dX4_mixBox_1 rfl 1 rfl (n := 2) rfl ?_
  refine go_i2l C dX4_mixBox_2 (n := 3) rfl ?_
  refine go_callVv C dX4_mixBox_3 mw_X4_mix ml_X4_245 (rest := []) (ktX4_mix rfl) (mo4 q cI cZ σ) rfl (by decide) rfl rfl (Nat.le_of_ble_eq_true rfl) (n := 6) rfl ?_
  refine go_iconst C dX4_mixBox_6 (v := (0 : Int32)) (by decide) (n := 7) rfl ?_
  refine go_istore_n C dX4_mixBox_7 rfl (by decide) (lv' := [(2, .int (0 : Int32)), (0, .ref (q 0)), (1, .int v1)]) rfl (n := 8) rfl ?_
  refine go_lv (lv' := [(0, .ref (q 0)), (1, .int v1), (2, .int (0 : Int32))]) [1, 2, 0] rfl ?_
  exact mX4_mixBox_8_ok C _ _ _ _ _ hm
def mX4_digest_229 : Nat → Int32 → bx_St → Option (Int64 × bx_St)
  | 0, _, _ => none
  | n + 1, v1, σ => (if (10 : Int32) ≤ v1 then (some (σ.2, σ)) else (Option.bind (mX4_howMany v1 σ) fun u2 => (mX4_digest_229 n (v1 + 1) (mX4_mix u2.1.toInt64 u2.2))))
set_option maxRecDepth 8000 in
set_option maxHeartbeats 4000000 in
theorem mX4_digest_229_ok (C : bx_Cx p s m args meth c 3 A D cI cZ RX4 cX4_digest (some .long)) : ∀ (n : Nat) (v1 : Int32) (σ : bx_St) (u : (Int64 × bx_St)), mX4_digest_229 n v1 σ = some u → bx_Go p l e (bx_rm 6) s m args below meth c 3 A D (MQ below (bx_Q (some (.long u.1)) (bx_mw q cI cZ u.2) D A) args s 0 0 A) (bx_mw q cI cZ σ) 229 [(0, .ref (q 0)), (1, .int v1)] [] := by
  intro n
  induction n with
  | zero =>
    intro v1 σ u hm
    cases hm
  | succ n ih =>
    intro v1 σ u hm
    rw [mX4_digest_229] at hm
    refine go_iload_n C dX4_digest_229 rfl 1 rfl (n := 230) rfl ?_
    refine go_bipush C dX4_digest_230 (v := (10 : Int32)) (by decide) (n := 232) rfl ?_
    refine go_icmp_ge C 251 dX4_digest_232 (by decide) (n := 235) rfl (fun c1 => ?_) (fun c1 => ?_)
    · have hm := bx_p c1 hm
      refine go_aload_n C dX4_digest_251 rfl 0 rfl (n := 252) rfl ?_
      refine go_get C dX4_digest_252 (mf4_27 q cI cZ σ) rfl inX4 (by decide) fl_X4_241 (n := 255) rfl ?_
      cases hm
      exact go_lret C dX4_digest_255
    · have hm := bx_n c1 hm
      refine go_aload_n C dX4_digest_235 rfl 0 rfl (n := 236) rfl ?_
      refine go_aload_n C dX4_digest_236 rfl 0 rfl (n := 237) rfl ?_
      refine go_iload_n C dX4_digest_237 rfl 1 rfl (n := 238) rfl ?_
      obtain ⟨u2, e3, hm⟩ := bx_b hm
      refine go_callVi C dX4_digest_238 mw_X4_howMany ml_X4_236 (rest := [.ref (q 0)]) (ktX4_howMany e3) (mo4 q cI cZ σ) rfl (by decide) rfl rfl (Nat.le_of_ble_eq_true rfl) (n := 241) rfl ?_
      refine go_i2l C dX4_digest_241 (n := 242) rfl ?_
      refine go_callVv C dX4_digest_242 mw_X4_mix ml_X4_245 (rest := []) (ktX4_mix rfl) (mo4 q cI cZ u2.2) rfl (by decide) rfl rfl (Nat.le_of_ble_eq_true rfl) (n := 245) rfl ?_
      refine go_iinc C (j := 1) dX4_digest_245 rfl (v := (v1 + 1)) rfl (by decide) (lv' := [(1, .int (v1 + 1)), (0, .ref (q 0))]) rfl (n := 248) rfl ?_
      refine go_goto C 229 dX4_digest_248 (by decide) ?_
      refine go_lv (lv' := [(0, .ref (q 0)), (1, .int (v1 + 1))]) [1, 0] rfl ?_
      exact ih _ _ _ hm
def mX4_digest_202 : Nat → Int32 → bx_St → Option (Int64 × bx_St)
  | 0, _, _ => none
  | n + 1, v1, σ => (if (σ.1 0 0) ≤ v1 then (mX4_digest_229 bx_F (0 : Int32) σ) else (if bx_ok v1 60 then (mX4_digest_202 n (v1 + 1) (mX4_mix (σ.1 1 v1.toNatClampNeg).toInt64 σ)) else none))
set_option maxRecDepth 8000 in
set_option maxHeartbeats 4000000 in
theorem mX4_digest_202_ok (C : bx_Cx p s m args meth c 3 A D cI cZ RX4 cX4_digest (some .long)) : ∀ (n : Nat) (v1 : Int32) (σ : bx_St) (u : (Int64 × bx_St)), mX4_digest_202 n v1 σ = some u → bx_Go p l e (bx_rm 6) s m args below meth c 3 A D (MQ below (bx_Q (some (.long u.1)) (bx_mw q cI cZ u.2) D A) args s 0 0 A) (bx_mw q cI cZ σ) 202 [(0, .ref (q 0)), (1, .int v1)] [] := by
  intro n
  induction n with
  | zero =>
    intro v1 σ u hm
    cases hm
  | succ n ih =>
    intro v1 σ u hm
    rw [mX4_digest_202] at hm
    refine go_iload_n C dX4_digest_202 rfl 1 rfl (n := 203) rfl ?_
    refine go_aload_n C dX4_digest_203 rfl 0 rfl (n := 204) rfl ?_
    refine go_get C dX4_digest_204 (mf4_0 q cI cZ σ) rfl inX4 (by decide) fl_X4_45 (n := 207) rfl ?_
    refine go_icmp_ge C 227 dX4_digest_207 (by decide) (n := 210) rfl (fun c1 => ?_) (fun c1 => ?_)
    · have hm := bx_p c1 hm
      refine go_iconst C dX4_digest_227 (v := (0 : Int32)) (by decide) (n := 228) rfl ?_
      refine go_istore_n C dX4_digest_228 rfl (by decide) (lv' := [(1, .int (0 : Int32)), (0, .ref (q 0))]) rfl (n := 229) rfl ?_
      refine go_lv (lv' := [(0, .ref (q 0)), (1, .int (0 : Int32))]) [1, 0] rfl ?_
      exact mX4_digest_229_ok C _ _ _ _ hm
    · have hm := bx_n c1 hm
      refine go_aload_n C dX4_digest_210 rfl 0 rfl (n := 211) rfl ?_
      refine go_aload_n C dX4_digest_211 rfl 0 rfl (n := 212) rfl ?_
      refine go_get C dX4_digest_212 (mf4_1 q cI cZ σ) rfl inX4 (by decide) fl_X4_7 (n := 215) rfl ?_
      refine go_iload_n C dX4_digest_215 rfl 1 rfl (n := 216) rfl ?_
      obtain ⟨b2, hm⟩ := bx_g hm
      refine go_iald C dX4_digest_216 (ma_1 q cI cZ σ) b2 (n := 217) rfl ?_
      refine go_i2l C dX4_digest_217 (n := 218) rfl ?_
      refine go_callVv C dX4_digest_218 mw_X4_mix ml_X4_245 (rest := []) (ktX4_mix rfl) (mo4 q cI cZ σ) rfl (by decide) rfl rfl (Nat.le_of_ble_eq_true rfl) (n := 221) rfl ?_
      refine go_iinc C (j := 1) dX4_digest_221 rfl (v := (v1 + 1)) rfl (by decide) (lv' := [(1, .int (v1 + 1)), (0, .ref (q 0))]) rfl (n := 224) rfl ?_
      refine go_goto C 202 dX4_digest_224 (by decide) ?_
      refine go_lv (lv' := [(0, .ref (q 0)), (1, .int (v1 + 1))]) [1, 0] rfl ?_
      exact ih _ _ _ hm
def mX4_digest_179 : Nat → Int32 → bx_St → Option (Int64 × bx_St)
  | 0, _, _ => none
  | n + 1, v1, σ => (if (4 : Int32) ≤ v1 then (mX4_digest_202 bx_F (0 : Int32) σ) else (Option.bind (mX4_heapNow v1 σ) fun u2 => (mX4_digest_179 n (v1 + 1) (mX4_mix u2.toInt64 σ))))
set_option maxRecDepth 8000 in
set_option maxHeartbeats 4000000 in
theorem mX4_digest_179_ok (C : bx_Cx p s m args meth c 3 A D cI cZ RX4 cX4_digest (some .long)) : ∀ (n : Nat) (v1 : Int32) (σ : bx_St) (u : (Int64 × bx_St)), mX4_digest_179 n v1 σ = some u → bx_Go p l e (bx_rm 6) s m args below meth c 3 A D (MQ below (bx_Q (some (.long u.1)) (bx_mw q cI cZ u.2) D A) args s 0 0 A) (bx_mw q cI cZ σ) 179 [(0, .ref (q 0)), (1, .int v1)] [] := by
  intro n
  induction n with
  | zero =>
    intro v1 σ u hm
    cases hm
  | succ n ih =>
    intro v1 σ u hm
    rw [mX4_digest_179] at hm
    refine go_iload_n C dX4_digest_179 rfl 1 rfl (n := 180) rfl ?_
    refine go_iconst C dX4_digest_180 (v := (4 : Int32)) (by decide) (n := 181) rfl ?_
    refine go_icmp_ge C 200 dX4_digest_181 (by decide) (n := 184) rfl (fun c1 => ?_) (fun c1 => ?_)
    · have hm := bx_p c1 hm
      refine go_iconst C dX4_digest_200 (v := (0 : Int32)) (by decide) (n := 201) rfl ?_
      refine go_istore_n C dX4_digest_201 rfl (by decide) (lv' := [(1, .int (0 : Int32)), (0, .ref (q 0))]) rfl (n := 202) rfl ?_
      refine go_lv (lv' := [(0, .ref (q 0)), (1, .int (0 : Int32))]) [1, 0] rfl ?_
      exact mX4_digest_202_ok C _ _ _ _ hm
    · have hm := bx_n c1 hm
      refine go_aload_n C dX4_digest_184 rfl 0 rfl (n := 185) rfl ?_
      refine go_aload_n C dX4_digest_185 rfl 0 rfl (n := 186) rfl ?_
      refine go_iload_n C dX4_digest_186 rfl 1 rfl (n := 187) rfl ?_
      obtain ⟨u2, e3, hm⟩ := bx_b hm
      refine go_callVi C dX4_digest_187 mw_X4_heapNow ml_X4_227 (rest := [.ref (q 0)]) (ktX4_heapNow e3) (mo4 q cI cZ σ) rfl (by decide) rfl rfl (Nat.le_of_ble_eq_true rfl) (n := 190) rfl ?_
      refine go_i2l C dX4_digest_190 (n := 191) rfl ?_
      refine go_callVv C dX4_digest_191 mw_X4_mix ml_X4_245 (rest := []) (ktX4_mix rfl) (mo4 q cI cZ σ) rfl (by decide) rfl rfl (Nat.le_of_ble_eq_true rfl) (n := 194) rfl ?_
      refine go_iinc C (j := 1) dX4_digest_194 rfl (v := (v1 + 1)) rfl (by decide) (lv' := [(1, .int (v1 + 1)), (0, .ref (q 0))]) rfl (n := 197) rfl ?_
      refine go_goto C 179 dX4_digest_197 (by decide) ?_
      refine go_lv (lv' := [(0, .ref (q 0)), (1, .int (v1 + 1))]) [1, 0] rfl ?_
      exact ih _ _ _ hm
def mX4_digest_155 : Nat → Int32 → bx_St → Option (Int64 × bx_St)
  | 0, _, _ => none
  | n + 1, v1, σ => (if (7 : Int32) ≤ v1 then (mX4_digest_179 bx_F (0 : Int32) σ) else (Option.bind (mX4_latestNow v1 σ) fun u2 => (mX4_digest_155 n (v1 + 1) (mX4_mix u2.toInt64 σ))))
set_option maxRecDepth 8000 in
set_option maxHeartbeats 4000000 in
theorem mX4_digest_155_ok (C : bx_Cx p s m args meth c 3 A D cI cZ RX4 cX4_digest (some .long)) : ∀ (n : Nat) (v1 : Int32) (σ : bx_St) (u : (Int64 × bx_St)), mX4_digest_155 n v1 σ = some u → bx_Go p l e (bx_rm 6) s m args below meth c 3 A D (MQ below (bx_Q (some (.long u.1)) (bx_mw q cI cZ u.2) D A) args s 0 0 A) (bx_mw q cI cZ σ) 155 [(0, .ref (q 0)), (1, .int v1)] [] := by
  intro n
  induction n with
  | zero =>
    intro v1 σ u hm
    cases hm
  | succ n ih =>
    intro v1 σ u hm
    rw [mX4_digest_155] at hm
    refine go_iload_n C dX4_digest_155 rfl 1 rfl (n := 156) rfl ?_
    refine go_bipush C dX4_digest_156 (v := (7 : Int32)) (by decide) (n := 158) rfl ?_
    refine go_icmp_ge C 177 dX4_digest_158 (by decide) (n := 161) rfl (fun c1 => ?_) (fun c1 => ?_)
    · have hm := bx_p c1 hm
      refine go_iconst C dX4_digest_177 (v := (0 : Int32)) (by decide) (n := 178) rfl ?_
      refine go_istore_n C dX4_digest_178 rfl (by decide) (lv' := [(1, .int (0 : Int32)), (0, .ref (q 0))]) rfl (n := 179) rfl ?_
      refine go_lv (lv' := [(0, .ref (q 0)), (1, .int (0 : Int32))]) [1, 0] rfl ?_
      exact mX4_digest_179_ok C _ _ _ _ hm
    · have hm := bx_n c1 hm
      refine go_aload_n C dX4_digest_161 rfl 0 rfl (n := 162) rfl ?_
      refine go_aload_n C dX4_digest_162 rfl 0 rfl (n := 163) rfl ?_
      refine go_iload_n C dX4_digest_163 rfl 1 rfl (n := 164) rfl ?_
      obtain ⟨u2, e3, hm⟩ := bx_b hm
      refine go_callVi C dX4_digest_164 mw_X4_latestNow ml_X4_205 (rest := [.ref (q 0)]) (ktX4_latestNow e3) (mo4 q cI cZ σ) rfl (by decide) rfl rfl (Nat.le_of_ble_eq_true rfl) (n := 167) rfl ?_
      refine go_i2l C dX4_digest_167 (n := 168) rfl ?_
      refine go_callVv C dX4_digest_168 mw_X4_mix ml_X4_245 (rest := []) (ktX4_mix rfl) (mo4 q cI cZ σ) rfl (by decide) rfl rfl (Nat.le_of_ble_eq_true rfl) (n := 171) rfl ?_
      refine go_iinc C (j := 1) dX4_digest_171 rfl (v := (v1 + 1)) rfl (by decide) (lv' := [(1, .int (v1 + 1)), (0, .ref (q 0))]) rfl (n := 174) rfl ?_
      refine go_goto C 155 dX4_digest_174 (by decide) ?_
      refine go_lv (lv' := [(0, .ref (q 0)), (1, .int (v1 + 1))]) [1, 0] rfl ?_
      exact ih _ _ _ hm
def mX4_digest_117 : Nat → Int32 → bx_St → Option (Int64 × bx_St)
  | 0, _, _ => none
  | n + 1, v1, σ => (if (σ.1 0 8) ≤ v1 then (mX4_digest_155 bx_F (0 : Int32) σ) else (if bx_ok v1 66 then (if bx_ok v1 66 then (mX4_digest_117 n (v1 + 1) (mX4_mix ((mX4_mix (σ.1 5 v1.toNatClampNeg).toInt64 σ).1 6 v1.toNatClampNeg).toInt64 (mX4_mix (σ.1 5 v1.toNatClampNeg).toInt64 σ))) else none) else none))
set_option maxRecDepth 8000 in
set_option maxHeartbeats 4000000 in
theorem mX4_digest_117_ok (C : bx_Cx p s m args meth c 3 A D cI cZ RX4 cX4_digest (some .long)) : ∀ (n : Nat) (v1 : Int32) (σ : bx_St) (u : (Int64 × bx_St)), mX4_digest_117 n v1 σ = some u → bx_Go p l e (bx_rm 6) s m args below meth c 3 A D (MQ below (bx_Q (some (.long u.1)) (bx_mw q cI cZ u.2) D A) args s 0 0 A) (bx_mw q cI cZ σ) 117 [(0, .ref (q 0)), (1, .int v1)] [] := by
  intro n
  induction n with
  | zero =>
    intro v1 σ u hm
    cases hm
  | succ n ih =>
    intro v1 σ u hm
    rw [mX4_digest_117] at hm
    refine go_iload_n C dX4_digest_117 rfl 1 rfl (n := 118) rfl ?_
    refine go_aload_n C dX4_digest_118 rfl 0 rfl (n := 119) rfl ?_
    refine go_get C dX4_digest_119 (mf4_8 q cI cZ σ) rfl inX4 (by decide) fl_X4_126 (n := 122) rfl ?_
    refine go_icmp_ge C 153 dX4_digest_122 (by decide) (n := 125) rfl (fun c1 => ?_) (fun c1 => ?_)
    · have hm := bx_p c1 hm
      refine go_iconst C dX4_digest_153 (v := (0 : Int32)) (by decide) (n := 154) rfl ?_
      refine go_istore_n C dX4_digest_154 rfl (by decide) (lv' := [(1, .int (0 : Int32)), (0, .ref (q 0))]) rfl (n := 155) rfl ?_
      refine go_lv (lv' := [(0, .ref (q 0)), (1, .int (0 : Int32))]) [1, 0] rfl ?_
      exact mX4_digest_155_ok C _ _ _ _ hm
    · have hm := bx_n c1 hm
      refine go_aload_n C dX4_digest_125 rfl 0 rfl (n := 126) rfl ?_
      refine go_aload_n C dX4_digest_126 rfl 0 rfl (n := 127) rfl ?_
      refine go_get C dX4_digest_127 (mf4_9 q cI cZ σ) rfl inX4 (by decide) fl_X4_22 (n := 130) rfl ?_
      refine go_iload_n C dX4_digest_130 rfl 1 rfl (n := 131) rfl ?_
      obtain ⟨b2, hm⟩ := bx_g hm
      refine go_iald C dX4_digest_131 (ma_5 q cI cZ σ) b2 (n := 132) rfl ?_
      refine go_i2l C dX4_digest_132 (n := 133) rfl ?_
      refine go_callVv C dX4_digest_133 mw_X4_mix ml_X4_245 (rest := []) (ktX4_mix rfl) (mo4 q cI cZ σ) rfl (by decide) rfl rfl (Nat.le_of_ble_eq_true rfl) (n := 136) rfl ?_
      refine go_aload_n C dX4_digest_136 rfl 0 rfl (n := 137) rfl ?_
      refine go_aload_n C dX4_digest_137 rfl 0 rfl (n := 138) rfl ?_
      refine go_get C dX4_digest_138 (mf4_10 q cI cZ (mX4_mix (σ.1 5 v1.toNatClampNeg).toInt64 σ)) rfl inX4 (by decide) fl_X4_25 (n := 141) rfl ?_
      refine go_iload_n C dX4_digest_141 rfl 1 rfl (n := 142) rfl ?_
      obtain ⟨b3, hm⟩ := bx_g hm
      refine go_iald C dX4_digest_142 (ma_6 q cI cZ (mX4_mix (σ.1 5 v1.toNatClampNeg).toInt64 σ)) b3 (n := 143) rfl ?_
      refine go_i2l C dX4_digest_143 (n := 144) rfl ?_
      refine go_callVv C dX4_digest_144 mw_X4_mix ml_X4_245 (rest := []) (ktX4_mix rfl) (mo4 q cI cZ (mX4_mix (σ.1 5 v1.toNatClampNeg).toInt64 σ)) rfl (by decide) rfl rfl (Nat.le_of_ble_eq_true rfl) (n := 147) rfl ?_
      refine go_iinc C (j := 1) dX4_digest_147 rfl (v := (v1 + 1)) rfl (by decide) (lv' := [(1, .int (v1 + 1)), (0, .ref (q 0))]) rfl (n := 150) rfl ?_
      refine go_goto C 117 dX4_digest_150 (by decide) ?_
      refine go_lv (lv' := [(0, .ref (q 0)), (1, .int (v1 + 1))]) [1, 0] rfl ?_
      exact ih _ _ _ hm
def mX4_digest_90 : Nat → Int32 → bx_St → Option (Int64 × bx_St)
  | 0, _, _ => none
  | n + 1, v1, σ => (if (σ.1 0 25) ≤ v1 then (mX4_digest_117 bx_F (0 : Int32) σ) else (if bx_ok v1 66 then (mX4_digest_90 n (v1 + 1) (mX4_mix (σ.1 10 v1.toNatClampNeg).toInt64 σ)) else none))
set_option maxRecDepth 8000 in
set_option maxHeartbeats 4000000 in
theorem mX4_digest_90_ok (C : bx_Cx p s m args meth c 3 A D cI cZ RX4 cX4_digest (some .long)) : ∀ (n : Nat) (v1 : Int32) (σ : bx_St) (u : (Int64 × bx_St)), mX4_digest_90 n v1 σ = some u → bx_Go p l e (bx_rm 6) s m args below meth c 3 A D (MQ below (bx_Q (some (.long u.1)) (bx_mw q cI cZ u.2) D A) args s 0 0 A) (bx_mw q cI cZ σ) 90 [(0, .ref (q 0)), (1, .int v1)] [] := by
  intro n
  induction n with
  | zero =>
    intro v1 σ u hm
    cases hm
  | succ n ih =>
    intro v1 σ u hm
    rw [mX4_digest_90] at hm
    refine go_iload_n C dX4_digest_90 rfl 1 rfl (n := 91) rfl ?_
    refine go_aload_n C dX4_digest_91 rfl 0 rfl (n := 92) rfl ?_
    refine go_get C dX4_digest_92 (mf4_25 q cI cZ σ) rfl inX4 (by decide) fl_X4_199 (n := 95) rfl ?_
    refine go_icmp_ge C 115 dX4_digest_95 (by decide) (n := 98) rfl (fun c1 => ?_) (fun c1 => ?_)
    · have hm := bx_p c1 hm
      refine go_iconst C dX4_digest_115 (v := (0 : Int32)) (by decide) (n := 116) rfl ?_
      refine go_istore_n C dX4_digest_116 rfl (by decide) (lv' := [(1, .int (0 : Int32)), (0, .ref (q 0))]) rfl (n := 117) rfl ?_
      refine go_lv (lv' := [(0, .ref (q 0)), (1, .int (0 : Int32))]) [1, 0] rfl ?_
      exact mX4_digest_117_ok C _ _ _ _ hm
    · have hm := bx_n c1 hm
      refine go_aload_n C dX4_digest_98 rfl 0 rfl (n := 99) rfl ?_
      refine go_aload_n C dX4_digest_99 rfl 0 rfl (n := 100) rfl ?_
      refine go_get C dX4_digest_100 (mf4_26 q cI cZ σ) rfl inX4 (by decide) fl_X4_38 (n := 103) rfl ?_
      refine go_iload_n C dX4_digest_103 rfl 1 rfl (n := 104) rfl ?_
      obtain ⟨b2, hm⟩ := bx_g hm
      refine go_iald C dX4_digest_104 (ma_10 q cI cZ σ) b2 (n := 105) rfl ?_
      refine go_i2l C dX4_digest_105 (n := 106) rfl ?_
      refine go_callVv C dX4_digest_106 mw_X4_mix ml_X4_245 (rest := []) (ktX4_mix rfl) (mo4 q cI cZ σ) rfl (by decide) rfl rfl (Nat.le_of_ble_eq_true rfl) (n := 109) rfl ?_
      refine go_iinc C (j := 1) dX4_digest_109 rfl (v := (v1 + 1)) rfl (by decide) (lv' := [(1, .int (v1 + 1)), (0, .ref (q 0))]) rfl (n := 112) rfl ?_
      refine go_goto C 90 dX4_digest_112 (by decide) ?_
      refine go_lv (lv' := [(0, .ref (q 0)), (1, .int (v1 + 1))]) [1, 0] rfl ?_
      exact ih _ _ _ hm
def mX4_digest_46 (K39 : Int32 → bx_St → Option (Int64 × bx_St)) : Nat → Int32 → Int32 → bx_St → Option (Int64 × bx_St)
  | 0, _, _, _ => none
  | n + 1, v1, v2, σ => (if ((3 : Int32) * (σ.1 0 5)) ≤ v2 then (K39 (v1 + 1) σ) else (Option.bind (mX4_endNow v1 (v2 / (3 : Int32)) (bx_rem v2 (3 : Int32)) σ) fun u2 => (mX4_digest_46 K39 n v1 (v2 + 1) (mX4_mix u2.toInt64 σ))))
set_option maxRecDepth 8000 in
set_option maxHeartbeats 4000000 in
theorem mX4_digest_46_ok (C : bx_Cx p s m args meth c 3 A D cI cZ RX4 cX4_digest (some .long)) (K39 : Int32 → bx_St → Option (Int64 × bx_St)) (HK39 : ∀ (v1 : Int32) (σ : bx_St) (u : (Int64 × bx_St)), K39 v1 σ = some u → bx_Go p l e (bx_rm 6) s m args below meth c 3 A D (MQ below (bx_Q (some (.long u.1)) (bx_mw q cI cZ u.2) D A) args s 0 0 A) (bx_mw q cI cZ σ) 39 [(0, .ref (q 0)), (1, .int v1)] []) : ∀ (n : Nat) (v1 : Int32) (v2 : Int32) (σ : bx_St) (u : (Int64 × bx_St)), mX4_digest_46 K39 n v1 v2 σ = some u → bx_Go p l e (bx_rm 6) s m args below meth c 3 A D (MQ below (bx_Q (some (.long u.1)) (bx_mw q cI cZ u.2) D A) args s 0 0 A) (bx_mw q cI cZ σ) 46 [(0, .ref (q 0)), (1, .int v1), (2, .int v2)] [] := by
  intro n
  induction n with
  | zero =>
    intro v1 v2 σ u hm
    cases hm
  | succ n ih =>
    intro v1 v2 σ u hm
    rw [mX4_digest_46] at hm
    refine go_iload_n C dX4_digest_46 rfl 2 rfl (n := 47) rfl ?_
    refine go_iconst C dX4_digest_47 (v := (3 : Int32)) (by decide) (n := 48) rfl ?_
    refine go_aload_n C dX4_digest_48 rfl 0 rfl (n := 49) rfl ?_
    refine go_get C dX4_digest_49 (mf4_5 q cI cZ σ) rfl inX4 (by decide) fl_X4_110 (n := 52) rfl ?_
    refine go_imul C dX4_digest_52 (n := 53) rfl ?_
    refine go_icmp_ge C 78 dX4_digest_53 (by decide) (n := 56) rfl (fun c1 => ?_) (fun c1 => ?_)
    · have hm := bx_p c1 hm
      refine go_iinc C (j := 1) dX4_digest_78 rfl (v := (v1 + 1)) rfl (by decide) (lv' := [(1, .int (v1 + 1)), (0, .ref (q 0)), (2, .int v2)]) rfl (n := 81) rfl ?_
      refine go_goto C 39 dX4_digest_81 (by decide) ?_
      refine go_lv (lv' := [(0, .ref (q 0)), (1, .int (v1 + 1))]) [1, 0] rfl ?_
      exact HK39 _ _ _ hm
    · have hm := bx_n c1 hm
      refine go_aload_n C dX4_digest_56 rfl 0 rfl (n := 57) rfl ?_
      refine go_aload_n C dX4_digest_57 rfl 0 rfl (n := 58) rfl ?_
      refine go_iload_n C dX4_digest_58 rfl 1 rfl (n := 59) rfl ?_
      refine go_iload_n C dX4_digest_59 rfl 2 rfl (n := 60) rfl ?_
      refine go_iconst C dX4_digest_60 (v := (3 : Int32)) (by decide) (n := 61) rfl ?_
      refine go_idiv C dX4_digest_61 (by decide) (n := 62) rfl ?_
      refine go_iload_n C dX4_digest_62 rfl 2 rfl (n := 63) rfl ?_
      refine go_iconst C dX4_digest_63 (v := (3 : Int32)) (by decide) (n := 64) rfl ?_
      refine go_irem C dX4_digest_64 (by decide) (n := 65) rfl ?_
      obtain ⟨u2, e3, hm⟩ := bx_b hm
      refine go_callVi C dX4_digest_65 mw_X4_endNow ml_X4_195 (rest := [.ref (q 0)]) (ktX4_endNow e3) (mo4 q cI cZ σ) rfl (by decide) rfl rfl (Nat.le_of_ble_eq_true rfl) (n := 68) rfl ?_
      refine go_i2l C dX4_digest_68 (n := 69) rfl ?_
      refine go_callVv C dX4_digest_69 mw_X4_mix ml_X4_245 (rest := []) (ktX4_mix rfl) (mo4 q cI cZ σ) rfl (by decide) rfl rfl (Nat.le_of_ble_eq_true rfl) (n := 72) rfl ?_
      refine go_iinc C (j := 2) dX4_digest_72 rfl (v := (v2 + 1)) rfl (by decide) (lv' := [(2, .int (v2 + 1)), (0, .ref (q 0)), (1, .int v1)]) rfl (n := 75) rfl ?_
      refine go_goto C 46 dX4_digest_75 (by decide) ?_
      refine go_lv (lv' := [(0, .ref (q 0)), (1, .int v1), (2, .int (v2 + 1))]) [1, 2, 0] rfl ?_
      exact ih _ _ _ _ hm
def mX4_digest_39 : Nat → Int32 → bx_St → Option (Int64 × bx_St)
  | 0, _, _ => none
  | n + 1, v1, σ => (if (3 : Int32) ≤ v1 then (Option.bind (mX4_layPairs σ) fun u2 => (mX4_digest_90 bx_F (0 : Int32) u2)) else (mX4_digest_46 (mX4_digest_39 n) bx_F v1 (0 : Int32) σ))
set_option maxRecDepth 8000 in
set_option maxHeartbeats 4000000 in
theorem mX4_digest_39_ok (C : bx_Cx p s m args meth c 3 A D cI cZ RX4 cX4_digest (some .long)) : ∀ (n : Nat) (v1 : Int32) (σ : bx_St) (u : (Int64 × bx_St)), mX4_digest_39 n v1 σ = some u → bx_Go p l e (bx_rm 6) s m args below meth c 3 A D (MQ below (bx_Q (some (.long u.1)) (bx_mw q cI cZ u.2) D A) args s 0 0 A) (bx_mw q cI cZ σ) 39 [(0, .ref (q 0)), (1, .int v1)] [] := by
  intro n
  induction n with
  | zero =>
    intro v1 σ u hm
    cases hm
  | succ n ih =>
    intro v1 σ u hm
    rw [mX4_digest_39] at hm
    refine go_iload_n C dX4_digest_39 rfl 1 rfl (n := 40) rfl ?_
    refine go_iconst C dX4_digest_40 (v := (3 : Int32)) (by decide) (n := 41) rfl ?_
    refine go_icmp_ge C 84 dX4_digest_41 (by decide) (n := 44) rfl (fun c1 => ?_) (fun c1 => ?_)
    · have hm := bx_p c1 hm
      refine go_aload_n C dX4_digest_84 rfl 0 rfl (n := 85) rfl ?_
      obtain ⟨u2, e3, hm⟩ := bx_b hm
      refine go_callVv C dX4_digest_85 mw_X4_layPairs ml_X4_202 (rest := []) (ktX4_layPairs e3) (mo4 q cI cZ σ) rfl (by decide) rfl rfl (Nat.le_of_ble_eq_true rfl) (n := 88) rfl ?_
      refine go_iconst C dX4_digest_88 (v := (0 : Int32)) (by decide) (n := 89) rfl ?_
      refine go_istore_n C dX4_digest_89 rfl (by decide) (lv' := [(1, .int (0 : Int32)), (0, .ref (q 0))]) rfl (n := 90) rfl ?_
      refine go_lv (lv' := [(0, .ref (q 0)), (1, .int (0 : Int32))]) [1, 0] rfl ?_
      exact mX4_digest_90_ok C _ _ _ _ hm
    · have hm := bx_n c1 hm
      refine go_iconst C dX4_digest_44 (v := (0 : Int32)) (by decide) (n := 45) rfl ?_
      refine go_istore_n C dX4_digest_45 rfl (by decide) (lv' := [(2, .int (0 : Int32)), (0, .ref (q 0)), (1, .int v1)]) rfl (n := 46) rfl ?_
      refine go_lv (lv' := [(0, .ref (q 0)), (1, .int v1), (2, .int (0 : Int32))]) [1, 2, 0] rfl ?_
      exact mX4_digest_46_ok C _ ih _ _ _ _ _ hm
def mX4_digest_31 (K9 : Int32 → bx_St → Option (Int64 × bx_St)) (v1 : Int32) (σ : bx_St) : Option (Int64 × bx_St) := (K9 (v1 + 1) σ)
set_option maxRecDepth 8000 in
set_option maxHeartbeats 4000000 in
theorem mX4_digest_31_ok (C : bx_Cx p s m args meth c 3 A D cI cZ RX4 cX4_digest (some .long)) (K9 : Int32 → bx_St → Option (Int64 × bx_St)) (HK9 : ∀ (v1 : Int32) (σ : bx_St) (u : (Int64 × bx_St)), K9 v1 σ = some u → bx_Go p l e (bx_rm 6) s m args below meth c 3 A D (MQ below (bx_Q (some (.long u.1)) (bx_mw q cI cZ u.2) D A) args s 0 0 A) (bx_mw q cI cZ σ) 9 [(0, .ref (q 0)), (1, .int v1)] []) : ∀ (v1 : Int32) (σ : bx_St) (u : (Int64 × bx_St)), mX4_digest_31 K9 v1 σ = some u → bx_Go p l e (bx_rm 6) s m args below meth c 3 A D (MQ below (bx_Q (some (.long u.1)) (bx_mw q cI cZ u.2) D A) args s 0 0 A) (bx_mw q cI cZ σ) 31 [(0, .ref (q 0)), (1, .int v1)] [] := by
  intro v1 σ u hm
  unfold mX4_digest_31 at hm
  refine go_iinc C (j := 1) dX4_digest_31 rfl (v := (v1 + 1)) rfl (by decide) (lv' := [(1, .int (v1 + 1)), (0, .ref (q 0))]) rfl (n := 34) rfl ?_
  refine go_goto C 9 dX4_digest_34 (by decide) ?_
  refine go_lv (lv' := [(0, .ref (q 0)), (1, .int (v1 + 1))]) [1, 0] rfl ?_
  exact HK9 _ _ _ hm
def mX4_digest_9 : Nat → Int32 → bx_St → Option (Int64 × bx_St)
  | 0, _, _ => none
  | n + 1, v1, σ => (if (12 : Int32) ≤ v1 then (mX4_digest_39 bx_F (0 : Int32) σ) else (if (mX4_has (σ.1 0 2) v1) = 0 then (mX4_digest_31 (mX4_digest_9 n) v1 σ) else (Option.bind (mX4_mixBox v1 σ) fun u3 => (mX4_digest_31 (mX4_digest_9 n) v1 u3))))
set_option maxRecDepth 8000 in
set_option maxHeartbeats 4000000 in
theorem mX4_digest_9_ok (C : bx_Cx p s m args meth c 3 A D cI cZ RX4 cX4_digest (some .long)) : ∀ (n : Nat) (v1 : Int32) (σ : bx_St) (u : (Int64 × bx_St)), mX4_digest_9 n v1 σ = some u → bx_Go p l e (bx_rm 6) s m args below meth c 3 A D (MQ below (bx_Q (some (.long u.1)) (bx_mw q cI cZ u.2) D A) args s 0 0 A) (bx_mw q cI cZ σ) 9 [(0, .ref (q 0)), (1, .int v1)] [] := by
  intro n
  induction n with
  | zero =>
    intro v1 σ u hm
    cases hm
  | succ n ih =>
    intro v1 σ u hm
    rw [mX4_digest_9] at hm
    refine go_iload_n C dX4_digest_9 rfl 1 rfl (n := 10) rfl ?_
    refine go_bipush C dX4_digest_10 (v := (12 : Int32)) (by decide) (n := 12) rfl ?_
    refine go_icmp_ge C 37 dX4_digest_12 (by decide) (n := 15) rfl (fun c1 => ?_) (fun c1 => ?_)
    · have hm := bx_p c1 hm
      refine go_iconst C dX4_digest_37 (v := (0 : Int32)) (by decide) (n := 38) rfl ?_
      refine go_istore_n C dX4_digest_38 rfl (by decide) (lv' := [(1, .int (0 : Int32)), (0, .ref (q 0))]) rfl (n := 39) rfl ?_
      refine go_lv (lv' := [(0, .ref (q 0)), (1, .int (0 : Int32))]) [1, 0] rfl ?_
      exact mX4_digest_39_ok C _ _ _ _ hm
    · have hm := bx_n c1 hm
      refine go_aload_n C dX4_digest_15 rfl 0 rfl (n := 16) rfl ?_
      refine go_get C dX4_digest_16 (mf4_2 q cI cZ σ) rfl inX4 (by decide) fl_X4_73 (n := 19) rfl ?_
      refine go_iload_n C dX4_digest_19 rfl 1 rfl (n := 20) rfl ?_
      refine go_callSi C dX4_digest_20 mw_X4_has ml_X4_86 (rest := []) (ktX4_has rfl) (by decide) rfl rfl (Nat.le_of_ble_eq_true rfl) (n := 23) rfl ?_
      refine go_if_eq C 31 dX4_digest_23 (by decide) (n := 26) rfl (fun c2 => ?_) (fun c2 => ?_)
      · have hm := bx_p c2 hm
        refine go_lv (lv' := [(0, .ref (q 0)), (1, .int v1)]) [0, 1] rfl ?_
        exact mX4_digest_31_ok C _ ih _ _ _ hm
      · have hm := bx_n c2 hm
        refine go_aload_n C dX4_digest_26 rfl 0 rfl (n := 27) rfl ?_
        refine go_iload_n C dX4_digest_27 rfl 1 rfl (n := 28) rfl ?_
        obtain ⟨u3, e4, hm⟩ := bx_b hm
        refine go_callVv C dX4_digest_28 mw_X4_mixBox ml_X4_251 (rest := []) (ktX4_mixBox e4) (mo4 q cI cZ σ) rfl (by decide) rfl rfl (Nat.le_of_ble_eq_true rfl) (n := 31) rfl ?_
        refine go_lv (lv' := [(0, .ref (q 0)), (1, .int v1)]) [0, 1] rfl ?_
        exact mX4_digest_31_ok C _ ih _ _ _ hm
def mX4_digest (σ : bx_St) : Option (Int64 × bx_St) := (mX4_digest_9 bx_F (0 : Int32) (σ.1, (1657 : Int64)))
set_option maxRecDepth 8000 in
set_option maxHeartbeats 4000000 in
theorem ktX4_digest {l : Launch} {D : va_G} {cI cZ : ClassId} {q : Nat → Nat} {σ : bx_St} {u : (Int64 × bx_St)} (hm : mX4_digest σ = some u) : bx_Mt l D cI cZ yX4_digest cX4_digest 3 (some .long) 6 [.ref (q 0)] (bx_mw q cI cZ σ) (some (.long u.1)) (bx_mw q cI cZ u.2) := by
  refine bx_mk (by decide) (Nat.le_of_ble_eq_true rfl) (lv := [(0, .ref (q 0))]) rfl (fun p e s m args below meth c A C => ?_)
  replace C : bx_Cx p s m args meth c 3 A D cI cZ RX4 cX4_digest (some .long) := C
  unfold mX4_digest at hm
  refine go_aload_n C dX4_digest_0 rfl 0 rfl (n := 1) rfl ?_
  refine go_ldc2 C dX4_digest_1 (v := (1657 : Int64)) kc_X4_249 (n := 4) rfl ?_
  refine go_put C dX4_digest_4 (mp4_27 q cI cZ σ (1657 : Int64)) rfl inX4 tyX4_ok nmX4 (by decide) fl_X4_241 rfl (ty := .long) (by decide +kernel) (by rfl) (by rfl) (n := 7) rfl ?_
  refine go_iconst C dX4_digest_7 (v := (0 : Int32)) (by decide) (n := 8) rfl ?_
  refine go_istore_n C dX4_digest_8 rfl (by decide) (lv' := [(1, .int (0 : Int32)), (0, .ref (q 0))]) rfl (n := 9) rfl ?_
  refine go_lv (lv' := [(0, .ref (q 0)), (1, .int (0 : Int32))]) [1, 0] rfl ?_
  exact mX4_digest_9_ok C _ _ _ _ hm
def mX4_isAxis (v0 : Int32) : Option Int32 := (if bx_bo (mX4_within v0 (0 : Int32) (2 : Int32)) then (some (mX4_within v0 (0 : Int32) (2 : Int32))) else none)
set_option maxRecDepth 8000 in
set_option maxHeartbeats 4000000 in
theorem ktX4_isAxis {l : Launch} {D : va_G} {cI cZ : ClassId} {ws : va_W} {v0 : Int32} {u : Int32} (hm : mX4_isAxis v0 = some u) : bx_Mt l D cI cZ yX4_isAxis cX4_isAxis 1 (some .boolean) 2 [.int v0] ws (some (.int u)) ws := by
  refine bx_mk (by decide) (Nat.le_of_ble_eq_true rfl) (lv := [(0, .int v0)]) rfl (fun p e s m args below meth c A C => ?_)
  replace C : bx_Cx p s m args meth c 1 A D cI cZ RX4 cX4_isAxis (some .boolean) := C
  unfold mX4_isAxis at hm
  refine go_iload_n C dX4_isAxis_0 rfl 0 rfl (n := 1) rfl ?_
  refine go_iconst C dX4_isAxis_1 (v := (0 : Int32)) (by decide) (n := 2) rfl ?_
  refine go_iconst C dX4_isAxis_2 (v := (2 : Int32)) (by decide) (n := 3) rfl ?_
  refine go_callSi C dX4_isAxis_3 mw_X4_within ml_X4_41 (rest := []) (ktX4_within rfl) (by decide) rfl rfl (Nat.le_of_ble_eq_true rfl) (n := 6) rfl ?_
  obtain ⟨b1, hm⟩ := bx_g hm
  cases hm
  exact go_zret C dX4_isAxis_6 b1
def mX4_end (v1 : Int32) (v2 : Int32) (v3 : Int32) (σ : bx_St) : Option Int32 := (Option.bind (mX4_isAxis v1) fun u1 => (if u1 = 0 then (some (-10002 : Int32)) else (if (mX4_within v2 (0 : Int32) ((σ.1 0 5) - (1 : Int32))) = 0 then (some (-10002 : Int32)) else (if (mX4_within v3 (0 : Int32) (2 : Int32)) = 0 then (some (-10003 : Int32)) else (Option.bind (mX4_endNow v1 v2 v3 σ) fun u6 => (some u6))))))
set_option maxRecDepth 8000 in
set_option maxHeartbeats 4000000 in
theorem ktX4_end {l : Launch} {D : va_G} {cI cZ : ClassId} {q : Nat → Nat} {v1 : Int32} {v2 : Int32} {v3 : Int32} {σ : bx_St} {u : Int32} (hm : mX4_end v1 v2 v3 σ = some u) : bx_Mt l D cI cZ yX4_end cX4_end 4 (some .int) 3 [.ref (q 0), .int v1, .int v2, .int v3] (bx_mw q cI cZ σ) (some (.int u)) (bx_mw q cI cZ σ) := by
  refine bx_mk (by decide) (Nat.le_of_ble_eq_true rfl) (lv := [(0, .ref (q 0)), (1, .int v1), (2, .int v2), (3, .int v3)]) rfl (fun p e s m args below meth c A C => ?_)
  replace C : bx_Cx p s m args meth c 4 A D cI cZ RX4 cX4_end (some .int) := C
  unfold mX4_end at hm
  refine go_iload_n C dX4_end_0 rfl 1 rfl (n := 1) rfl ?_
  obtain ⟨u1, e2, hm⟩ := bx_b hm
  refine go_callSi C dX4_end_1 mw_X4_isAxis ml_X4_173 (rest := []) (ktX4_isAxis e2) (by decide) rfl rfl (Nat.le_of_ble_eq_true rfl) (n := 4) rfl ?_
  refine go_if_eq C 21 dX4_end_4 (by decide) (n := 7) rfl (fun c3 => ?_) (fun c3 => ?_)
  · have hm := bx_p c3 hm
    refine go_sipush C dX4_end_21 (v := (-10002 : Int32)) (by decide) (n := 24) rfl ?_
    cases hm
    exact go_iret C dX4_end_24
  · have hm := bx_n c3 hm
    refine go_iload_n C dX4_end_7 rfl 2 rfl (n := 8) rfl ?_
    refine go_iconst C dX4_end_8 (v := (0 : Int32)) (by decide) (n := 9) rfl ?_
    refine go_aload_n C dX4_end_9 rfl 0 rfl (n := 10) rfl ?_
    refine go_get C dX4_end_10 (mf4_5 q cI cZ σ) rfl inX4 (by decide) fl_X4_110 (n := 13) rfl ?_
    refine go_iconst C dX4_end_13 (v := (1 : Int32)) (by decide) (n := 14) rfl ?_
    refine go_isub C dX4_end_14 (n := 15) rfl ?_
    refine go_callSi C dX4_end_15 mw_X4_within ml_X4_41 (rest := []) (ktX4_within rfl) (by decide) rfl rfl (Nat.le_of_ble_eq_true rfl) (n := 18) rfl ?_
    refine go_if_ne C 25 dX4_end_18 (by decide) (n := 21) rfl (fun c4 => ?_) (fun c4 => ?_)
    · have hm := bx_n c4 hm
      refine go_iload_n C dX4_end_25 rfl 3 rfl (n := 26) rfl ?_
      refine go_iconst C dX4_end_26 (v := (0 : Int32)) (by decide) (n := 27) rfl ?_
      refine go_iconst C dX4_end_27 (v := (2 : Int32)) (by decide) (n := 28) rfl ?_
      refine go_callSi C dX4_end_28 mw_X4_within ml_X4_41 (rest := []) (ktX4_within rfl) (by decide) rfl rfl (Nat.le_of_ble_eq_true rfl) (n := 31) rfl ?_
      refine go_if_eq C 44 dX4_end_31 (by decide) (n := 34) rfl (fun c5 => ?_) (fun c5 => ?_)
      · have hm := bx_p c5 hm
        refine go_sipush C dX4_end_44 (v := (-10003 : Int32)) (by decide) (n := 47) rfl ?_
        cases hm
        exact go_iret C dX4_end_47
      · have hm := bx_n c5 hm
        refine go_aload_n C dX4_end_34 rfl 0 rfl (n := 35) rfl ?_
        refine go_iload_n C dX4_end_35 rfl 1 rfl (n := 36) rfl ?_
        refine go_iload_n C dX4_end_36 rfl 2 rfl (n := 37) rfl ?_
        refine go_iload_n C dX4_end_37 rfl 3 rfl (n := 38) rfl ?_
        obtain ⟨u6, e7, hm⟩ := bx_b hm
        refine go_callVi C dX4_end_38 mw_X4_endNow ml_X4_195 (rest := []) (ktX4_endNow e7) (mo4 q cI cZ σ) rfl (by decide) rfl rfl (Nat.le_of_ble_eq_true rfl) (n := 41) rfl ?_
        refine go_goto C 47 dX4_end_41 (by decide) ?_
        cases hm
        exact go_iret C dX4_end_47
    · have hm := bx_p c4 hm
      refine go_sipush C dX4_end_21 (v := (-10002 : Int32)) (by decide) (n := 24) rfl ?_
      cases hm
      exact go_iret C dX4_end_24
def mX4_endSwaps (σ : bx_St) : Option (Int32 × bx_St) := (Option.bind (mX4_endChange (σ.1 0 24) σ) fun u1 => (if bx_ok (0 : Int32) 3 then (if bx_ok (1 : Int32) 3 then (if bx_ok (2 : Int32) 3 then (some ((((u1.1 7 (0 : Int32).toNatClampNeg) + (u1.1 7 (1 : Int32).toNatClampNeg)) + (u1.1 7 (2 : Int32).toNatClampNeg)), u1)) else none) else none) else none))
set_option maxRecDepth 8000 in
set_option maxHeartbeats 4000000 in
theorem ktX4_endSwaps {l : Launch} {D : va_G} {cI cZ : ClassId} {q : Nat → Nat} {σ : bx_St} {u : (Int32 × bx_St)} (hm : mX4_endSwaps σ = some u) : bx_Mt l D cI cZ yX4_endSwaps cX4_endSwaps 1 (some .int) 3 [.ref (q 0)] (bx_mw q cI cZ σ) (some (.int u.1)) (bx_mw q cI cZ u.2) := by
  refine bx_mk (by decide) (Nat.le_of_ble_eq_true rfl) (lv := [(0, .ref (q 0))]) rfl (fun p e s m args below meth c A C => ?_)
  replace C : bx_Cx p s m args meth c 1 A D cI cZ RX4 cX4_endSwaps (some .int) := C
  unfold mX4_endSwaps at hm
  refine go_aload_n C dX4_endSwaps_0 rfl 0 rfl (n := 1) rfl ?_
  refine go_aload_n C dX4_endSwaps_1 rfl 0 rfl (n := 2) rfl ?_
  refine go_get C dX4_endSwaps_2 (mf4_24 q cI cZ σ) rfl inX4 (by decide) fl_X4_123 (n := 5) rfl ?_
  obtain ⟨u1, e2, hm⟩ := bx_b hm
  refine go_callVv C dX4_endSwaps_5 mw_X4_endChange ml_X4_93 (rest := []) (ktX4_endChange e2) (mo4 q cI cZ σ) rfl (by decide) rfl rfl (Nat.le_of_ble_eq_true rfl) (n := 8) rfl ?_
  refine go_aload_n C dX4_endSwaps_8 rfl 0 rfl (n := 9) rfl ?_
  refine go_get C dX4_endSwaps_9 (mf4_13 q cI cZ u1) rfl inX4 (by decide) fl_X4_28 (n := 12) rfl ?_
  refine go_iconst C dX4_endSwaps_12 (v := (0 : Int32)) (by decide) (n := 13) rfl ?_
  obtain ⟨b3, hm⟩ := bx_g hm
  refine go_iald C dX4_endSwaps_13 (ma_7 q cI cZ u1) b3 (n := 14) rfl ?_
  refine go_aload_n C dX4_endSwaps_14 rfl 0 rfl (n := 15) rfl ?_
  refine go_get C dX4_endSwaps_15 (mf4_13 q cI cZ u1) rfl inX4 (by decide) fl_X4_28 (n := 18) rfl ?_
  refine go_iconst C dX4_endSwaps_18 (v := (1 : Int32)) (by decide) (n := 19) rfl ?_
  obtain ⟨b4, hm⟩ := bx_g hm
  refine go_iald C dX4_endSwaps_19 (ma_7 q cI cZ u1) b4 (n := 20) rfl ?_
  refine go_iadd C dX4_endSwaps_20 (n := 21) rfl ?_
  refine go_aload_n C dX4_endSwaps_21 rfl 0 rfl (n := 22) rfl ?_
  refine go_get C dX4_endSwaps_22 (mf4_13 q cI cZ u1) rfl inX4 (by decide) fl_X4_28 (n := 25) rfl ?_
  refine go_iconst C dX4_endSwaps_25 (v := (2 : Int32)) (by decide) (n := 26) rfl ?_
  obtain ⟨b5, hm⟩ := bx_g hm
  refine go_iald C dX4_endSwaps_26 (ma_7 q cI cZ u1) b5 (n := 27) rfl ?_
  refine go_iadd C dX4_endSwaps_27 (n := 28) rfl ?_
  cases hm
  exact go_iret C dX4_endSwaps_28
def mX4_event (v1 : Int32) (v2 : Int32) (σ : bx_St) : Option Int32 := (if (mX4_within v1 (0 : Int32) ((σ.1 0 8) - (1 : Int32))) = 0 then (some (-10002 : Int32)) else (if v2 = 0 then (if bx_ok v1 66 then (some (σ.1 5 v1.toNatClampNeg)) else none) else (if v2 = (1 : Int32) then (if bx_ok v1 66 then (some (σ.1 6 v1.toNatClampNeg)) else none) else (some (-10003 : Int32)))))
set_option maxRecDepth 8000 in
set_option maxHeartbeats 4000000 in
theorem ktX4_event {l : Launch} {D : va_G} {cI cZ : ClassId} {q : Nat → Nat} {v1 : Int32} {v2 : Int32} {σ : bx_St} {u : Int32} (hm : mX4_event v1 v2 σ = some u) : bx_Mt l D cI cZ yX4_event cX4_event 3 (some .int) 2 [.ref (q 0), .int v1, .int v2] (bx_mw q cI cZ σ) (some (.int u)) (bx_mw q cI cZ σ) := by
  refine bx_mk (by decide) (Nat.le_of_ble_eq_true rfl) (lv := [(0, .ref (q 0)), (1, .int v1), (2, .int v2)]) rfl (fun p e s m args below meth c A C => ?_)
  replace C : bx_Cx p s m args meth c 3 A D cI cZ RX4 cX4_event (some .int) := C
  unfold mX4_event at hm
  refine go_iload_n C dX4_event_0 rfl 1 rfl (n := 1) rfl ?_
  refine go_iconst C dX4_event_1 (v := (0 : Int32)) (by decide) (n := 2) rfl ?_
  refine go_aload_n C dX4_event_2 rfl 0 rfl (n := 3) rfl ?_
  refine go_get C dX4_event_3 (mf4_8 q cI cZ σ) rfl inX4 (by decide) fl_X4_126 (n := 6) rfl ?_
  refine go_iconst C dX4_event_6 (v := (1 : Int32)) (by decide) (n := 7) rfl ?_
  refine go_isub C dX4_event_7 (n := 8) rfl ?_
  refine go_callSi C dX4_event_8 mw_X4_within ml_X4_41 (rest := []) (ktX4_within rfl) (by decide) rfl rfl (Nat.le_of_ble_eq_true rfl) (n := 11) rfl ?_
  refine go_if_ne C 18 dX4_event_11 (by decide) (n := 14) rfl (fun c1 => ?_) (fun c1 => ?_)
  · have hm := bx_n c1 hm
    refine go_iload_n C dX4_event_18 rfl 2 rfl (n := 19) rfl ?_
    refine go_if_ne C 31 dX4_event_19 (by decide) (n := 22) rfl (fun c2 => ?_) (fun c2 => ?_)
    · have hm := bx_n c2 hm
      refine go_iload_n C dX4_event_31 rfl 2 rfl (n := 32) rfl ?_
      refine go_iconst C dX4_event_32 (v := (1 : Int32)) (by decide) (n := 33) rfl ?_
      refine go_icmp_ne C 45 dX4_event_33 (by decide) (n := 36) rfl (fun c3 => ?_) (fun c3 => ?_)
      · have hm := bx_n c3 hm
        refine go_sipush C dX4_event_45 (v := (-10003 : Int32)) (by decide) (n := 48) rfl ?_
        cases hm
        exact go_iret C dX4_event_48
      · have hm := bx_p c3 hm
        refine go_aload_n C dX4_event_36 rfl 0 rfl (n := 37) rfl ?_
        refine go_get C dX4_event_37 (mf4_10 q cI cZ σ) rfl inX4 (by decide) fl_X4_25 (n := 40) rfl ?_
        refine go_iload_n C dX4_event_40 rfl 1 rfl (n := 41) rfl ?_
        obtain ⟨b4, hm⟩ := bx_g hm
        refine go_iald C dX4_event_41 (ma_6 q cI cZ σ) b4 (n := 42) rfl ?_
        refine go_goto C 48 dX4_event_42 (by decide) ?_
        cases hm
        exact go_iret C dX4_event_48
    · have hm := bx_p c2 hm
      refine go_aload_n C dX4_event_22 rfl 0 rfl (n := 23) rfl ?_
      refine go_get C dX4_event_23 (mf4_9 q cI cZ σ) rfl inX4 (by decide) fl_X4_22 (n := 26) rfl ?_
      refine go_iload_n C dX4_event_26 rfl 1 rfl (n := 27) rfl ?_
      obtain ⟨b5, hm⟩ := bx_g hm
      refine go_iald C dX4_event_27 (ma_5 q cI cZ σ) b5 (n := 28) rfl ?_
      refine go_goto C 48 dX4_event_28 (by decide) ?_
      cases hm
      exact go_iret C dX4_event_48
  · have hm := bx_p c1 hm
    refine go_sipush C dX4_event_14 (v := (-10002 : Int32)) (by decide) (n := 17) rfl ?_
    cases hm
    exact go_iret C dX4_event_17
def mX4_fault (σ : bx_St) : Option (Int32 × bx_St) := (Option.bind (mX4_read σ) fun u1 => (some (u1.1, u1.2)))
set_option maxRecDepth 8000 in
set_option maxHeartbeats 4000000 in
theorem ktX4_fault {l : Launch} {D : va_G} {cI cZ : ClassId} {q : Nat → Nat} {σ : bx_St} {u : (Int32 × bx_St)} (hm : mX4_fault σ = some u) : bx_Mt l D cI cZ yX4_fault cX4_fault 1 (some .int) 4 [.ref (q 0)] (bx_mw q cI cZ σ) (some (.int u.1)) (bx_mw q cI cZ u.2) := by
  refine bx_mk (by decide) (Nat.le_of_ble_eq_true rfl) (lv := [(0, .ref (q 0))]) rfl (fun p e s m args below meth c A C => ?_)
  replace C : bx_Cx p s m args meth c 1 A D cI cZ RX4 cX4_fault (some .int) := C
  unfold mX4_fault at hm
  refine go_aload_n C dX4_fault_0 rfl 0 rfl (n := 1) rfl ?_
  obtain ⟨u1, e2, hm⟩ := bx_b hm
  refine go_callVi C dX4_fault_1 mw_X4_read ml_X4_69 (rest := []) (ktX4_read e2) (mo4 q cI cZ σ) rfl (by decide) rfl rfl (Nat.le_of_ble_eq_true rfl) (n := 4) rfl ?_
  cases hm
  exact go_iret C dX4_fault_4
def mX4_heap (v1 : Int32) (σ : bx_St) : Option Int32 := (if (mX4_within v1 (0 : Int32) (3 : Int32)) = 0 then (some (-10003 : Int32)) else (Option.bind (mX4_heapNow v1 σ) fun u2 => (some u2)))
set_option maxRecDepth 8000 in
set_option maxHeartbeats 4000000 in
theorem ktX4_heap {l : Launch} {D : va_G} {cI cZ : ClassId} {q : Nat → Nat} {v1 : Int32} {σ : bx_St} {u : Int32} (hm : mX4_heap v1 σ = some u) : bx_Mt l D cI cZ yX4_heap cX4_heap 2 (some .int) 6 [.ref (q 0), .int v1] (bx_mw q cI cZ σ) (some (.int u)) (bx_mw q cI cZ σ) := by
  refine bx_mk (by decide) (Nat.le_of_ble_eq_true rfl) (lv := [(0, .ref (q 0)), (1, .int v1)]) rfl (fun p e s m args below meth c A C => ?_)
  replace C : bx_Cx p s m args meth c 2 A D cI cZ RX4 cX4_heap (some .int) := C
  unfold mX4_heap at hm
  refine go_iload_n C dX4_heap_0 rfl 1 rfl (n := 1) rfl ?_
  refine go_iconst C dX4_heap_1 (v := (0 : Int32)) (by decide) (n := 2) rfl ?_
  refine go_iconst C dX4_heap_2 (v := (3 : Int32)) (by decide) (n := 3) rfl ?_
  refine go_callSi C dX4_heap_3 mw_X4_within ml_X4_41 (rest := []) (ktX4_within rfl) (by decide) rfl rfl (Nat.le_of_ble_eq_true rfl) (n := 6) rfl ?_
  refine go_if_eq C 17 dX4_heap_6 (by decide) (n := 9) rfl (fun c1 => ?_) (fun c1 => ?_)
  · have hm := bx_p c1 hm
    refine go_sipush C dX4_heap_17 (v := (-10003 : Int32)) (by decide) (n := 20) rfl ?_
    cases hm
    exact go_iret C dX4_heap_20
  · have hm := bx_n c1 hm
    refine go_aload_n C dX4_heap_9 rfl 0 rfl (n := 10) rfl ?_
    refine go_iload_n C dX4_heap_10 rfl 1 rfl (n := 11) rfl ?_
    obtain ⟨u2, e3, hm⟩ := bx_b hm
    refine go_callVi C dX4_heap_11 mw_X4_heapNow ml_X4_227 (rest := []) (ktX4_heapNow e3) (mo4 q cI cZ σ) rfl (by decide) rfl rfl (Nat.le_of_ble_eq_true rfl) (n := 14) rfl ?_
    refine go_goto C 20 dX4_heap_14 (by decide) ?_
    cases hm
    exact go_iret C dX4_heap_20
def mX4_latest (v1 : Int32) (σ : bx_St) : Option Int32 := (if (mX4_within v1 (0 : Int32) (6 : Int32)) = 0 then (some (-10003 : Int32)) else (Option.bind (mX4_latestNow v1 σ) fun u2 => (some u2)))
set_option maxRecDepth 8000 in
set_option maxHeartbeats 4000000 in
theorem ktX4_latest {l : Launch} {D : va_G} {cI cZ : ClassId} {q : Nat → Nat} {v1 : Int32} {σ : bx_St} {u : Int32} (hm : mX4_latest v1 σ = some u) : bx_Mt l D cI cZ yX4_latest cX4_latest 2 (some .int) 2 [.ref (q 0), .int v1] (bx_mw q cI cZ σ) (some (.int u)) (bx_mw q cI cZ σ) := by
  refine bx_mk (by decide) (Nat.le_of_ble_eq_true rfl) (lv := [(0, .ref (q 0)), (1, .int v1)]) rfl (fun p e s m args below meth c A C => ?_)
  replace C : bx_Cx p s m args meth c 2 A D cI cZ RX4 cX4_latest (some .int) := C
  unfold mX4_latest at hm
  refine go_iload_n C dX4_latest_0 rfl 1 rfl (n := 1) rfl ?_
  refine go_iconst C dX4_latest_1 (v := (0 : Int32)) (by decide) (n := 2) rfl ?_
  refine go_bipush C dX4_latest_2 (v := (6 : Int32)) (by decide) (n := 4) rfl ?_
  refine go_callSi C dX4_latest_4 mw_X4_within ml_X4_41 (rest := []) (ktX4_within rfl) (by decide) rfl rfl (Nat.le_of_ble_eq_true rfl) (n := 7) rfl ?_
  refine go_if_eq C 18 dX4_latest_7 (by decide) (n := 10) rfl (fun c1 => ?_) (fun c1 => ?_)
  · have hm := bx_p c1 hm
    refine go_sipush C dX4_latest_18 (v := (-10003 : Int32)) (by decide) (n := 21) rfl ?_
    cases hm
    exact go_iret C dX4_latest_21
  · have hm := bx_n c1 hm
    refine go_aload_n C dX4_latest_10 rfl 0 rfl (n := 11) rfl ?_
    refine go_iload_n C dX4_latest_11 rfl 1 rfl (n := 12) rfl ?_
    obtain ⟨u2, e3, hm⟩ := bx_b hm
    refine go_callVi C dX4_latest_12 mw_X4_latestNow ml_X4_205 (rest := []) (ktX4_latestNow e3) (mo4 q cI cZ σ) rfl (by decide) rfl rfl (Nat.le_of_ble_eq_true rfl) (n := 15) rfl ?_
    refine go_goto C 21 dX4_latest_15 (by decide) ?_
    cases hm
    exact go_iret C dX4_latest_21
end
