section
variable {p : Program} {l : Launch} {e : Env} {s : State} {m : MethodId} {args : Array Value} {below : List Frame} {meth : Method} {c : Code} {A : Nat → Prop} {D : va_G} {cI cZ : ClassId} {q : Nat → Nat} {ws : va_W}
def mX4_endChange_141 (s0 : Int32) (σ : bx_St) : Option bx_St := (bx_let (bx_up (bx_up σ 0 12 s0) 0 14 (((bx_up σ 0 12 s0).1 0 14) + ((bx_up σ 0 12 s0).1 0 11))) fun σ1 => (bx_let (bx_up σ1 0 15 ((σ1.1 0 15) + ((σ1.1 0 8) - (σ1.1 0 11)))) fun σ3 => (if bx_ok (0 : Int32) 3 then (if bx_ok (1 : Int32) 3 then (if bx_ok (2 : Int32) 3 then (bx_let (bx_up σ3 0 16 ((σ3.1 0 16) + (((σ3.1 7 (0 : Int32).toNatClampNeg) + (σ3.1 7 (1 : Int32).toNatClampNeg)) + (σ3.1 7 (2 : Int32).toNatClampNeg)))) fun σ8 => (bx_let (bx_up (bx_up σ8 0 17 ((σ8.1 0 17) + (σ8.1 0 12))) 0 18 (((bx_up σ8 0 17 ((σ8.1 0 17) + (σ8.1 0 12))).1 0 18) + (1 : Int32))) fun σ10 => (some σ10))) else none) else none) else none)))
set_option maxRecDepth 8000 in
set_option maxHeartbeats 4000000 in
theorem mX4_endChange_141_ok (C : bx_Cx p s m args meth c 4 A D cI cZ RX4 cX4_endChange none) : ∀ (s0 : Int32) (σ : bx_St) (u : bx_St), mX4_endChange_141 s0 σ = some u → bx_Go p l e (bx_rm 2) s m args below meth c 4 A D (MQ below (bx_Q none (bx_mw q cI cZ u) D A) args s 0 0 A) (bx_mw q cI cZ σ) 141 [(0, .ref (q 0))] [.int s0, .ref (q 0)] := by
  intro s0 σ u hm
  unfold mX4_endChange_141 at hm
  refine go_put C dX4_endChange_141 (mp4_12 q cI cZ σ s0) rfl inX4 tyX4_ok nmX4 (by decide) fl_X4_135 rfl (ty := .int) (by decide +kernel) (by rfl) (by rfl) (n := 144) rfl ?_
  refine go_aload_n C dX4_endChange_144 rfl 0 rfl (n := 145) rfl ?_
  refine go_dup C dX4_endChange_145 rfl (n := 146) rfl ?_
  refine go_get C dX4_endChange_146 (mf4_14 q cI cZ (bx_up σ 0 12 s0)) rfl inX4 (by decide) fl_X4_138 (n := 149) rfl ?_
  refine go_aload_n C dX4_endChange_149 rfl 0 rfl (n := 150) rfl ?_
  refine go_get C dX4_endChange_150 (mf4_11 q cI cZ (bx_up σ 0 12 s0)) rfl inX4 (by decide) fl_X4_129 (n := 153) rfl ?_
  refine go_iadd C dX4_endChange_153 (n := 154) rfl ?_
  obtain ⟨σ1, z2, hm⟩ := bx_lt hm
  refine go_put C dX4_endChange_154 (ws' := (bx_mw q cI cZ σ1)) (by rw [z2]; exact (mp4_14 q cI cZ (bx_up σ 0 12 s0) (((bx_up σ 0 12 s0).1 0 14) + ((bx_up σ 0 12 s0).1 0 11)))) rfl inX4 tyX4_ok nmX4 (by decide) fl_X4_138 rfl (ty := .int) (by decide +kernel) (by rfl) (by rfl) (n := 157) rfl ?_
  refine go_aload_n C dX4_endChange_157 rfl 0 rfl (n := 158) rfl ?_
  refine go_dup C dX4_endChange_158 rfl (n := 159) rfl ?_
  refine go_get C dX4_endChange_159 (mf4_15 q cI cZ σ1) rfl inX4 (by decide) fl_X4_141 (n := 162) rfl ?_
  refine go_aload_n C dX4_endChange_162 rfl 0 rfl (n := 163) rfl ?_
  refine go_get C dX4_endChange_163 (mf4_8 q cI cZ σ1) rfl inX4 (by decide) fl_X4_126 (n := 166) rfl ?_
  refine go_aload_n C dX4_endChange_166 rfl 0 rfl (n := 167) rfl ?_
  refine go_get C dX4_endChange_167 (mf4_11 q cI cZ σ1) rfl inX4 (by decide) fl_X4_129 (n := 170) rfl ?_
  refine go_isub C dX4_endChange_170 (n := 171) rfl ?_
  refine go_iadd C dX4_endChange_171 (n := 172) rfl ?_
  obtain ⟨σ3, z4, hm⟩ := bx_lt hm
  refine go_put C dX4_endChange_172 (ws' := (bx_mw q cI cZ σ3)) (by rw [z4]; exact (mp4_15 q cI cZ σ1 ((σ1.1 0 15) + ((σ1.1 0 8) - (σ1.1 0 11))))) rfl inX4 tyX4_ok nmX4 (by decide) fl_X4_141 rfl (ty := .int) (by decide +kernel) (by rfl) (by rfl) (n := 175) rfl ?_
  refine go_aload_n C dX4_endChange_175 rfl 0 rfl (n := 176) rfl ?_
  refine go_dup C dX4_endChange_176 rfl (n := 177) rfl ?_
  refine go_get C dX4_endChange_177 (mf4_16 q cI cZ σ3) rfl inX4 (by decide) fl_X4_144 (n := 180) rfl ?_
  refine go_aload_n C dX4_endChange_180 rfl 0 rfl (n := 181) rfl ?_
  refine go_get C dX4_endChange_181 (mf4_13 q cI cZ σ3) rfl inX4 (by decide) fl_X4_28 (n := 184) rfl ?_
  refine go_iconst C dX4_endChange_184 (v := (0 : Int32)) (by decide) (n := 185) rfl ?_
  obtain ⟨b5, hm⟩ := bx_g hm
  refine go_iald C dX4_endChange_185 (ma_7 q cI cZ σ3) b5 (n := 186) rfl ?_
  refine go_aload_n C dX4_endChange_186 rfl 0 rfl (n := 187) rfl ?_
  refine go_get C dX4_endChange_187 (mf4_13 q cI cZ σ3) rfl inX4 (by decide) fl_X4_28 (n := 190) rfl ?_
  refine go_iconst C dX4_endChange_190 (v := (1 : Int32)) (by decide) (n := 191) rfl ?_
  obtain ⟨b6, hm⟩ := bx_g hm
  refine go_iald C dX4_endChange_191 (ma_7 q cI cZ σ3) b6 (n := 192) rfl ?_
  refine go_iadd C dX4_endChange_192 (n := 193) rfl ?_
  refine go_aload_n C dX4_endChange_193 rfl 0 rfl (n := 194) rfl ?_
  refine go_get C dX4_endChange_194 (mf4_13 q cI cZ σ3) rfl inX4 (by decide) fl_X4_28 (n := 197) rfl ?_
  refine go_iconst C dX4_endChange_197 (v := (2 : Int32)) (by decide) (n := 198) rfl ?_
  obtain ⟨b7, hm⟩ := bx_g hm
  refine go_iald C dX4_endChange_198 (ma_7 q cI cZ σ3) b7 (n := 199) rfl ?_
  refine go_iadd C dX4_endChange_199 (n := 200) rfl ?_
  refine go_iadd C dX4_endChange_200 (n := 201) rfl ?_
  obtain ⟨σ8, z9, hm⟩ := bx_lt hm
  refine go_put C dX4_endChange_201 (ws' := (bx_mw q cI cZ σ8)) (by rw [z9]; exact (mp4_16 q cI cZ σ3 ((σ3.1 0 16) + (((σ3.1 7 (0 : Int32).toNatClampNeg) + (σ3.1 7 (1 : Int32).toNatClampNeg)) + (σ3.1 7 (2 : Int32).toNatClampNeg))))) rfl inX4 tyX4_ok nmX4 (by decide) fl_X4_144 rfl (ty := .int) (by decide +kernel) (by rfl) (by rfl) (n := 204) rfl ?_
  refine go_aload_n C dX4_endChange_204 rfl 0 rfl (n := 205) rfl ?_
  refine go_dup C dX4_endChange_205 rfl (n := 206) rfl ?_
  refine go_get C dX4_endChange_206 (mf4_17 q cI cZ σ8) rfl inX4 (by decide) fl_X4_147 (n := 209) rfl ?_
  refine go_aload_n C dX4_endChange_209 rfl 0 rfl (n := 210) rfl ?_
  refine go_get C dX4_endChange_210 (mf4_12 q cI cZ σ8) rfl inX4 (by decide) fl_X4_135 (n := 213) rfl ?_
  refine go_iadd C dX4_endChange_213 (n := 214) rfl ?_
  refine go_put C dX4_endChange_214 (mp4_17 q cI cZ σ8 ((σ8.1 0 17) + (σ8.1 0 12))) rfl inX4 tyX4_ok nmX4 (by decide) fl_X4_147 rfl (ty := .int) (by decide +kernel) (by rfl) (by rfl) (n := 217) rfl ?_
  refine go_aload_n C dX4_endChange_217 rfl 0 rfl (n := 218) rfl ?_
  refine go_dup C dX4_endChange_218 rfl (n := 219) rfl ?_
  refine go_get C dX4_endChange_219 (mf4_18 q cI cZ (bx_up σ8 0 17 ((σ8.1 0 17) + (σ8.1 0 12)))) rfl inX4 (by decide) fl_X4_150 (n := 222) rfl ?_
  refine go_iconst C dX4_endChange_222 (v := (1 : Int32)) (by decide) (n := 223) rfl ?_
  refine go_iadd C dX4_endChange_223 (n := 224) rfl ?_
  obtain ⟨σ10, z11, hm⟩ := bx_lt hm
  refine go_put C dX4_endChange_224 (ws' := (bx_mw q cI cZ σ10)) (by rw [z11]; exact (mp4_18 q cI cZ (bx_up σ8 0 17 ((σ8.1 0 17) + (σ8.1 0 12))) (((bx_up σ8 0 17 ((σ8.1 0 17) + (σ8.1 0 12))).1 0 18) + (1 : Int32)))) rfl inX4 tyX4_ok nmX4 (by decide) fl_X4_150 rfl (ty := .int) (by decide +kernel) (by rfl) (by rfl) (n := 227) rfl ?_
  cases hm
  exact go_vret C dX4_endChange_227
def mX4_endChange_114 (K12 : Int32 → Int32 → bx_St → Option bx_St) (K22 : Int32 → Int32 → Int32 → bx_St → Option bx_St) (v1 : Int32) (v2 : Int32) (v3 : Int32) (σ : bx_St) : Option bx_St := (K22 v1 v2 (v3 + 1) σ)
set_option maxRecDepth 8000 in
set_option maxHeartbeats 4000000 in
theorem mX4_endChange_114_ok (C : bx_Cx p s m args meth c 4 A D cI cZ RX4 cX4_endChange none) (K12 : Int32 → Int32 → bx_St → Option bx_St) (HK12 : ∀ (v1 : Int32) (v2 : Int32) (σ : bx_St) (u : bx_St), K12 v1 v2 σ = some u → bx_Go p l e (bx_rm 2) s m args below meth c 4 A D (MQ below (bx_Q none (bx_mw q cI cZ u) D A) args s 0 0 A) (bx_mw q cI cZ σ) 12 [(0, .ref (q 0)), (1, .int v1), (2, .int v2)] []) (K22 : Int32 → Int32 → Int32 → bx_St → Option bx_St) (HK22 : ∀ (v1 : Int32) (v2 : Int32) (v3 : Int32) (σ : bx_St) (u : bx_St), K22 v1 v2 v3 σ = some u → bx_Go p l e (bx_rm 2) s m args below meth c 4 A D (MQ below (bx_Q none (bx_mw q cI cZ u) D A) args s 0 0 A) (bx_mw q cI cZ σ) 22 [(0, .ref (q 0)), (1, .int v1), (2, .int v2), (3, .int v3)] []) : ∀ (v1 : Int32) (v2 : Int32) (v3 : Int32) (σ : bx_St) (u : bx_St), mX4_endChange_114 K12 K22 v1 v2 v3 σ = some u → bx_Go p l e (bx_rm 2) s m args below meth c 4 A D (MQ below (bx_Q none (bx_mw q cI cZ u) D A) args s 0 0 A) (bx_mw q cI cZ σ) 114 [(0, .ref (q 0)), (1, .int v1), (2, .int v2), (3, .int v3)] [] := by
  intro v1 v2 v3 σ u hm
  unfold mX4_endChange_114 at hm
  refine go_iinc C (j := 3) dX4_endChange_114 rfl (v := (v3 + 1)) rfl (by decide) (lv' := [(3, .int (v3 + 1)), (0, .ref (q 0)), (1, .int v1), (2, .int v2)]) rfl (n := 117) rfl ?_
  refine go_goto C 22 dX4_endChange_117 (by decide) ?_
  refine go_lv (lv' := [(0, .ref (q 0)), (1, .int v1), (2, .int v2), (3, .int (v3 + 1))]) [1, 2, 3, 0] rfl ?_
  exact HK22 _ _ _ _ _ hm
def mX4_endChange_85 (K12 : Int32 → Int32 → bx_St → Option bx_St) (K22 : Int32 → Int32 → Int32 → bx_St → Option bx_St) (v1 : Int32) (v2 : Int32) (v3 : Int32) (s0 : Int32) (s1 : Int32) (σ : bx_St) : Option bx_St := (if bx_ok s1 66 then (if bx_ok ((bx_up σ 6 s1.toNatClampNeg s0).1 0 8) 66 then (bx_let (bx_up (bx_up σ 6 s1.toNatClampNeg s0) 0 11 (((bx_up σ 6 s1.toNatClampNeg s0).1 0 11) + ((bx_up σ 6 s1.toNatClampNeg s0).1 6 ((bx_up σ 6 s1.toNatClampNeg s0).1 0 8).toNatClampNeg))) fun σ3 => (mX4_endChange_114 K12 K22 v1 v2 v3 (bx_up σ3 0 8 ((σ3.1 0 8) + (1 : Int32))))) else none) else none)
set_option maxRecDepth 8000 in
set_option maxHeartbeats 4000000 in
theorem mX4_endChange_85_ok (C : bx_Cx p s m args meth c 4 A D cI cZ RX4 cX4_endChange none) (K12 : Int32 → Int32 → bx_St → Option bx_St) (HK12 : ∀ (v1 : Int32) (v2 : Int32) (σ : bx_St) (u : bx_St), K12 v1 v2 σ = some u → bx_Go p l e (bx_rm 2) s m args below meth c 4 A D (MQ below (bx_Q none (bx_mw q cI cZ u) D A) args s 0 0 A) (bx_mw q cI cZ σ) 12 [(0, .ref (q 0)), (1, .int v1), (2, .int v2)] []) (K22 : Int32 → Int32 → Int32 → bx_St → Option bx_St) (HK22 : ∀ (v1 : Int32) (v2 : Int32) (v3 : Int32) (σ : bx_St) (u : bx_St), K22 v1 v2 v3 σ = some u → bx_Go p l e (bx_rm 2) s m args below meth c 4 A D (MQ below (bx_Q none (bx_mw q cI cZ u) D A) args s 0 0 A) (bx_mw q cI cZ σ) 22 [(0, .ref (q 0)), (1, .int v1), (2, .int v2), (3, .int v3)] []) : ∀ (v1 : Int32) (v2 : Int32) (v3 : Int32) (s0 : Int32) (s1 : Int32) (σ : bx_St) (u : bx_St), mX4_endChange_85 K12 K22 v1 v2 v3 s0 s1 σ = some u → bx_Go p l e (bx_rm 2) s m args below meth c 4 A D (MQ below (bx_Q none (bx_mw q cI cZ u) D A) args s 0 0 A) (bx_mw q cI cZ σ) 85 [(0, .ref (q 0)), (1, .int v1), (2, .int v2), (3, .int v3)] [.int s0, .int s1, .ref (q 6)] := by
  intro v1 v2 v3 s0 s1 σ u hm
  unfold mX4_endChange_85 at hm
  obtain ⟨b1, hm⟩ := bx_g hm
  refine go_iast C dX4_endChange_85 (mu_6 q cI cZ σ s1 s0) b1 (n := 86) rfl ?_
  refine go_aload_n C dX4_endChange_86 rfl 0 rfl (n := 87) rfl ?_
  refine go_dup C dX4_endChange_87 rfl (n := 88) rfl ?_
  refine go_get C dX4_endChange_88 (mf4_11 q cI cZ (bx_up σ 6 s1.toNatClampNeg s0)) rfl inX4 (by decide) fl_X4_129 (n := 91) rfl ?_
  refine go_aload_n C dX4_endChange_91 rfl 0 rfl (n := 92) rfl ?_
  refine go_get C dX4_endChange_92 (mf4_10 q cI cZ (bx_up σ 6 s1.toNatClampNeg s0)) rfl inX4 (by decide) fl_X4_25 (n := 95) rfl ?_
  refine go_aload_n C dX4_endChange_95 rfl 0 rfl (n := 96) rfl ?_
  refine go_get C dX4_endChange_96 (mf4_8 q cI cZ (bx_up σ 6 s1.toNatClampNeg s0)) rfl inX4 (by decide) fl_X4_126 (n := 99) rfl ?_
  obtain ⟨b2, hm⟩ := bx_g hm
  refine go_iald C dX4_endChange_99 (ma_6 q cI cZ (bx_up σ 6 s1.toNatClampNeg s0)) b2 (n := 100) rfl ?_
  refine go_iadd C dX4_endChange_100 (n := 101) rfl ?_
  obtain ⟨σ3, z4, hm⟩ := bx_lt hm
  refine go_put C dX4_endChange_101 (ws' := (bx_mw q cI cZ σ3)) (by rw [z4]; exact (mp4_11 q cI cZ (bx_up σ 6 s1.toNatClampNeg s0) (((bx_up σ 6 s1.toNatClampNeg s0).1 0 11) + ((bx_up σ 6 s1.toNatClampNeg s0).1 6 ((bx_up σ 6 s1.toNatClampNeg s0).1 0 8).toNatClampNeg)))) rfl inX4 tyX4_ok nmX4 (by decide) fl_X4_129 rfl (ty := .int) (by decide +kernel) (by rfl) (by rfl) (n := 104) rfl ?_
  refine go_aload_n C dX4_endChange_104 rfl 0 rfl (n := 105) rfl ?_
  refine go_dup C dX4_endChange_105 rfl (n := 106) rfl ?_
  refine go_get C dX4_endChange_106 (mf4_8 q cI cZ σ3) rfl inX4 (by decide) fl_X4_126 (n := 109) rfl ?_
  refine go_iconst C dX4_endChange_109 (v := (1 : Int32)) (by decide) (n := 110) rfl ?_
  refine go_iadd C dX4_endChange_110 (n := 111) rfl ?_
  refine go_put C dX4_endChange_111 (mp4_8 q cI cZ σ3 ((σ3.1 0 8) + (1 : Int32))) rfl inX4 tyX4_ok nmX4 (by decide) fl_X4_126 rfl (ty := .int) (by decide +kernel) (by rfl) (by rfl) (n := 114) rfl ?_
  refine go_lv (lv' := [(0, .ref (q 0)), (1, .int v1), (2, .int v2), (3, .int v3)]) [0, 1, 2, 3] rfl ?_
  exact mX4_endChange_114_ok C _ HK12 _ HK22 _ _ _ _ _ hm
def mX4_endChange_22 (K12 : Int32 → Int32 → bx_St → Option bx_St) : Nat → Int32 → Int32 → Int32 → bx_St → Option bx_St
  | 0, _, _, _, _ => none
  | n + 1, v1, v2, v3, σ => (if (12 : Int32) ≤ v3 then (K12 v1 (v2 + 1) σ) else (if bx_ok (((12 : Int32) * v2) + v3) 144 then (Option.bind (mX4_areOver v2 v3 σ) fun u3 => (if (σ.1 9 (((12 : Int32) * v2) + v3).toNatClampNeg) = u3 then (mX4_endChange_114 K12 (mX4_endChange_22 K12 n) v1 v2 v3 σ) else (if bx_ok (σ.1 0 8) 66 then (bx_let (bx_up σ 5 (σ.1 0 8).toNatClampNeg (((12 : Int32) * v2) + v3)) fun σ7 => (Option.bind (mX4_areOver v2 v3 σ7) fun u9 => (if u9 = 0 then (mX4_endChange_85 K12 (mX4_endChange_22 K12 n) v1 v2 v3 (0 : Int32) (σ7.1 0 8) σ7) else (mX4_endChange_85 K12 (mX4_endChange_22 K12 n) v1 v2 v3 (1 : Int32) (σ7.1 0 8) σ7)))) else none))) else none))
set_option maxRecDepth 8000 in
set_option maxHeartbeats 4000000 in
theorem mX4_endChange_22_ok (C : bx_Cx p s m args meth c 4 A D cI cZ RX4 cX4_endChange none) (K12 : Int32 → Int32 → bx_St → Option bx_St) (HK12 : ∀ (v1 : Int32) (v2 : Int32) (σ : bx_St) (u : bx_St), K12 v1 v2 σ = some u → bx_Go p l e (bx_rm 2) s m args below meth c 4 A D (MQ below (bx_Q none (bx_mw q cI cZ u) D A) args s 0 0 A) (bx_mw q cI cZ σ) 12 [(0, .ref (q 0)), (1, .int v1), (2, .int v2)] []) : ∀ (n : Nat) (v1 : Int32) (v2 : Int32) (v3 : Int32) (σ : bx_St) (u : bx_St), mX4_endChange_22 K12 n v1 v2 v3 σ = some u → bx_Go p l e (bx_rm 2) s m args below meth c 4 A D (MQ below (bx_Q none (bx_mw q cI cZ u) D A) args s 0 0 A) (bx_mw q cI cZ σ) 22 [(0, .ref (q 0)), (1, .int v1), (2, .int v2), (3, .int v3)] [] := by
  intro n
  induction n with
  | zero =>
    intro v1 v2 v3 σ u hm
    cases hm
  | succ n ih =>
    intro v1 v2 v3 σ u hm
    rw [mX4_endChange_22] at hm
    refine go_iload_n C dX4_endChange_22 rfl 3 rfl (n := 23) rfl ?_
    refine go_bipush C dX4_endChange_23 (v := (12 : Int32)) (by decide) (n := 25) rfl ?_
    refine go_icmp_ge C 120 dX4_endChange_25 (by decide) (n := 28) rfl (fun c1 => ?_) (fun c1 => ?_)
    · have hm := bx_p c1 hm
      refine go_iinc C (j := 2) dX4_endChange_120 rfl (v := (v2 + 1)) rfl (by decide) (lv' := [(2, .int (v2 + 1)), (0, .ref (q 0)), (1, .int v1), (3, .int v3)]) rfl (n := 123) rfl ?_
      refine go_goto C 12 dX4_endChange_123 (by decide) ?_
      refine go_lv (lv' := [(0, .ref (q 0)), (1, .int v1), (2, .int (v2 + 1))]) [1, 2, 0] rfl ?_
      exact HK12 _ _ _ _ hm
    · have hm := bx_n c1 hm
      refine go_aload_n C dX4_endChange_28 rfl 0 rfl (n := 29) rfl ?_
      refine go_get C dX4_endChange_29 (mf4_23 q cI cZ σ) rfl inX4 (by decide) fl_X4_34 (n := 32) rfl ?_
      refine go_bipush C dX4_endChange_32 (v := (12 : Int32)) (by decide) (n := 34) rfl ?_
      refine go_iload_n C dX4_endChange_34 rfl 2 rfl (n := 35) rfl ?_
      refine go_imul C dX4_endChange_35 (n := 36) rfl ?_
      refine go_iload_n C dX4_endChange_36 rfl 3 rfl (n := 37) rfl ?_
      refine go_iadd C dX4_endChange_37 (n := 38) rfl ?_
      obtain ⟨b2, hm⟩ := bx_g hm
      refine go_zald C dX4_endChange_38 (ma_9 q cI cZ σ) b2 (n := 39) rfl ?_
      refine go_aload_n C dX4_endChange_39 rfl 0 rfl (n := 40) rfl ?_
      refine go_iload_n C dX4_endChange_40 rfl 2 rfl (n := 41) rfl ?_
      refine go_iload_n C dX4_endChange_41 rfl 3 rfl (n := 42) rfl ?_
      obtain ⟨u3, e4, hm⟩ := bx_b hm
      refine go_callVi C dX4_endChange_42 mw_X4_areOver ml_X4_132 (rest := [.int (σ.1 9 (((12 : Int32) * v2) + v3).toNatClampNeg)]) (ktX4_areOver e4) (mo4 q cI cZ σ) rfl (by decide) rfl rfl (Nat.le_of_ble_eq_true rfl) (n := 45) rfl ?_
      refine go_icmp_eq C 114 dX4_endChange_45 (by decide) (n := 48) rfl (fun c5 => ?_) (fun c5 => ?_)
      · have hm := bx_p c5 hm
        refine go_lv (lv' := [(0, .ref (q 0)), (1, .int v1), (2, .int v2), (3, .int v3)]) [0, 1, 2, 3] rfl ?_
        exact mX4_endChange_114_ok C _ HK12 _ ih _ _ _ _ _ hm
      · have hm := bx_n c5 hm
        refine go_aload_n C dX4_endChange_48 rfl 0 rfl (n := 49) rfl ?_
        refine go_get C dX4_endChange_49 (mf4_9 q cI cZ σ) rfl inX4 (by decide) fl_X4_22 (n := 52) rfl ?_
        refine go_aload_n C dX4_endChange_52 rfl 0 rfl (n := 53) rfl ?_
        refine go_get C dX4_endChange_53 (mf4_8 q cI cZ σ) rfl inX4 (by decide) fl_X4_126 (n := 56) rfl ?_
        refine go_bipush C dX4_endChange_56 (v := (12 : Int32)) (by decide) (n := 58) rfl ?_
        refine go_iload_n C dX4_endChange_58 rfl 2 rfl (n := 59) rfl ?_
        refine go_imul C dX4_endChange_59 (n := 60) rfl ?_
        refine go_iload_n C dX4_endChange_60 rfl 3 rfl (n := 61) rfl ?_
        refine go_iadd C dX4_endChange_61 (n := 62) rfl ?_
        obtain ⟨b6, hm⟩ := bx_g hm
        obtain ⟨σ7, z8, hm⟩ := bx_lt hm
        refine go_iast C dX4_endChange_62 (ws' := (bx_mw q cI cZ σ7)) (by rw [z8]; exact (mu_5 q cI cZ σ (σ.1 0 8) (((12 : Int32) * v2) + v3))) b6 (n := 63) rfl ?_
        refine go_aload_n C dX4_endChange_63 rfl 0 rfl (n := 64) rfl ?_
        refine go_get C dX4_endChange_64 (mf4_10 q cI cZ σ7) rfl inX4 (by decide) fl_X4_25 (n := 67) rfl ?_
        refine go_aload_n C dX4_endChange_67 rfl 0 rfl (n := 68) rfl ?_
        refine go_get C dX4_endChange_68 (mf4_8 q cI cZ σ7) rfl inX4 (by decide) fl_X4_126 (n := 71) rfl ?_
        refine go_aload_n C dX4_endChange_71 rfl 0 rfl (n := 72) rfl ?_
        refine go_iload_n C dX4_endChange_72 rfl 2 rfl (n := 73) rfl ?_
        refine go_iload_n C dX4_endChange_73 rfl 3 rfl (n := 74) rfl ?_
        obtain ⟨u9, e10, hm⟩ := bx_b hm
        refine go_callVi C dX4_endChange_74 mw_X4_areOver ml_X4_132 (rest := [.int (σ7.1 0 8), .ref (q 6)]) (ktX4_areOver e10) (mo4 q cI cZ σ7) rfl (by decide) rfl rfl (Nat.le_of_ble_eq_true rfl) (n := 77) rfl ?_
        refine go_if_eq C 84 dX4_endChange_77 (by decide) (n := 80) rfl (fun c11 => ?_) (fun c11 => ?_)
        · have hm := bx_p c11 hm
          refine go_iconst C dX4_endChange_84 (v := (0 : Int32)) (by decide) (n := 85) rfl ?_
          refine go_lv (lv' := [(0, .ref (q 0)), (1, .int v1), (2, .int v2), (3, .int v3)]) [0, 1, 2, 3] rfl ?_
          exact mX4_endChange_85_ok C _ HK12 _ ih _ _ _ _ _ _ _ hm
        · have hm := bx_n c11 hm
          refine go_iconst C dX4_endChange_80 (v := (1 : Int32)) (by decide) (n := 81) rfl ?_
          refine go_goto C 85 dX4_endChange_81 (by decide) ?_
          refine go_lv (lv' := [(0, .ref (q 0)), (1, .int v1), (2, .int v2), (3, .int v3)]) [0, 1, 2, 3] rfl ?_
          exact mX4_endChange_85_ok C _ HK12 _ ih _ _ _ _ _ _ _ hm
def mX4_endChange_12 : Nat → Int32 → Int32 → bx_St → Option bx_St
  | 0, _, _, _ => none
  | n + 1, v1, v2, σ => (if (12 : Int32) ≤ v2 then (if v1 ≤ 0 then (mX4_endChange_141 (0 : Int32) σ) else (mX4_endChange_141 (v1 - (σ.1 0 8)) σ)) else (mX4_endChange_22 (mX4_endChange_12 n) bx_F v1 v2 (v2 + (1 : Int32)) σ))
set_option maxRecDepth 8000 in
set_option maxHeartbeats 4000000 in
theorem mX4_endChange_12_ok (C : bx_Cx p s m args meth c 4 A D cI cZ RX4 cX4_endChange none) : ∀ (n : Nat) (v1 : Int32) (v2 : Int32) (σ : bx_St) (u : bx_St), mX4_endChange_12 n v1 v2 σ = some u → bx_Go p l e (bx_rm 2) s m args below meth c 4 A D (MQ below (bx_Q none (bx_mw q cI cZ u) D A) args s 0 0 A) (bx_mw q cI cZ σ) 12 [(0, .ref (q 0)), (1, .int v1), (2, .int v2)] [] := by
  intro n
  induction n with
  | zero =>
    intro v1 v2 σ u hm
    cases hm
  | succ n ih =>
    intro v1 v2 σ u hm
    rw [mX4_endChange_12] at hm
    refine go_iload_n C dX4_endChange_12 rfl 2 rfl (n := 13) rfl ?_
    refine go_bipush C dX4_endChange_13 (v := (12 : Int32)) (by decide) (n := 15) rfl ?_
    refine go_icmp_ge C 126 dX4_endChange_15 (by decide) (n := 18) rfl (fun c1 => ?_) (fun c1 => ?_)
    · have hm := bx_p c1 hm
      refine go_aload_n C dX4_endChange_126 rfl 0 rfl (n := 127) rfl ?_
      refine go_iload_n C dX4_endChange_127 rfl 1 rfl (n := 128) rfl ?_
      refine go_if_le C 140 dX4_endChange_128 (by decide) (n := 131) rfl (fun c2 => ?_) (fun c2 => ?_)
      · have hm := bx_p c2 hm
        refine go_iconst C dX4_endChange_140 (v := (0 : Int32)) (by decide) (n := 141) rfl ?_
        refine go_lv (lv' := [(0, .ref (q 0))]) [0] rfl ?_
        exact mX4_endChange_141_ok C _ _ _ hm
      · have hm := bx_n c2 hm
        refine go_iload_n C dX4_endChange_131 rfl 1 rfl (n := 132) rfl ?_
        refine go_aload_n C dX4_endChange_132 rfl 0 rfl (n := 133) rfl ?_
        refine go_get C dX4_endChange_133 (mf4_8 q cI cZ σ) rfl inX4 (by decide) fl_X4_126 (n := 136) rfl ?_
        refine go_isub C dX4_endChange_136 (n := 137) rfl ?_
        refine go_goto C 141 dX4_endChange_137 (by decide) ?_
        refine go_lv (lv' := [(0, .ref (q 0))]) [0] rfl ?_
        exact mX4_endChange_141_ok C _ _ _ hm
    · have hm := bx_n c1 hm
      refine go_iload_n C dX4_endChange_18 rfl 2 rfl (n := 19) rfl ?_
      refine go_iconst C dX4_endChange_19 (v := (1 : Int32)) (by decide) (n := 20) rfl ?_
      refine go_iadd C dX4_endChange_20 (n := 21) rfl ?_
      refine go_istore_n C dX4_endChange_21 rfl (by decide) (lv' := [(3, .int (v2 + (1 : Int32))), (0, .ref (q 0)), (1, .int v1), (2, .int v2)]) rfl (n := 22) rfl ?_
      refine go_lv (lv' := [(0, .ref (q 0)), (1, .int v1), (2, .int v2), (3, .int (v2 + (1 : Int32)))]) [1, 2, 3, 0] rfl ?_
      exact mX4_endChange_22_ok C _ ih _ _ _ _ _ _ hm
def mX4_endChange (v1 : Int32) (σ : bx_St) : Option bx_St := (bx_let (bx_up (bx_up σ 0 8 (0 : Int32)) 0 11 (0 : Int32)) fun σ1 => (mX4_endChange_12 bx_F v1 (0 : Int32) σ1))
set_option maxRecDepth 8000 in
set_option maxHeartbeats 4000000 in
theorem ktX4_endChange {l : Launch} {D : va_G} {cI cZ : ClassId} {q : Nat → Nat} {v1 : Int32} {σ : bx_St} {u : bx_St} (hm : mX4_endChange v1 σ = some u) : bx_Mt l D cI cZ yX4_endChange cX4_endChange 4 none 2 [.ref (q 0), .int v1] (bx_mw q cI cZ σ) none (bx_mw q cI cZ u) := by
  refine bx_mk (by decide) (Nat.le_of_ble_eq_true rfl) (lv := [(0, .ref (q 0)), (1, .int v1)]) rfl (fun p e s m args below meth c A C => ?_)
  replace C : bx_Cx p s m args meth c 4 A D cI cZ RX4 cX4_endChange none := C
  unfold mX4_endChange at hm
  refine go_aload_n C dX4_endChange_0 rfl 0 rfl (n := 1) rfl ?_
  refine go_iconst C dX4_endChange_1 (v := (0 : Int32)) (by decide) (n := 2) rfl ?_
  refine go_put C dX4_endChange_2 (mp4_8 q cI cZ σ (0 : Int32)) rfl inX4 tyX4_ok nmX4 (by decide) fl_X4_126 rfl (ty := .int) (by decide +kernel) (by rfl) (by rfl) (n := 5) rfl ?_
  refine go_aload_n C dX4_endChange_5 rfl 0 rfl (n := 6) rfl ?_
  refine go_iconst C dX4_endChange_6 (v := (0 : Int32)) (by decide) (n := 7) rfl ?_
  obtain ⟨σ1, z2, hm⟩ := bx_lt hm
  refine go_put C dX4_endChange_7 (ws' := (bx_mw q cI cZ σ1)) (by rw [z2]; exact (mp4_11 q cI cZ (bx_up σ 0 8 (0 : Int32)) (0 : Int32))) rfl inX4 tyX4_ok nmX4 (by decide) fl_X4_129 rfl (ty := .int) (by decide +kernel) (by rfl) (by rfl) (n := 10) rfl ?_
  refine go_iconst C dX4_endChange_10 (v := (0 : Int32)) (by decide) (n := 11) rfl ?_
  refine go_istore_n C dX4_endChange_11 rfl (by decide) (lv' := [(2, .int (0 : Int32)), (0, .ref (q 0)), (1, .int v1)]) rfl (n := 12) rfl ?_
  refine go_lv (lv' := [(0, .ref (q 0)), (1, .int v1), (2, .int (0 : Int32))]) [1, 2, 0] rfl ?_
  exact mX4_endChange_12_ok C _ _ _ _ _ hm
def mX4_keepNumber_27 (s0 : Int32) (s1 : Int32) (σ : bx_St) : Option bx_St := (if bx_ok s1 24 then (bx_let (bx_up (bx_up σ 8 s1.toNatClampNeg s0) 0 19 (((bx_up σ 8 s1.toNatClampNeg s0).1 0 19) + (1 : Int32))) fun σ2 => (bx_let (bx_up (bx_up σ2 0 21 (-10001 : Int32)) 0 22 (0 : Int32)) fun σ4 => (some σ4))) else none)
set_option maxRecDepth 8000 in
set_option maxHeartbeats 4000000 in
theorem mX4_keepNumber_27_ok (C : bx_Cx p s m args meth c 1 A D cI cZ RX4 cX4_keepNumber none) : ∀ (s0 : Int32) (s1 : Int32) (σ : bx_St) (u : bx_St), mX4_keepNumber_27 s0 s1 σ = some u → bx_Go p l e (bx_rm 1) s m args below meth c 1 A D (MQ below (bx_Q none (bx_mw q cI cZ u) D A) args s 0 0 A) (bx_mw q cI cZ σ) 27 [(0, .ref (q 0))] [.int s0, .int s1, .ref (q 8)] := by
  intro s0 s1 σ u hm
  unfold mX4_keepNumber_27 at hm
  obtain ⟨b1, hm⟩ := bx_g hm
  refine go_iast C dX4_keepNumber_27 (mu_8 q cI cZ σ s1 s0) b1 (n := 28) rfl ?_
  refine go_aload_n C dX4_keepNumber_28 rfl 0 rfl (n := 29) rfl ?_
  refine go_dup C dX4_keepNumber_29 rfl (n := 30) rfl ?_
  refine go_get C dX4_keepNumber_30 (mf4_19 q cI cZ (bx_up σ 8 s1.toNatClampNeg s0)) rfl inX4 (by decide) fl_X4_60 (n := 33) rfl ?_
  refine go_iconst C dX4_keepNumber_33 (v := (1 : Int32)) (by decide) (n := 34) rfl ?_
  refine go_iadd C dX4_keepNumber_34 (n := 35) rfl ?_
  obtain ⟨σ2, z3, hm⟩ := bx_lt hm
  refine go_put C dX4_keepNumber_35 (ws' := (bx_mw q cI cZ σ2)) (by rw [z3]; exact (mp4_19 q cI cZ (bx_up σ 8 s1.toNatClampNeg s0) (((bx_up σ 8 s1.toNatClampNeg s0).1 0 19) + (1 : Int32)))) rfl inX4 tyX4_ok nmX4 (by decide) fl_X4_60 rfl (ty := .int) (by decide +kernel) (by rfl) (by rfl) (n := 38) rfl ?_
  refine go_aload_n C dX4_keepNumber_38 rfl 0 rfl (n := 39) rfl ?_
  refine go_sipush C dX4_keepNumber_39 (v := (-10001 : Int32)) (by decide) (n := 42) rfl ?_
  refine go_put C dX4_keepNumber_42 (mp4_21 q cI cZ σ2 (-10001 : Int32)) rfl inX4 tyX4_ok nmX4 (by decide) fl_X4_49 rfl (ty := .int) (by decide +kernel) (by rfl) (by rfl) (n := 45) rfl ?_
  refine go_aload_n C dX4_keepNumber_45 rfl 0 rfl (n := 46) rfl ?_
  refine go_iconst C dX4_keepNumber_46 (v := (0 : Int32)) (by decide) (n := 47) rfl ?_
  obtain ⟨σ4, z5, hm⟩ := bx_lt hm
  refine go_put C dX4_keepNumber_47 (ws' := (bx_mw q cI cZ σ4)) (by rw [z5]; exact (mp4_22 q cI cZ (bx_up σ2 0 21 (-10001 : Int32)) (0 : Int32))) rfl inX4 tyX4_ok nmX4 (by decide) fl_X4_52 rfl (ty := .boolean) (by decide +kernel) (by rfl) (by rfl) (n := 50) rfl ?_
  cases hm
  exact go_vret C dX4_keepNumber_50
def mX4_keepNumber (σ : bx_St) : Option bx_St := (if (σ.1 0 22) = 0 then (mX4_keepNumber_27 (σ.1 0 21) (σ.1 0 19) σ) else (mX4_keepNumber_27 (-(σ.1 0 21)) (σ.1 0 19) σ))
set_option maxRecDepth 8000 in
set_option maxHeartbeats 4000000 in
theorem ktX4_keepNumber {l : Launch} {D : va_G} {cI cZ : ClassId} {q : Nat → Nat} {σ : bx_St} {u : bx_St} (hm : mX4_keepNumber σ = some u) : bx_Mt l D cI cZ yX4_keepNumber cX4_keepNumber 1 none 1 [.ref (q 0)] (bx_mw q cI cZ σ) none (bx_mw q cI cZ u) := by
  refine bx_mk (by decide) (Nat.le_of_ble_eq_true rfl) (lv := [(0, .ref (q 0))]) rfl (fun p e s m args below meth c A C => ?_)
  replace C : bx_Cx p s m args meth c 1 A D cI cZ RX4 cX4_keepNumber none := C
  unfold mX4_keepNumber at hm
  refine go_aload_n C dX4_keepNumber_0 rfl 0 rfl (n := 1) rfl ?_
  refine go_get C dX4_keepNumber_1 (mf4_20 q cI cZ σ) rfl inX4 (by decide) fl_X4_31 (n := 4) rfl ?_
  refine go_aload_n C dX4_keepNumber_4 rfl 0 rfl (n := 5) rfl ?_
  refine go_get C dX4_keepNumber_5 (mf4_19 q cI cZ σ) rfl inX4 (by decide) fl_X4_60 (n := 8) rfl ?_
  refine go_aload_n C dX4_keepNumber_8 rfl 0 rfl (n := 9) rfl ?_
  refine go_get C dX4_keepNumber_9 (mf4_22 q cI cZ σ) rfl inX4 (by decide) fl_X4_52 (n := 12) rfl ?_
  refine go_if_eq C 23 dX4_keepNumber_12 (by decide) (n := 15) rfl (fun c1 => ?_) (fun c1 => ?_)
  · have hm := bx_p c1 hm
    refine go_aload_n C dX4_keepNumber_23 rfl 0 rfl (n := 24) rfl ?_
    refine go_get C dX4_keepNumber_24 (mf4_21 q cI cZ σ) rfl inX4 (by decide) fl_X4_49 (n := 27) rfl ?_
    refine go_lv (lv' := [(0, .ref (q 0))]) [0] rfl ?_
    exact mX4_keepNumber_27_ok C _ _ _ _ hm
  · have hm := bx_n c1 hm
    refine go_aload_n C dX4_keepNumber_15 rfl 0 rfl (n := 16) rfl ?_
    refine go_get C dX4_keepNumber_16 (mf4_21 q cI cZ σ) rfl inX4 (by decide) fl_X4_49 (n := 19) rfl ?_
    refine go_ineg C dX4_keepNumber_19 (n := 20) rfl ?_
    refine go_goto C 27 dX4_keepNumber_20 (by decide) ?_
    refine go_lv (lv' := [(0, .ref (q 0))]) [0] rfl ?_
    exact mX4_keepNumber_27_ok C _ _ _ _ hm
def mX4_takesFigure_54 (v2 : Int32) (s0 : Int32) (σ : bx_St) : Option (Int32 × bx_St) := (if s0 = 0 then (if bx_bo s0 then (some (s0, (bx_up σ 0 21 (σ.1 0 21)))) else none) else (if bx_bo s0 then (some (s0, (bx_up σ 0 21 v2))) else none))
set_option maxRecDepth 8000 in
set_option maxHeartbeats 4000000 in
theorem mX4_takesFigure_54_ok (C : bx_Cx p s m args meth c 4 A D cI cZ RX4 cX4_takesFigure (some .boolean)) : ∀ (v2 : Int32) (s0 : Int32) (σ : bx_St) (u : (Int32 × bx_St)), mX4_takesFigure_54 v2 s0 σ = some u → bx_Go p l e (bx_rm 1) s m args below meth c 4 A D (MQ below (bx_Q (some (.int u.1)) (bx_mw q cI cZ u.2) D A) args s 0 0 A) (bx_mw q cI cZ σ) 54 [(0, .ref (q 0)), (2, .int v2)] [.int s0] := by
  intro v2 s0 σ u hm
  unfold mX4_takesFigure_54 at hm
  refine go_istore_n C dX4_takesFigure_54 rfl (by decide) (lv' := [(3, .int s0), (0, .ref (q 0)), (2, .int v2)]) rfl (n := 55) rfl ?_
  refine go_aload_n C dX4_takesFigure_55 rfl 1 rfl (n := 56) rfl ?_
  refine go_iload_n C dX4_takesFigure_56 rfl 0 rfl (n := 57) rfl ?_
  refine go_if_eq C 64 dX4_takesFigure_57 (by decide) (n := 60) rfl (fun c1 => ?_) (fun c1 => ?_)
  · have hm := bx_p c1 hm
    refine go_aload_n C dX4_takesFigure_64 rfl 1 rfl (n := 65) rfl ?_
    refine go_get C dX4_takesFigure_65 (mf4_21 q cI cZ σ) rfl inX4 (by decide) fl_X4_49 (n := 68) rfl ?_
    refine go_put C dX4_takesFigure_68 (mp4_21 q cI cZ σ (σ.1 0 21)) rfl inX4 tyX4_ok nmX4 (by decide) fl_X4_49 rfl (ty := .int) (by decide +kernel) (by rfl) (by rfl) (n := 71) rfl ?_
    refine go_iload_n C dX4_takesFigure_71 rfl 0 rfl (n := 72) rfl ?_
    obtain ⟨b2, hm⟩ := bx_g hm
    cases hm
    exact go_zret C dX4_takesFigure_72 b2
  · have hm := bx_n c1 hm
    refine go_iload_n C dX4_takesFigure_60 rfl 2 rfl (n := 61) rfl ?_
    refine go_goto C 68 dX4_takesFigure_61 (by decide) ?_
    refine go_put C dX4_takesFigure_68 (mp4_21 q cI cZ σ v2) rfl inX4 tyX4_ok nmX4 (by decide) fl_X4_49 rfl (ty := .int) (by decide +kernel) (by rfl) (by rfl) (n := 71) rfl ?_
    refine go_iload_n C dX4_takesFigure_71 rfl 0 rfl (n := 72) rfl ?_
    obtain ⟨b3, hm⟩ := bx_g hm
    cases hm
    exact go_zret C dX4_takesFigure_72 b3
def mX4_takesFigure_53 (v2 : Int32) (σ : bx_St) : Option (Int32 × bx_St) := (mX4_takesFigure_54 v2 (0 : Int32) σ)
set_option maxRecDepth 8000 in
set_option maxHeartbeats 4000000 in
theorem mX4_takesFigure_53_ok (C : bx_Cx p s m args meth c 4 A D cI cZ RX4 cX4_takesFigure (some .boolean)) : ∀ (v2 : Int32) (σ : bx_St) (u : (Int32 × bx_St)), mX4_takesFigure_53 v2 σ = some u → bx_Go p l e (bx_rm 1) s m args below meth c 4 A D (MQ below (bx_Q (some (.int u.1)) (bx_mw q cI cZ u.2) D A) args s 0 0 A) (bx_mw q cI cZ σ) 53 [(0, .ref (q 0)), (2, .int v2)] [] := by
  intro v2 σ u hm
  unfold mX4_takesFigure_53 at hm
  refine go_iconst C dX4_takesFigure_53 (v := (0 : Int32)) (by decide) (n := 54) rfl ?_
  refine go_lv (lv' := [(0, .ref (q 0)), (2, .int v2)]) [0, 1] rfl ?_
  exact mX4_takesFigure_54_ok C _ _ _ _ hm
def mX4_takesFigure_49 (v2 : Int32) (σ : bx_St) : Option (Int32 × bx_St) := (mX4_takesFigure_54 v2 (1 : Int32) σ)
set_option maxRecDepth 8000 in
set_option maxHeartbeats 4000000 in
theorem mX4_takesFigure_49_ok (C : bx_Cx p s m args meth c 4 A D cI cZ RX4 cX4_takesFigure (some .boolean)) : ∀ (v2 : Int32) (σ : bx_St) (u : (Int32 × bx_St)), mX4_takesFigure_49 v2 σ = some u → bx_Go p l e (bx_rm 1) s m args below meth c 4 A D (MQ below (bx_Q (some (.int u.1)) (bx_mw q cI cZ u.2) D A) args s 0 0 A) (bx_mw q cI cZ σ) 49 [(0, .ref (q 0)), (2, .int v2)] [] := by
  intro v2 σ u hm
  unfold mX4_takesFigure_49 at hm
  refine go_iconst C dX4_takesFigure_49 (v := (1 : Int32)) (by decide) (n := 50) rfl ?_
  refine go_goto C 54 dX4_takesFigure_50 (by decide) ?_
  refine go_lv (lv' := [(0, .ref (q 0)), (2, .int v2)]) [0, 1] rfl ?_
  exact mX4_takesFigure_54_ok C _ _ _ _ hm
def mX4_takesFigure_23 (s0 : Int32) (σ : bx_St) : Option (Int32 × bx_St) := (if (σ.1 0 21) = 0 then (mX4_takesFigure_53 s0 σ) else (if (999 : Int32) < s0 then (mX4_takesFigure_53 s0 σ) else (if 0 < s0 then (mX4_takesFigure_49 s0 σ) else (if (σ.1 0 22) = 0 then (mX4_takesFigure_49 s0 σ) else (mX4_takesFigure_53 s0 σ)))))
set_option maxRecDepth 8000 in
set_option maxHeartbeats 4000000 in
theorem mX4_takesFigure_23_ok (C : bx_Cx p s m args meth c 4 A D cI cZ RX4 cX4_takesFigure (some .boolean)) : ∀ (s0 : Int32) (σ : bx_St) (u : (Int32 × bx_St)), mX4_takesFigure_23 s0 σ = some u → bx_Go p l e (bx_rm 1) s m args below meth c 4 A D (MQ below (bx_Q (some (.int u.1)) (bx_mw q cI cZ u.2) D A) args s 0 0 A) (bx_mw q cI cZ σ) 23 [(0, .ref (q 0))] [.int s0] := by
  intro s0 σ u hm
  unfold mX4_takesFigure_23 at hm
  refine go_istore_n C dX4_takesFigure_23 rfl (by decide) (lv' := [(2, .int s0), (0, .ref (q 0))]) rfl (n := 24) rfl ?_
  refine go_aload_n C dX4_takesFigure_24 rfl 1 rfl (n := 25) rfl ?_
  refine go_get C dX4_takesFigure_25 (mf4_21 q cI cZ σ) rfl inX4 (by decide) fl_X4_49 (n := 28) rfl ?_
  refine go_if_eq C 53 dX4_takesFigure_28 (by decide) (n := 31) rfl (fun c1 => ?_) (fun c1 => ?_)
  · have hm := bx_p c1 hm
    refine go_lv (lv' := [(0, .ref (q 0)), (2, .int s0)]) [1, 0] rfl ?_
    exact mX4_takesFigure_53_ok C _ _ _ hm
  · have hm := bx_n c1 hm
    refine go_iload_n C dX4_takesFigure_31 rfl 0 rfl (n := 32) rfl ?_
    refine go_sipush C dX4_takesFigure_32 (v := (999 : Int32)) (by decide) (n := 35) rfl ?_
    refine go_icmp_gt C 53 dX4_takesFigure_35 (by decide) (n := 38) rfl (fun c2 => ?_) (fun c2 => ?_)
    · have hm := bx_p c2 hm
      refine go_lv (lv' := [(0, .ref (q 0)), (2, .int s0)]) [1, 0] rfl ?_
      exact mX4_takesFigure_53_ok C _ _ _ hm
    · have hm := bx_n c2 hm
      refine go_iload_n C dX4_takesFigure_38 rfl 0 rfl (n := 39) rfl ?_
      refine go_if_gt C 49 dX4_takesFigure_39 (by decide) (n := 42) rfl (fun c3 => ?_) (fun c3 => ?_)
      · have hm := bx_p c3 hm
        refine go_lv (lv' := [(0, .ref (q 0)), (2, .int s0)]) [1, 0] rfl ?_
        exact mX4_takesFigure_49_ok C _ _ _ hm
      · have hm := bx_n c3 hm
        refine go_aload_n C dX4_takesFigure_42 rfl 1 rfl (n := 43) rfl ?_
        refine go_get C dX4_takesFigure_43 (mf4_22 q cI cZ σ) rfl inX4 (by decide) fl_X4_52 (n := 46) rfl ?_
        refine go_if_ne C 53 dX4_takesFigure_46 (by decide) (n := 49) rfl (fun c4 => ?_) (fun c4 => ?_)
        · have hm := bx_n c4 hm
          refine go_lv (lv' := [(0, .ref (q 0)), (2, .int s0)]) [1, 0] rfl ?_
          exact mX4_takesFigure_53_ok C _ _ _ hm
        · have hm := bx_p c4 hm
          refine go_lv (lv' := [(0, .ref (q 0)), (2, .int s0)]) [1, 0] rfl ?_
          exact mX4_takesFigure_49_ok C _ _ _ hm
def mX4_takesFigure (v1 : Int32) (σ : bx_St) : Option (Int32 × bx_St) := (if (σ.1 0 21) = (-10001 : Int32) then (mX4_takesFigure_23 v1 σ) else (mX4_takesFigure_23 (((10 : Int32) * (σ.1 0 21)) + v1) σ))
set_option maxRecDepth 8000 in
set_option maxHeartbeats 4000000 in
theorem ktX4_takesFigure {l : Launch} {D : va_G} {cI cZ : ClassId} {q : Nat → Nat} {v1 : Int32} {σ : bx_St} {u : (Int32 × bx_St)} (hm : mX4_takesFigure v1 σ = some u) : bx_Mt l D cI cZ yX4_takesFigure cX4_takesFigure 4 (some .boolean) 1 [.ref (q 0), .int v1] (bx_mw q cI cZ σ) (some (.int u.1)) (bx_mw q cI cZ u.2) := by
  refine bx_mk (by decide) (Nat.le_of_ble_eq_true rfl) (lv := [(0, .ref (q 0)), (1, .int v1)]) rfl (fun p e s m args below meth c A C => ?_)
  replace C : bx_Cx p s m args meth c 4 A D cI cZ RX4 cX4_takesFigure (some .boolean) := C
  unfold mX4_takesFigure at hm
  refine go_aload_n C dX4_takesFigure_0 rfl 0 rfl (n := 1) rfl ?_
  refine go_get C dX4_takesFigure_1 (mf4_21 q cI cZ σ) rfl inX4 (by decide) fl_X4_49 (n := 4) rfl ?_
  refine go_sipush C dX4_takesFigure_4 (v := (-10001 : Int32)) (by decide) (n := 7) rfl ?_
  refine go_icmp_ne C 14 dX4_takesFigure_7 (by decide) (n := 10) rfl (fun c1 => ?_) (fun c1 => ?_)
  · have hm := bx_n c1 hm
    refine go_bipush C dX4_takesFigure_14 (v := (10 : Int32)) (by decide) (n := 16) rfl ?_
    refine go_aload_n C dX4_takesFigure_16 rfl 0 rfl (n := 17) rfl ?_
    refine go_get C dX4_takesFigure_17 (mf4_21 q cI cZ σ) rfl inX4 (by decide) fl_X4_49 (n := 20) rfl ?_
    refine go_imul C dX4_takesFigure_20 (n := 21) rfl ?_
    refine go_iload_n C dX4_takesFigure_21 rfl 1 rfl (n := 22) rfl ?_
    refine go_iadd C dX4_takesFigure_22 (n := 23) rfl ?_
    refine go_lv (lv' := [(0, .ref (q 0))]) [0] rfl ?_
    exact mX4_takesFigure_23_ok C _ _ _ hm
  · have hm := bx_p c1 hm
    refine go_iload_n C dX4_takesFigure_10 rfl 1 rfl (n := 11) rfl ?_
    refine go_goto C 23 dX4_takesFigure_11 (by decide) ?_
    refine go_lv (lv' := [(0, .ref (q 0))]) [0] rfl ?_
    exact mX4_takesFigure_23_ok C _ _ _ hm
def mX4_takes_117 (s0 : Int32) (σ : bx_St) : Option (Int32 × bx_St) := (if (σ.1 0 21) = (-10001 : Int32) then (some ((0 : Int32), σ)) else (if s0 = 0 then (some ((0 : Int32), σ)) else (Option.bind (mX4_keepNumber σ) fun u3 => (some ((1 : Int32), u3)))))
set_option maxRecDepth 8000 in
set_option maxHeartbeats 4000000 in
theorem mX4_takes_117_ok (C : bx_Cx p s m args meth c 4 A D cI cZ RX4 cX4_takes (some .boolean)) : ∀ (s0 : Int32) (σ : bx_St) (u : (Int32 × bx_St)), mX4_takes_117 s0 σ = some u → bx_Go p l e (bx_rm 2) s m args below meth c 4 A D (MQ below (bx_Q (some (.int u.1)) (bx_mw q cI cZ u.2) D A) args s 0 0 A) (bx_mw q cI cZ σ) 117 [(0, .ref (q 0))] [.int s0] := by
  intro s0 σ u hm
  unfold mX4_takes_117 at hm
  refine go_istore_n C dX4_takes_117 rfl (by decide) (lv' := [(3, .int s0), (0, .ref (q 0))]) rfl (n := 118) rfl ?_
  refine go_aload_n C dX4_takes_118 rfl 1 rfl (n := 119) rfl ?_
  refine go_get C dX4_takes_119 (mf4_21 q cI cZ σ) rfl inX4 (by decide) fl_X4_49 (n := 122) rfl ?_
  refine go_sipush C dX4_takes_122 (v := (-10001 : Int32)) (by decide) (n := 125) rfl ?_
  refine go_icmp_eq C 132 dX4_takes_125 (by decide) (n := 128) rfl (fun c1 => ?_) (fun c1 => ?_)
  · have hm := bx_p c1 hm
    refine go_iconst C dX4_takes_132 (v := (0 : Int32)) (by decide) (n := 133) rfl ?_
    cases hm
    exact go_zret C dX4_takes_133 (Or.inl rfl)
  · have hm := bx_n c1 hm
    refine go_iload_n C dX4_takes_128 rfl 0 rfl (n := 129) rfl ?_
    refine go_if_ne C 134 dX4_takes_129 (by decide) (n := 132) rfl (fun c2 => ?_) (fun c2 => ?_)
    · have hm := bx_n c2 hm
      refine go_aload_n C dX4_takes_134 rfl 1 rfl (n := 135) rfl ?_
      obtain ⟨u3, e4, hm⟩ := bx_b hm
      refine go_callVv C dX4_takes_135 mw_X4_keepNumber ml_X4_63 (rest := []) (ktX4_keepNumber e4) (mo4 q cI cZ σ) rfl (by decide) rfl rfl (Nat.le_of_ble_eq_true rfl) (n := 138) rfl ?_
      refine go_iconst C dX4_takes_138 (v := (1 : Int32)) (by decide) (n := 139) rfl ?_
      cases hm
      exact go_zret C dX4_takes_139 (Or.inr rfl)
    · have hm := bx_p c2 hm
      refine go_iconst C dX4_takes_132 (v := (0 : Int32)) (by decide) (n := 133) rfl ?_
      cases hm
      exact go_zret C dX4_takes_133 (Or.inl rfl)
def mX4_takes_116 (σ : bx_St) : Option (Int32 × bx_St) := (mX4_takes_117 (0 : Int32) σ)
set_option maxRecDepth 8000 in
set_option maxHeartbeats 4000000 in
theorem mX4_takes_116_ok (C : bx_Cx p s m args meth c 4 A D cI cZ RX4 cX4_takes (some .boolean)) : ∀ (σ : bx_St) (u : (Int32 × bx_St)), mX4_takes_116 σ = some u → bx_Go p l e (bx_rm 2) s m args below meth c 4 A D (MQ below (bx_Q (some (.int u.1)) (bx_mw q cI cZ u.2) D A) args s 0 0 A) (bx_mw q cI cZ σ) 116 [(0, .ref (q 0))] [] := by
  intro σ u hm
  unfold mX4_takes_116 at hm
  refine go_iconst C dX4_takes_116 (v := (0 : Int32)) (by decide) (n := 117) rfl ?_
  refine go_lv (lv' := [(0, .ref (q 0))]) [0] rfl ?_
  exact mX4_takes_117_ok C _ _ _ hm
def mX4_takes_50 (v1 : Int32) (σ : bx_St) : Option (Int32 × bx_St) := (if (bx_rem (bx_rem (σ.1 0 19) (6 : Int32)) (2 : Int32)) = 0 then (if v1 = (58 : Int32) then (mX4_takes_117 (1 : Int32) σ) else (mX4_takes_117 (0 : Int32) σ)) else (if (5 : Int32) ≤ (bx_rem (σ.1 0 19) (6 : Int32)) then (if v1 = (59 : Int32) then (if (23 : Int32) ≤ (σ.1 0 19) then (mX4_takes_116 σ) else (mX4_takes_117 (1 : Int32) σ)) else (mX4_takes_116 σ)) else (if v1 = (44 : Int32) then (mX4_takes_117 (1 : Int32) σ) else (mX4_takes_117 (0 : Int32) σ))))
set_option maxRecDepth 8000 in
set_option maxHeartbeats 4000000 in
theorem mX4_takes_50_ok (C : bx_Cx p s m args meth c 4 A D cI cZ RX4 cX4_takes (some .boolean)) : ∀ (v1 : Int32) (σ : bx_St) (u : (Int32 × bx_St)), mX4_takes_50 v1 σ = some u → bx_Go p l e (bx_rm 2) s m args below meth c 4 A D (MQ below (bx_Q (some (.int u.1)) (bx_mw q cI cZ u.2) D A) args s 0 0 A) (bx_mw q cI cZ σ) 50 [(0, .ref (q 0)), (1, .int v1)] [] := by
  intro v1 σ u hm
  unfold mX4_takes_50 at hm
  refine go_aload_n C dX4_takes_50 rfl 0 rfl (n := 51) rfl ?_
  refine go_get C dX4_takes_51 (mf4_19 q cI cZ σ) rfl inX4 (by decide) fl_X4_60 (n := 54) rfl ?_
  refine go_bipush C dX4_takes_54 (v := (6 : Int32)) (by decide) (n := 56) rfl ?_
  refine go_irem C dX4_takes_56 (by decide) (n := 57) rfl ?_
  refine go_istore_n C dX4_takes_57 rfl (by decide) (lv' := [(2, .int (bx_rem (σ.1 0 19) (6 : Int32))), (0, .ref (q 0)), (1, .int v1)]) rfl (n := 58) rfl ?_
  refine go_iload_n C dX4_takes_58 rfl 0 rfl (n := 59) rfl ?_
  refine go_iconst C dX4_takes_59 (v := (2 : Int32)) (by decide) (n := 60) rfl ?_
  refine go_irem C dX4_takes_60 (by decide) (n := 61) rfl ?_
  refine go_if_ne C 78 dX4_takes_61 (by decide) (n := 64) rfl (fun c1 => ?_) (fun c1 => ?_)
  · have hm := bx_n c1 hm
    refine go_iload_n C dX4_takes_78 rfl 0 rfl (n := 79) rfl ?_
    refine go_iconst C dX4_takes_79 (v := (5 : Int32)) (by decide) (n := 80) rfl ?_
    refine go_icmp_ge C 97 dX4_takes_80 (by decide) (n := 83) rfl (fun c2 => ?_) (fun c2 => ?_)
    · have hm := bx_p c2 hm
      refine go_iload_n C dX4_takes_97 rfl 2 rfl (n := 98) rfl ?_
      refine go_bipush C dX4_takes_98 (v := (59 : Int32)) (by decide) (n := 100) rfl ?_
      refine go_icmp_ne C 116 dX4_takes_100 (by decide) (n := 103) rfl (fun c3 => ?_) (fun c3 => ?_)
      · have hm := bx_n c3 hm
        refine go_lv (lv' := [(0, .ref (q 0))]) [1] rfl ?_
        exact mX4_takes_116_ok C _ _ hm
      · have hm := bx_p c3 hm
        refine go_aload_n C dX4_takes_103 rfl 1 rfl (n := 104) rfl ?_
        refine go_get C dX4_takes_104 (mf4_19 q cI cZ σ) rfl inX4 (by decide) fl_X4_60 (n := 107) rfl ?_
        refine go_bipush C dX4_takes_107 (v := (23 : Int32)) (by decide) (n := 109) rfl ?_
        refine go_icmp_ge C 116 dX4_takes_109 (by decide) (n := 112) rfl (fun c4 => ?_) (fun c4 => ?_)
        · have hm := bx_p c4 hm
          refine go_lv (lv' := [(0, .ref (q 0))]) [1] rfl ?_
          exact mX4_takes_116_ok C _ _ hm
        · have hm := bx_n c4 hm
          refine go_iconst C dX4_takes_112 (v := (1 : Int32)) (by decide) (n := 113) rfl ?_
          refine go_goto C 117 dX4_takes_113 (by decide) ?_
          refine go_lv (lv' := [(0, .ref (q 0))]) [1] rfl ?_
          exact mX4_takes_117_ok C _ _ _ hm
    · have hm := bx_n c2 hm
      refine go_iload_n C dX4_takes_83 rfl 2 rfl (n := 84) rfl ?_
      refine go_bipush C dX4_takes_84 (v := (44 : Int32)) (by decide) (n := 86) rfl ?_
      refine go_icmp_ne C 93 dX4_takes_86 (by decide) (n := 89) rfl (fun c5 => ?_) (fun c5 => ?_)
      · have hm := bx_n c5 hm
        refine go_iconst C dX4_takes_93 (v := (0 : Int32)) (by decide) (n := 94) rfl ?_
        refine go_goto C 117 dX4_takes_94 (by decide) ?_
        refine go_lv (lv' := [(0, .ref (q 0))]) [1] rfl ?_
        exact mX4_takes_117_ok C _ _ _ hm
      · have hm := bx_p c5 hm
        refine go_iconst C dX4_takes_89 (v := (1 : Int32)) (by decide) (n := 90) rfl ?_
        refine go_goto C 117 dX4_takes_90 (by decide) ?_
        refine go_lv (lv' := [(0, .ref (q 0))]) [1] rfl ?_
        exact mX4_takes_117_ok C _ _ _ hm
  · have hm := bx_p c1 hm
    refine go_iload_n C dX4_takes_64 rfl 2 rfl (n := 65) rfl ?_
    refine go_bipush C dX4_takes_65 (v := (58 : Int32)) (by decide) (n := 67) rfl ?_
    refine go_icmp_ne C 74 dX4_takes_67 (by decide) (n := 70) rfl (fun c6 => ?_) (fun c6 => ?_)
    · have hm := bx_n c6 hm
      refine go_iconst C dX4_takes_74 (v := (0 : Int32)) (by decide) (n := 75) rfl ?_
      refine go_goto C 117 dX4_takes_75 (by decide) ?_
      refine go_lv (lv' := [(0, .ref (q 0))]) [1] rfl ?_
      exact mX4_takes_117_ok C _ _ _ hm
    · have hm := bx_p c6 hm
      refine go_iconst C dX4_takes_70 (v := (1 : Int32)) (by decide) (n := 71) rfl ?_
      refine go_goto C 117 dX4_takes_71 (by decide) ?_
      refine go_lv (lv' := [(0, .ref (q 0))]) [1] rfl ?_
      exact mX4_takes_117_ok C _ _ _ hm
def mX4_takes (v1 : Int32) (σ : bx_St) : Option (Int32 × bx_St) := (if (mX4_within v1 (48 : Int32) (57 : Int32)) = 0 then (if v1 = (45 : Int32) then (if (σ.1 0 21) = (-10001 : Int32) then (if (σ.1 0 22) = 0 then (some ((1 : Int32), (bx_up σ 0 22 (1 : Int32)))) else (mX4_takes_50 v1 σ)) else (mX4_takes_50 v1 σ)) else (mX4_takes_50 v1 σ)) else (Option.bind (mX4_takesFigure (v1 - (48 : Int32)) σ) fun u5 => (if bx_bo u5.1 then (some (u5.1, u5.2)) else none)))
set_option maxRecDepth 8000 in
set_option maxHeartbeats 4000000 in
theorem ktX4_takes {l : Launch} {D : va_G} {cI cZ : ClassId} {q : Nat → Nat} {v1 : Int32} {σ : bx_St} {u : (Int32 × bx_St)} (hm : mX4_takes v1 σ = some u) : bx_Mt l D cI cZ yX4_takes cX4_takes 4 (some .boolean) 2 [.ref (q 0), .int v1] (bx_mw q cI cZ σ) (some (.int u.1)) (bx_mw q cI cZ u.2) := by
  refine bx_mk (by decide) (Nat.le_of_ble_eq_true rfl) (lv := [(0, .ref (q 0)), (1, .int v1)]) rfl (fun p e s m args below meth c A C => ?_)
  replace C : bx_Cx p s m args meth c 4 A D cI cZ RX4 cX4_takes (some .boolean) := C
  unfold mX4_takes at hm
  refine go_iload_n C dX4_takes_0 rfl 1 rfl (n := 1) rfl ?_
  refine go_bipush C dX4_takes_1 (v := (48 : Int32)) (by decide) (n := 3) rfl ?_
  refine go_bipush C dX4_takes_3 (v := (57 : Int32)) (by decide) (n := 5) rfl ?_
  refine go_callSi C dX4_takes_5 mw_X4_within ml_X4_41 (rest := []) (ktX4_within rfl) (by decide) rfl rfl (Nat.le_of_ble_eq_true rfl) (n := 8) rfl ?_
  refine go_if_eq C 20 dX4_takes_8 (by decide) (n := 11) rfl (fun c1 => ?_) (fun c1 => ?_)
  · have hm := bx_p c1 hm
    refine go_iload_n C dX4_takes_20 rfl 1 rfl (n := 21) rfl ?_
    refine go_bipush C dX4_takes_21 (v := (45 : Int32)) (by decide) (n := 23) rfl ?_
    refine go_icmp_ne C 50 dX4_takes_23 (by decide) (n := 26) rfl (fun c2 => ?_) (fun c2 => ?_)
    · have hm := bx_n c2 hm
      refine go_lv (lv' := [(0, .ref (q 0)), (1, .int v1)]) [0, 1] rfl ?_
      exact mX4_takes_50_ok C _ _ _ hm
    · have hm := bx_p c2 hm
      refine go_aload_n C dX4_takes_26 rfl 0 rfl (n := 27) rfl ?_
      refine go_get C dX4_takes_27 (mf4_21 q cI cZ σ) rfl inX4 (by decide) fl_X4_49 (n := 30) rfl ?_
      refine go_sipush C dX4_takes_30 (v := (-10001 : Int32)) (by decide) (n := 33) rfl ?_
      refine go_icmp_ne C 50 dX4_takes_33 (by decide) (n := 36) rfl (fun c3 => ?_) (fun c3 => ?_)
      · have hm := bx_n c3 hm
        refine go_lv (lv' := [(0, .ref (q 0)), (1, .int v1)]) [0, 1] rfl ?_
        exact mX4_takes_50_ok C _ _ _ hm
      · have hm := bx_p c3 hm
        refine go_aload_n C dX4_takes_36 rfl 0 rfl (n := 37) rfl ?_
        refine go_get C dX4_takes_37 (mf4_22 q cI cZ σ) rfl inX4 (by decide) fl_X4_52 (n := 40) rfl ?_
        refine go_if_ne C 50 dX4_takes_40 (by decide) (n := 43) rfl (fun c4 => ?_) (fun c4 => ?_)
        · have hm := bx_n c4 hm
          refine go_lv (lv' := [(0, .ref (q 0)), (1, .int v1)]) [0, 1] rfl ?_
          exact mX4_takes_50_ok C _ _ _ hm
        · have hm := bx_p c4 hm
          refine go_aload_n C dX4_takes_43 rfl 0 rfl (n := 44) rfl ?_
          refine go_iconst C dX4_takes_44 (v := (1 : Int32)) (by decide) (n := 45) rfl ?_
          refine go_put C dX4_takes_45 (mp4_22 q cI cZ σ (1 : Int32)) rfl inX4 tyX4_ok nmX4 (by decide) fl_X4_52 rfl (ty := .boolean) (by decide +kernel) (by rfl) (by rfl) (n := 48) rfl ?_
          refine go_iconst C dX4_takes_48 (v := (1 : Int32)) (by decide) (n := 49) rfl ?_
          cases hm
          exact go_zret C dX4_takes_49 (Or.inr rfl)
  · have hm := bx_n c1 hm
    refine go_aload_n C dX4_takes_11 rfl 0 rfl (n := 12) rfl ?_
    refine go_iload_n C dX4_takes_12 rfl 1 rfl (n := 13) rfl ?_
    refine go_bipush C dX4_takes_13 (v := (48 : Int32)) (by decide) (n := 15) rfl ?_
    refine go_isub C dX4_takes_15 (n := 16) rfl ?_
    obtain ⟨u5, e6, hm⟩ := bx_b hm
    refine go_callVi C dX4_takes_16 mw_X4_takesFigure ml_X4_56 (rest := []) (ktX4_takesFigure e6) (mo4 q cI cZ σ) rfl (by decide) rfl rfl (Nat.le_of_ble_eq_true rfl) (n := 19) rfl ?_
    obtain ⟨b7, hm⟩ := bx_g hm
    cases hm
    exact go_zret C dX4_takes_19 b7
def mX4_read_19 : Nat → Int32 → bx_St → Option (Int32 × bx_St)
  | 0, _, _ => none
  | n + 1, v1, σ => (if (σ.1 0 0) ≤ v1 then (some (v1, σ)) else (if bx_ok v1 60 then (Option.bind (mX4_takes (σ.1 1 v1.toNatClampNeg) σ) fun u3 => (if u3.1 = 0 then (some (v1, u3.2)) else (mX4_read_19 n (v1 + 1) u3.2))) else none))
set_option maxRecDepth 8000 in
set_option maxHeartbeats 4000000 in
theorem mX4_read_19_ok (C : bx_Cx p s m args meth c 2 A D cI cZ RX4 cX4_read (some .int)) : ∀ (n : Nat) (v1 : Int32) (σ : bx_St) (u : (Int32 × bx_St)), mX4_read_19 n v1 σ = some u → bx_Go p l e (bx_rm 3) s m args below meth c 2 A D (MQ below (bx_Q (some (.int u.1)) (bx_mw q cI cZ u.2) D A) args s 0 0 A) (bx_mw q cI cZ σ) 19 [(0, .ref (q 0)), (1, .int v1)] [] := by
  intro n
  induction n with
  | zero =>
    intro v1 σ u hm
    cases hm
  | succ n ih =>
    intro v1 σ u hm
    rw [mX4_read_19] at hm
    refine go_iload_n C dX4_read_19 rfl 1 rfl (n := 20) rfl ?_
    refine go_aload_n C dX4_read_20 rfl 0 rfl (n := 21) rfl ?_
    refine go_get C dX4_read_21 (mf4_0 q cI cZ σ) rfl inX4 (by decide) fl_X4_45 (n := 24) rfl ?_
    refine go_icmp_ge C 46 dX4_read_24 (by decide) (n := 27) rfl (fun c1 => ?_) (fun c1 => ?_)
    · have hm := bx_p c1 hm
      refine go_iload_n C dX4_read_46 rfl 1 rfl (n := 47) rfl ?_
      cases hm
      exact go_iret C dX4_read_47
    · have hm := bx_n c1 hm
      refine go_aload_n C dX4_read_27 rfl 0 rfl (n := 28) rfl ?_
      refine go_aload_n C dX4_read_28 rfl 0 rfl (n := 29) rfl ?_
      refine go_get C dX4_read_29 (mf4_1 q cI cZ σ) rfl inX4 (by decide) fl_X4_7 (n := 32) rfl ?_
      refine go_iload_n C dX4_read_32 rfl 1 rfl (n := 33) rfl ?_
      obtain ⟨b2, hm⟩ := bx_g hm
      refine go_iald C dX4_read_33 (ma_1 q cI cZ σ) b2 (n := 34) rfl ?_
      obtain ⟨u3, e4, hm⟩ := bx_b hm
      refine go_callVi C dX4_read_34 mw_X4_takes ml_X4_66 (rest := []) (ktX4_takes e4) (mo4 q cI cZ σ) rfl (by decide) rfl rfl (Nat.le_of_ble_eq_true rfl) (n := 37) rfl ?_
      refine go_if_eq C 46 dX4_read_37 (by decide) (n := 40) rfl (fun c5 => ?_) (fun c5 => ?_)
      · have hm := bx_p c5 hm
        refine go_iload_n C dX4_read_46 rfl 1 rfl (n := 47) rfl ?_
        cases hm
        exact go_iret C dX4_read_47
      · have hm := bx_n c5 hm
        refine go_iinc C (j := 1) dX4_read_40 rfl (v := (v1 + 1)) rfl (by decide) (lv' := [(1, .int (v1 + 1)), (0, .ref (q 0))]) rfl (n := 43) rfl ?_
        refine go_goto C 19 dX4_read_43 (by decide) ?_
        refine go_lv (lv' := [(0, .ref (q 0)), (1, .int (v1 + 1))]) [1, 0] rfl ?_
        exact ih _ _ _ hm
def mX4_read (σ : bx_St) : Option (Int32 × bx_St) := (bx_let (bx_up (bx_up σ 0 19 (0 : Int32)) 0 21 (-10001 : Int32)) fun σ1 => (mX4_read_19 bx_F (0 : Int32) (bx_up σ1 0 22 (0 : Int32))))
set_option maxRecDepth 8000 in
set_option maxHeartbeats 4000000 in
theorem ktX4_read {l : Launch} {D : va_G} {cI cZ : ClassId} {q : Nat → Nat} {σ : bx_St} {u : (Int32 × bx_St)} (hm : mX4_read σ = some u) : bx_Mt l D cI cZ yX4_read cX4_read 2 (some .int) 3 [.ref (q 0)] (bx_mw q cI cZ σ) (some (.int u.1)) (bx_mw q cI cZ u.2) := by
  refine bx_mk (by decide) (Nat.le_of_ble_eq_true rfl) (lv := [(0, .ref (q 0))]) rfl (fun p e s m args below meth c A C => ?_)
  replace C : bx_Cx p s m args meth c 2 A D cI cZ RX4 cX4_read (some .int) := C
  unfold mX4_read at hm
  refine go_aload_n C dX4_read_0 rfl 0 rfl (n := 1) rfl ?_
  refine go_iconst C dX4_read_1 (v := (0 : Int32)) (by decide) (n := 2) rfl ?_
  refine go_put C dX4_read_2 (mp4_19 q cI cZ σ (0 : Int32)) rfl inX4 tyX4_ok nmX4 (by decide) fl_X4_60 rfl (ty := .int) (by decide +kernel) (by rfl) (by rfl) (n := 5) rfl ?_
  refine go_aload_n C dX4_read_5 rfl 0 rfl (n := 6) rfl ?_
  refine go_sipush C dX4_read_6 (v := (-10001 : Int32)) (by decide) (n := 9) rfl ?_
  obtain ⟨σ1, z2, hm⟩ := bx_lt hm
  refine go_put C dX4_read_9 (ws' := (bx_mw q cI cZ σ1)) (by rw [z2]; exact (mp4_21 q cI cZ (bx_up σ 0 19 (0 : Int32)) (-10001 : Int32))) rfl inX4 tyX4_ok nmX4 (by decide) fl_X4_49 rfl (ty := .int) (by decide +kernel) (by rfl) (by rfl) (n := 12) rfl ?_
  refine go_aload_n C dX4_read_12 rfl 0 rfl (n := 13) rfl ?_
  refine go_iconst C dX4_read_13 (v := (0 : Int32)) (by decide) (n := 14) rfl ?_
  refine go_put C dX4_read_14 (mp4_22 q cI cZ σ1 (0 : Int32)) rfl inX4 tyX4_ok nmX4 (by decide) fl_X4_52 rfl (ty := .boolean) (by decide +kernel) (by rfl) (by rfl) (n := 17) rfl ?_
  refine go_iconst C dX4_read_17 (v := (0 : Int32)) (by decide) (n := 18) rfl ?_
  refine go_istore_n C dX4_read_18 rfl (by decide) (lv' := [(1, .int (0 : Int32)), (0, .ref (q 0))]) rfl (n := 19) rfl ?_
  refine go_lv (lv' := [(0, .ref (q 0)), (1, .int (0 : Int32))]) [1, 0] rfl ?_
  exact mX4_read_19_ok C _ _ _ _ hm
def mX4_isBatch_76 (K42 : Int32 → Int32 → bx_St → Option (Int32 × bx_St)) (v2 : Int32) (s0 : Int32) (σ : bx_St) : Option (Int32 × bx_St) := (K42 s0 (v2 + 2) σ)
set_option maxRecDepth 8000 in
set_option maxHeartbeats 4000000 in
theorem mX4_isBatch_76_ok (C : bx_Cx p s m args meth c 3 A D cI cZ RX4 cX4_isBatch (some .boolean)) (K42 : Int32 → Int32 → bx_St → Option (Int32 × bx_St)) (HK42 : ∀ (v1 : Int32) (v2 : Int32) (σ : bx_St) (u : (Int32 × bx_St)), K42 v1 v2 σ = some u → bx_Go p l e (bx_rm 4) s m args below meth c 3 A D (MQ below (bx_Q (some (.int u.1)) (bx_mw q cI cZ u.2) D A) args s 0 0 A) (bx_mw q cI cZ σ) 42 [(0, .ref (q 0)), (1, .int v1), (2, .int v2)] []) : ∀ (v2 : Int32) (s0 : Int32) (σ : bx_St) (u : (Int32 × bx_St)), mX4_isBatch_76 K42 v2 s0 σ = some u → bx_Go p l e (bx_rm 4) s m args below meth c 3 A D (MQ below (bx_Q (some (.int u.1)) (bx_mw q cI cZ u.2) D A) args s 0 0 A) (bx_mw q cI cZ σ) 76 [(0, .ref (q 0)), (2, .int v2)] [.int s0] := by
  intro v2 s0 σ u hm
  unfold mX4_isBatch_76 at hm
  refine go_istore_n C dX4_isBatch_76 rfl (by decide) (lv' := [(1, .int s0), (0, .ref (q 0)), (2, .int v2)]) rfl (n := 77) rfl ?_
  refine go_iinc C (j := 2) dX4_isBatch_77 rfl (v := (v2 + 2)) rfl (by decide) (lv' := [(2, .int (v2 + 2)), (1, .int s0), (0, .ref (q 0))]) rfl (n := 80) rfl ?_
  refine go_goto C 42 dX4_isBatch_80 (by decide) ?_
  refine go_lv (lv' := [(0, .ref (q 0)), (1, .int s0), (2, .int (v2 + 2))]) [2, 1, 0] rfl ?_
  exact HK42 _ _ _ _ hm
def mX4_isBatch_75 (K42 : Int32 → Int32 → bx_St → Option (Int32 × bx_St)) (v2 : Int32) (σ : bx_St) : Option (Int32 × bx_St) := (mX4_isBatch_76 K42 v2 (0 : Int32) σ)
set_option maxRecDepth 8000 in
set_option maxHeartbeats 4000000 in
theorem mX4_isBatch_75_ok (C : bx_Cx p s m args meth c 3 A D cI cZ RX4 cX4_isBatch (some .boolean)) (K42 : Int32 → Int32 → bx_St → Option (Int32 × bx_St)) (HK42 : ∀ (v1 : Int32) (v2 : Int32) (σ : bx_St) (u : (Int32 × bx_St)), K42 v1 v2 σ = some u → bx_Go p l e (bx_rm 4) s m args below meth c 3 A D (MQ below (bx_Q (some (.int u.1)) (bx_mw q cI cZ u.2) D A) args s 0 0 A) (bx_mw q cI cZ σ) 42 [(0, .ref (q 0)), (1, .int v1), (2, .int v2)] []) : ∀ (v2 : Int32) (σ : bx_St) (u : (Int32 × bx_St)), mX4_isBatch_75 K42 v2 σ = some u → bx_Go p l e (bx_rm 4) s m args below meth c 3 A D (MQ below (bx_Q (some (.int u.1)) (bx_mw q cI cZ u.2) D A) args s 0 0 A) (bx_mw q cI cZ σ) 75 [(0, .ref (q 0)), (2, .int v2)] [] := by
  intro v2 σ u hm
  unfold mX4_isBatch_75 at hm
  refine go_iconst C dX4_isBatch_75 (v := (0 : Int32)) (by decide) (n := 76) rfl ?_
  refine go_lv (lv' := [(0, .ref (q 0)), (2, .int v2)]) [0, 1] rfl ?_
  exact mX4_isBatch_76_ok C _ HK42 _ _ _ _ hm
def mX4_isBatch_42 : Nat → Int32 → Int32 → bx_St → Option (Int32 × bx_St)
  | 0, _, _, _ => none
  | n + 1, v1, v2, σ => (if (σ.1 0 19) ≤ v2 then (if bx_bo v1 then (some (v1, σ)) else none) else (if v1 = 0 then (mX4_isBatch_75 (mX4_isBatch_42 n) v2 σ) else (if bx_ok v2 24 then (if bx_ok (v2 + (1 : Int32)) 24 then (if (σ.1 8 (v2 + (1 : Int32)).toNatClampNeg) ≤ (σ.1 8 v2.toNatClampNeg) then (mX4_isBatch_75 (mX4_isBatch_42 n) v2 σ) else (mX4_isBatch_76 (mX4_isBatch_42 n) v2 (1 : Int32) σ)) else none) else none)))
set_option maxRecDepth 8000 in
set_option maxHeartbeats 4000000 in
theorem mX4_isBatch_42_ok (C : bx_Cx p s m args meth c 3 A D cI cZ RX4 cX4_isBatch (some .boolean)) : ∀ (n : Nat) (v1 : Int32) (v2 : Int32) (σ : bx_St) (u : (Int32 × bx_St)), mX4_isBatch_42 n v1 v2 σ = some u → bx_Go p l e (bx_rm 4) s m args below meth c 3 A D (MQ below (bx_Q (some (.int u.1)) (bx_mw q cI cZ u.2) D A) args s 0 0 A) (bx_mw q cI cZ σ) 42 [(0, .ref (q 0)), (1, .int v1), (2, .int v2)] [] := by
  intro n
  induction n with
  | zero =>
    intro v1 v2 σ u hm
    cases hm
  | succ n ih =>
    intro v1 v2 σ u hm
    rw [mX4_isBatch_42] at hm
    refine go_iload_n C dX4_isBatch_42 rfl 2 rfl (n := 43) rfl ?_
    refine go_aload_n C dX4_isBatch_43 rfl 0 rfl (n := 44) rfl ?_
    refine go_get C dX4_isBatch_44 (mf4_19 q cI cZ σ) rfl inX4 (by decide) fl_X4_60 (n := 47) rfl ?_
    refine go_icmp_ge C 83 dX4_isBatch_47 (by decide) (n := 50) rfl (fun c1 => ?_) (fun c1 => ?_)
    · have hm := bx_p c1 hm
      refine go_iload_n C dX4_isBatch_83 rfl 1 rfl (n := 84) rfl ?_
      obtain ⟨b2, hm⟩ := bx_g hm
      cases hm
      exact go_zret C dX4_isBatch_84 b2
    · have hm := bx_n c1 hm
      refine go_iload_n C dX4_isBatch_50 rfl 1 rfl (n := 51) rfl ?_
      refine go_if_eq C 75 dX4_isBatch_51 (by decide) (n := 54) rfl (fun c3 => ?_) (fun c3 => ?_)
      · have hm := bx_p c3 hm
        refine go_lv (lv' := [(0, .ref (q 0)), (2, .int v2)]) [0, 2] rfl ?_
        exact mX4_isBatch_75_ok C _ ih _ _ _ hm
      · have hm := bx_n c3 hm
        refine go_aload_n C dX4_isBatch_54 rfl 0 rfl (n := 55) rfl ?_
        refine go_get C dX4_isBatch_55 (mf4_20 q cI cZ σ) rfl inX4 (by decide) fl_X4_31 (n := 58) rfl ?_
        refine go_iload_n C dX4_isBatch_58 rfl 2 rfl (n := 59) rfl ?_
        obtain ⟨b4, hm⟩ := bx_g hm
        refine go_iald C dX4_isBatch_59 (ma_8 q cI cZ σ) b4 (n := 60) rfl ?_
        refine go_aload_n C dX4_isBatch_60 rfl 0 rfl (n := 61) rfl ?_
        refine go_get C dX4_isBatch_61 (mf4_20 q cI cZ σ) rfl inX4 (by decide) fl_X4_31 (n := 64) rfl ?_
        refine go_iload_n C dX4_isBatch_64 rfl 2 rfl (n := 65) rfl ?_
        refine go_iconst C dX4_isBatch_65 (v := (1 : Int32)) (by decide) (n := 66) rfl ?_
        refine go_iadd C dX4_isBatch_66 (n := 67) rfl ?_
        obtain ⟨b5, hm⟩ := bx_g hm
        refine go_iald C dX4_isBatch_67 (ma_8 q cI cZ σ) b5 (n := 68) rfl ?_
        refine go_icmp_ge C 75 dX4_isBatch_68 (by decide) (n := 71) rfl (fun c6 => ?_) (fun c6 => ?_)
        · have hm := bx_p c6 hm
          refine go_lv (lv' := [(0, .ref (q 0)), (2, .int v2)]) [0, 2] rfl ?_
          exact mX4_isBatch_75_ok C _ ih _ _ _ hm
        · have hm := bx_n c6 hm
          refine go_iconst C dX4_isBatch_71 (v := (1 : Int32)) (by decide) (n := 72) rfl ?_
          refine go_goto C 76 dX4_isBatch_72 (by decide) ?_
          refine go_lv (lv' := [(0, .ref (q 0)), (2, .int v2)]) [0, 2] rfl ?_
          exact mX4_isBatch_76_ok C _ ih _ _ _ _ hm
def mX4_isBatch (σ : bx_St) : Option (Int32 × bx_St) := (Option.bind (mX4_read σ) fun u1 => (if u1.1 < (u1.2.1 0 0) then (some ((0 : Int32), u1.2)) else (if (u1.2.1 0 21) = (-10001 : Int32) then (some ((0 : Int32), u1.2)) else (if (bx_rem (u1.2.1 0 19) (6 : Int32)) = (5 : Int32) then (Option.bind (mX4_keepNumber u1.2) fun u6 => (mX4_isBatch_42 bx_F (1 : Int32) (0 : Int32) u6)) else (some ((0 : Int32), u1.2))))))
set_option maxRecDepth 8000 in
set_option maxHeartbeats 4000000 in
theorem ktX4_isBatch {l : Launch} {D : va_G} {cI cZ : ClassId} {q : Nat → Nat} {σ : bx_St} {u : (Int32 × bx_St)} (hm : mX4_isBatch σ = some u) : bx_Mt l D cI cZ yX4_isBatch cX4_isBatch 3 (some .boolean) 4 [.ref (q 0)] (bx_mw q cI cZ σ) (some (.int u.1)) (bx_mw q cI cZ u.2) := by
  refine bx_mk (by decide) (Nat.le_of_ble_eq_true rfl) (lv := [(0, .ref (q 0))]) rfl (fun p e s m args below meth c A C => ?_)
  replace C : bx_Cx p s m args meth c 3 A D cI cZ RX4 cX4_isBatch (some .boolean) := C
  unfold mX4_isBatch at hm
  refine go_aload_n C dX4_isBatch_0 rfl 0 rfl (n := 1) rfl ?_
  obtain ⟨u1, e2, hm⟩ := bx_b hm
  refine go_callVi C dX4_isBatch_1 mw_X4_read ml_X4_69 (rest := []) (ktX4_read e2) (mo4 q cI cZ σ) rfl (by decide) rfl rfl (Nat.le_of_ble_eq_true rfl) (n := 4) rfl ?_
  refine go_aload_n C dX4_isBatch_4 rfl 0 rfl (n := 5) rfl ?_
  refine go_get C dX4_isBatch_5 (mf4_0 q cI cZ u1.2) rfl inX4 (by decide) fl_X4_45 (n := 8) rfl ?_
  refine go_icmp_lt C 32 dX4_isBatch_8 (by decide) (n := 11) rfl (fun c3 => ?_) (fun c3 => ?_)
  · have hm := bx_p c3 hm
    refine go_iconst C dX4_isBatch_32 (v := (0 : Int32)) (by decide) (n := 33) rfl ?_
    cases hm
    exact go_zret C dX4_isBatch_33 (Or.inl rfl)
  · have hm := bx_n c3 hm
    refine go_aload_n C dX4_isBatch_11 rfl 0 rfl (n := 12) rfl ?_
    refine go_get C dX4_isBatch_12 (mf4_21 q cI cZ u1.2) rfl inX4 (by decide) fl_X4_49 (n := 15) rfl ?_
    refine go_sipush C dX4_isBatch_15 (v := (-10001 : Int32)) (by decide) (n := 18) rfl ?_
    refine go_icmp_eq C 32 dX4_isBatch_18 (by decide) (n := 21) rfl (fun c4 => ?_) (fun c4 => ?_)
    · have hm := bx_p c4 hm
      refine go_iconst C dX4_isBatch_32 (v := (0 : Int32)) (by decide) (n := 33) rfl ?_
      cases hm
      exact go_zret C dX4_isBatch_33 (Or.inl rfl)
    · have hm := bx_n c4 hm
      refine go_aload_n C dX4_isBatch_21 rfl 0 rfl (n := 22) rfl ?_
      refine go_get C dX4_isBatch_22 (mf4_19 q cI cZ u1.2) rfl inX4 (by decide) fl_X4_60 (n := 25) rfl ?_
      refine go_bipush C dX4_isBatch_25 (v := (6 : Int32)) (by decide) (n := 27) rfl ?_
      refine go_irem C dX4_isBatch_27 (by decide) (n := 28) rfl ?_
      refine go_iconst C dX4_isBatch_28 (v := (5 : Int32)) (by decide) (n := 29) rfl ?_
      refine go_icmp_eq C 34 dX4_isBatch_29 (by decide) (n := 32) rfl (fun c5 => ?_) (fun c5 => ?_)
      · have hm := bx_p c5 hm
        refine go_aload_n C dX4_isBatch_34 rfl 0 rfl (n := 35) rfl ?_
        obtain ⟨u6, e7, hm⟩ := bx_b hm
        refine go_callVv C dX4_isBatch_35 mw_X4_keepNumber ml_X4_63 (rest := []) (ktX4_keepNumber e7) (mo4 q cI cZ u1.2) rfl (by decide) rfl rfl (Nat.le_of_ble_eq_true rfl) (n := 38) rfl ?_
        refine go_iconst C dX4_isBatch_38 (v := (1 : Int32)) (by decide) (n := 39) rfl ?_
        refine go_istore_n C dX4_isBatch_39 rfl (by decide) (lv' := [(1, .int (1 : Int32)), (0, .ref (q 0))]) rfl (n := 40) rfl ?_
        refine go_iconst C dX4_isBatch_40 (v := (0 : Int32)) (by decide) (n := 41) rfl ?_
        refine go_istore_n C dX4_isBatch_41 rfl (by decide) (lv' := [(2, .int (0 : Int32)), (1, .int (1 : Int32)), (0, .ref (q 0))]) rfl (n := 42) rfl ?_
        refine go_lv (lv' := [(0, .ref (q 0)), (1, .int (1 : Int32)), (2, .int (0 : Int32))]) [2, 1, 0] rfl ?_
        exact mX4_isBatch_42_ok C _ _ _ _ _ hm
      · have hm := bx_n c5 hm
        refine go_iconst C dX4_isBatch_32 (v := (0 : Int32)) (by decide) (n := 33) rfl ?_
        cases hm
        exact go_zret C dX4_isBatch_33 (Or.inl rfl)
def mX4_valueOf (v1 : Int32) (v2 : Int32) (σ : bx_St) : Option Int32 := (if bx_ok ((((6 : Int32) * (v1 / (2 : Int32))) + ((2 : Int32) * v2)) + (bx_rem v1 (2 : Int32))) 72 then (some (σ.1 2 ((((6 : Int32) * (v1 / (2 : Int32))) + ((2 : Int32) * v2)) + (bx_rem v1 (2 : Int32))).toNatClampNeg)) else none)
set_option maxRecDepth 8000 in
set_option maxHeartbeats 4000000 in
theorem ktX4_valueOf {l : Launch} {D : va_G} {cI cZ : ClassId} {q : Nat → Nat} {v1 : Int32} {v2 : Int32} {σ : bx_St} {u : Int32} (hm : mX4_valueOf v1 v2 σ = some u) : bx_Mt l D cI cZ yX4_valueOf cX4_valueOf 3 (some .int) 1 [.ref (q 0), .int v1, .int v2] (bx_mw q cI cZ σ) (some (.int u)) (bx_mw q cI cZ σ) := by
  refine bx_mk (by decide) (Nat.le_of_ble_eq_true rfl) (lv := [(0, .ref (q 0)), (1, .int v1), (2, .int v2)]) rfl (fun p e s m args below meth c A C => ?_)
  replace C : bx_Cx p s m args meth c 3 A D cI cZ RX4 cX4_valueOf (some .int) := C
  unfold mX4_valueOf at hm
  refine go_aload_n C dX4_valueOf_0 rfl 0 rfl (n := 1) rfl ?_
  refine go_get C dX4_valueOf_1 (mf4_4 q cI cZ σ) rfl inX4 (by decide) fl_X4_13 (n := 4) rfl ?_
  refine go_bipush C dX4_valueOf_4 (v := (6 : Int32)) (by decide) (n := 6) rfl ?_
  refine go_iload_n C dX4_valueOf_6 rfl 1 rfl (n := 7) rfl ?_
  refine go_iconst C dX4_valueOf_7 (v := (2 : Int32)) (by decide) (n := 8) rfl ?_
  refine go_idiv C dX4_valueOf_8 (by decide) (n := 9) rfl ?_
  refine go_imul C dX4_valueOf_9 (n := 10) rfl ?_
  refine go_iconst C dX4_valueOf_10 (v := (2 : Int32)) (by decide) (n := 11) rfl ?_
  refine go_iload_n C dX4_valueOf_11 rfl 2 rfl (n := 12) rfl ?_
  refine go_imul C dX4_valueOf_12 (n := 13) rfl ?_
  refine go_iadd C dX4_valueOf_13 (n := 14) rfl ?_
  refine go_iload_n C dX4_valueOf_14 rfl 1 rfl (n := 15) rfl ?_
  refine go_iconst C dX4_valueOf_15 (v := (2 : Int32)) (by decide) (n := 16) rfl ?_
  refine go_irem C dX4_valueOf_16 (by decide) (n := 17) rfl ?_
  refine go_iadd C dX4_valueOf_17 (n := 18) rfl ?_
  obtain ⟨b1, hm⟩ := bx_g hm
  refine go_iald C dX4_valueOf_18 (ma_2 q cI cZ σ) b1 (n := 19) rfl ?_
  cases hm
  exact go_iret C dX4_valueOf_19
def mX4_isAhead_47 (s0 : Int32) (σ : bx_St) : Option Int32 := (if s0 = (σ.1 0 3) then (some (1 : Int32)) else (some (0 : Int32)))
set_option maxRecDepth 8000 in
set_option maxHeartbeats 4000000 in
theorem mX4_isAhead_47_ok (C : bx_Cx p s m args meth c 6 A D cI cZ RX4 cX4_isAhead (some .boolean)) : ∀ (s0 : Int32) (σ : bx_St) (u : Int32), mX4_isAhead_47 s0 σ = some u → bx_Go p l e (bx_rm 2) s m args below meth c 6 A D (MQ below (bx_Q (some (.int u)) (bx_mw q cI cZ σ) D A) args s 0 0 A) (bx_mw q cI cZ σ) 47 [(0, .ref (q 0))] [.int s0] := by
  intro s0 σ u hm
  unfold mX4_isAhead_47 at hm
  refine go_aload_n C dX4_isAhead_47 rfl 0 rfl (n := 48) rfl ?_
  refine go_get C dX4_isAhead_48 (mf4_3 q cI cZ σ) rfl inX4 (by decide) fl_X4_101 (n := 51) rfl ?_
  refine go_icmp_ne C 58 dX4_isAhead_51 (by decide) (n := 54) rfl (fun c1 => ?_) (fun c1 => ?_)
  · have hm := bx_n c1 hm
    refine go_iconst C dX4_isAhead_58 (v := (0 : Int32)) (by decide) (n := 59) rfl ?_
    cases hm
    exact go_zret C dX4_isAhead_59 (Or.inl rfl)
  · have hm := bx_p c1 hm
    refine go_iconst C dX4_isAhead_54 (v := (1 : Int32)) (by decide) (n := 55) rfl ?_
    refine go_goto C 59 dX4_isAhead_55 (by decide) ?_
    cases hm
    exact go_zret C dX4_isAhead_59 (Or.inr rfl)
def mX4_isAhead (v1 : Int32) (v2 : Int32) (v3 : Int32) (v4 : Int32) (σ : bx_St) : Option Int32 := (Option.bind (mX4_valueOf v3 v4 σ) fun u1 => (if v2 = u1 then (if (bx_rem v1 (2 : Int32)) = (bx_rem v3 (2 : Int32)) then (if (v3 / (2 : Int32)) ≤ (v1 / (2 : Int32)) then (some (0 : Int32)) else (some (1 : Int32))) else (if (bx_rem v1 (2 : Int32)) = 0 then (mX4_isAhead_47 (1 : Int32) σ) else (mX4_isAhead_47 (0 : Int32) σ))) else (if u1 ≤ v2 then (some (0 : Int32)) else (some (1 : Int32)))))
set_option maxRecDepth 8000 in
set_option maxHeartbeats 4000000 in
theorem ktX4_isAhead {l : Launch} {D : va_G} {cI cZ : ClassId} {q : Nat → Nat} {v1 : Int32} {v2 : Int32} {v3 : Int32} {v4 : Int32} {σ : bx_St} {u : Int32} (hm : mX4_isAhead v1 v2 v3 v4 σ = some u) : bx_Mt l D cI cZ yX4_isAhead cX4_isAhead 6 (some .boolean) 2 [.ref (q 0), .int v1, .int v2, .int v3, .int v4] (bx_mw q cI cZ σ) (some (.int u)) (bx_mw q cI cZ σ) := by
  refine bx_mk (by decide) (Nat.le_of_ble_eq_true rfl) (lv := [(0, .ref (q 0)), (1, .int v1), (2, .int v2), (3, .int v3), (4, .int v4)]) rfl (fun p e s m args below meth c A C => ?_)
  replace C : bx_Cx p s m args meth c 6 A D cI cZ RX4 cX4_isAhead (some .boolean) := C
  unfold mX4_isAhead at hm
  refine go_aload_n C dX4_isAhead_0 rfl 0 rfl (n := 1) rfl ?_
  refine go_iload_n C dX4_isAhead_1 rfl 3 rfl (n := 2) rfl ?_
  refine go_iload C dX4_isAhead_2 4 rfl (n := 4) rfl ?_
  obtain ⟨u1, e2, hm⟩ := bx_b hm
  refine go_callVi C dX4_isAhead_4 mw_X4_valueOf ml_X4_97 (rest := []) (ktX4_valueOf e2) (mo4 q cI cZ σ) rfl (by decide) rfl rfl (Nat.le_of_ble_eq_true rfl) (n := 7) rfl ?_
  refine go_istore C dX4_isAhead_7 (by decide) (lv' := [(5, .int u1), (0, .ref (q 0)), (1, .int v1), (2, .int v2), (3, .int v3), (4, .int v4)]) rfl (n := 9) rfl ?_
  refine go_iload_n C dX4_isAhead_9 rfl 3 rfl (n := 10) rfl ?_
  refine go_iload C dX4_isAhead_10 0 rfl (n := 12) rfl ?_
  refine go_icmp_eq C 27 dX4_isAhead_12 (by decide) (n := 15) rfl (fun c3 => ?_) (fun c3 => ?_)
  · have hm := bx_p c3 hm
    refine go_iload_n C dX4_isAhead_27 rfl 2 rfl (n := 28) rfl ?_
    refine go_iconst C dX4_isAhead_28 (v := (2 : Int32)) (by decide) (n := 29) rfl ?_
    refine go_irem C dX4_isAhead_29 (by decide) (n := 30) rfl ?_
    refine go_iload_n C dX4_isAhead_30 rfl 4 rfl (n := 31) rfl ?_
    refine go_iconst C dX4_isAhead_31 (v := (2 : Int32)) (by decide) (n := 32) rfl ?_
    refine go_irem C dX4_isAhead_32 (by decide) (n := 33) rfl ?_
    refine go_icmp_eq C 60 dX4_isAhead_33 (by decide) (n := 36) rfl (fun c4 => ?_) (fun c4 => ?_)
    · have hm := bx_p c4 hm
      refine go_iload_n C dX4_isAhead_60 rfl 2 rfl (n := 61) rfl ?_
      refine go_iconst C dX4_isAhead_61 (v := (2 : Int32)) (by decide) (n := 62) rfl ?_
      refine go_idiv C dX4_isAhead_62 (by decide) (n := 63) rfl ?_
      refine go_iload_n C dX4_isAhead_63 rfl 4 rfl (n := 64) rfl ?_
      refine go_iconst C dX4_isAhead_64 (v := (2 : Int32)) (by decide) (n := 65) rfl ?_
      refine go_idiv C dX4_isAhead_65 (by decide) (n := 66) rfl ?_
      refine go_icmp_ge C 73 dX4_isAhead_66 (by decide) (n := 69) rfl (fun c5 => ?_) (fun c5 => ?_)
      · have hm := bx_p c5 hm
        refine go_iconst C dX4_isAhead_73 (v := (0 : Int32)) (by decide) (n := 74) rfl ?_
        cases hm
        exact go_zret C dX4_isAhead_74 (Or.inl rfl)
      · have hm := bx_n c5 hm
        refine go_iconst C dX4_isAhead_69 (v := (1 : Int32)) (by decide) (n := 70) rfl ?_
        refine go_goto C 74 dX4_isAhead_70 (by decide) ?_
        cases hm
        exact go_zret C dX4_isAhead_74 (Or.inr rfl)
    · have hm := bx_n c4 hm
      refine go_iload_n C dX4_isAhead_36 rfl 2 rfl (n := 37) rfl ?_
      refine go_iconst C dX4_isAhead_37 (v := (2 : Int32)) (by decide) (n := 38) rfl ?_
      refine go_irem C dX4_isAhead_38 (by decide) (n := 39) rfl ?_
      refine go_if_ne C 46 dX4_isAhead_39 (by decide) (n := 42) rfl (fun c6 => ?_) (fun c6 => ?_)
      · have hm := bx_n c6 hm
        refine go_iconst C dX4_isAhead_46 (v := (0 : Int32)) (by decide) (n := 47) rfl ?_
        refine go_lv (lv' := [(0, .ref (q 0))]) [1] rfl ?_
        exact mX4_isAhead_47_ok C _ _ _ hm
      · have hm := bx_p c6 hm
        refine go_iconst C dX4_isAhead_42 (v := (1 : Int32)) (by decide) (n := 43) rfl ?_
        refine go_goto C 47 dX4_isAhead_43 (by decide) ?_
        refine go_lv (lv' := [(0, .ref (q 0))]) [1] rfl ?_
        exact mX4_isAhead_47_ok C _ _ _ hm
  · have hm := bx_n c3 hm
    refine go_iload_n C dX4_isAhead_15 rfl 3 rfl (n := 16) rfl ?_
    refine go_iload C dX4_isAhead_16 0 rfl (n := 18) rfl ?_
    refine go_icmp_ge C 25 dX4_isAhead_18 (by decide) (n := 21) rfl (fun c7 => ?_) (fun c7 => ?_)
    · have hm := bx_p c7 hm
      refine go_iconst C dX4_isAhead_25 (v := (0 : Int32)) (by decide) (n := 26) rfl ?_
      cases hm
      exact go_zret C dX4_isAhead_26 (Or.inl rfl)
    · have hm := bx_n c7 hm
      refine go_iconst C dX4_isAhead_21 (v := (1 : Int32)) (by decide) (n := 22) rfl ?_
      refine go_goto C 26 dX4_isAhead_22 (by decide) ?_
      cases hm
      exact go_zret C dX4_isAhead_26 (Or.inr rfl)
end
