theorem bx_split {A : Nat → Prop} {w1 w2 : va_W} (h : va_D A (w1 ++ w2)) : va_D A w1 ∧ va_D A w2 ∧ (∀ (i j : Nat) (x y : Nat × va_E), w1[i]? = some x → w2[j]? = some y → x.1 ≠ y.1) := by
  have hl : ∀ (i : Nat) (x : Nat × va_E), w1[i]? = some x → (w1 ++ w2)[i]? = some x := fun i x hx => by
    rw [List.getElem?_append_left (List.getElem?_eq_some_iff.mp hx).1]; exact hx
  have hr : ∀ (j : Nat) (x : Nat × va_E), w2[j]? = some x → (w1 ++ w2)[w1.length + j]? = some x := fun j x hx => by
    rw [List.getElem?_append_right (by omega), Nat.add_sub_cancel_left]; exact hx
  refine ⟨⟨fun i j p q hp hq e => h.1 i j p q (hl i p hp) (hl j q hq) e, fun k q hk => h.2 k q (hl k q hk)⟩, ⟨fun i j p q hp hq e => ?_, fun k q hk => h.2 _ q (hr k q hk)⟩, fun i j x y hx hy e => ?_⟩
  · have := h.1 _ _ p q (hr i p hp) (hr j q hq) e
    omega
  · have := h.1 _ _ x y (hl i x hx) (hr j y hy) e
    have := (List.getElem?_eq_some_iff.mp hx).1
    omega
theorem bx_splitP {D : va_G} {cl : List vw_C} {w1 w2 : va_W} {H : Heap} (h : va_P D cl (w1 ++ w2) H) : va_P D cl w1 H ∧ va_P D cl w2 H := by
  refine ⟨fun i x hx => h i x ?_, fun j x hx => h (w1.length + j) x ?_⟩
  · rw [List.getElem?_append_left (List.getElem?_eq_some_iff.mp hx).1]; exact hx
  · rw [List.getElem?_append_right (by omega), Nat.add_sub_cancel_left]; exact hx
/-- behind a call: what the callee doesn't reach stays -/
theorem bx_join {A : Nat → Prop} {D : va_G} {wr wc w1 : va_W} {H H1 : Heap} (hPr : va_P D vwCl wr H) (hdis : ∀ (i j : Nat) (x y : Nat × va_E), wr[i]? = some x → wc[j]? = some y → x.1 ≠ y.1) (hk : ∀ q : Nat, q < H.size → ¬ va_A wc H.size q → H1[q]? = H[q]?) (hF : ∀ q, va_A wc H.size q → A q) (hD1 : va_D (va_A wc H.size) w1) : va_P D vwCl wr H1 ∧ va_D A w1 ∧ (∀ (i j : Nat) (x y : Nat × va_E), wr[i]? = some x → w1[j]? = some y → x.1 ≠ y.1) := by
  have apart : ∀ (i : Nat) (x : Nat × va_E), wr[i]? = some x → x.1 < H.size ∧ ¬ va_A wc H.size x.1 := by
    intro i x hx
    have hl := (hPr i x hx).lt
    refine ⟨hl, fun h => ?_⟩
    rcases h with ⟨j, e, h⟩ | h
    · exact hdis i j x (x.1, e) hx h rfl
    · omega
  refine ⟨hPr.kept (fun i x hx => hk x.1 (apart i x hx).1 (apart i x hx).2), hD1.weaken (fun k q _ h => hF q.1 h), fun i j x y hx hy e => ?_⟩
  exact (apart i x hx).2 (e ▸ hD1.2 j y hy)
theorem bx_inA {A : Nat → Prop} {ws : va_W} {H0 H : Heap} {locs : List Loc} (hD : va_D A ws) (hS : va_S A H0 H locs) (hA : ∀ q, H0.size ≤ q → A q) : ∀ q, va_A ws H.size q → A q := by
  intro q h
  rcases h with ⟨k, e, h⟩ | h
  · exact hD.2 k (q, e) h
  · exact hA q (Nat.le_trans hS.1 h)
def bx_Gc (p : Program) (l : Launch) (e : Env) (R : Room) (s : State) (m : MethodId) (args : Array Value) (below : List Frame) (meth : Method) (c : Code) (nL : Nat) (A : Nat → Prop) (D : va_G) (Q : State → Prop) (cells slots : Nat) (ws : va_W) (pc : Nat) (lv : List (Nat × Value)) (st : List Value) : Prop :=
  ∀ (H : Heap) (locs : List Loc) (ls : Array Slot), va_P D vwCl ws H → va_D A ws → va_S A s.heap H locs → lv_has ls nL lv → W p l e R s m args below meth c H locs cells slots Q (F0 m pc ls st)
abbrev bx_rc (d mc ms : Nat) : Room := { frames := d, cells := mc, slots := ms, locals := 64 * d }
def bx_Qc (F : (Nat → Nat) → va_W) (D : va_G) (A : Nat → Prop) : Array Value → State → Outcome → State → Prop := fun _ st oc t => (oc = .returned none ∧ ∃ q : Nat → Nat, va_P D vwCl (F q) t.heap ∧ va_D A (F q)) ∧ va_F A st t
/-- a constructor's contract -/
def bx_Ct (l : Launch) (D : va_G) (cI cZ : ClassId) (y : MethodName) (cc : ByteArray) (d mc ms : Nat) (b : Nat) (bl : va_E) (F : (Nat → Nat) → va_W) : Prop :=
  ∀ sz : Nat, Met l y (Cond.code y cc 1 none :: bx_tbl) (bx_rc d mc ms) (va_Pc [.ref b] (fun U => U.heap.size = sz ∧ va_P D vwCl [(b, bl)] U.heap ∧ (va_K D vwCl (bx_tys cI cZ) U ∧ bx_NW U) ∧ va_D (fun _ => True) [(b, bl)])) (bx_Qc F D (va_A [(b, bl)] sz)) mc ms (va_A [(b, bl)] sz)
theorem kw_obj1 : Cond.instanceMethod objectInit ∈ bx_tbl := bx_in 83 (by decide +kernel) (by decide +kernel)
theorem kw_obj2 : Cond.code objectInit ⟨#[0xb1]⟩ 1 none ∈ bx_tbl := bx_in 84 (by decide +kernel) (by decide +kernel)
theorem kw_arI : Cond.arrayClass .int ∈ bx_tbl := bx_in 123 (by decide +kernel) (by decide +kernel)
theorem kw_arZ : Cond.arrayClass .boolean ∈ bx_tbl := bx_in 679 (by decide +kernel) (by decide +kernel)
theorem kw_ob_X3 : Cond.methodLink RX3 1 objectInit ∈ bx_tbl := bx_in 82 (by decide +kernel) (by decide +kernel)
theorem kw_ob_X2 : Cond.methodLink RX2 5 objectInit ∈ bx_tbl := bx_in 90 (by decide +kernel) (by decide +kernel)
theorem kw_ob_X1 : Cond.methodLink RX1 3 objectInit ∈ bx_tbl := bx_in 129 (by decide +kernel) (by decide +kernel)
theorem kw_ob_X0 : Cond.methodLink RX0 3 objectInit ∈ bx_tbl := bx_in 159 (by decide +kernel) (by decide +kernel)
theorem kw_ob_X4 : Cond.methodLink RX4 1 objectInit ∈ bx_tbl := bx_in 593 (by decide +kernel) (by decide +kernel)
theorem kw_cl_X2 : Cond.classLink RX3 7 RX2 ∈ bx_tbl := bx_in 85 (by decide +kernel) (by decide +kernel)
theorem kw_cl_X1 : Cond.classLink RX3 16 RX1 ∈ bx_tbl := bx_in 124 (by decide +kernel) (by decide +kernel)
theorem kw_cl_X0 : Cond.classLink RX3 29 RX0 ∈ bx_tbl := bx_in 154 (by decide +kernel) (by decide +kernel)
theorem kw_cl_X3 : Cond.classLink RL 7 RX3 ∈ bx_tbl := bx_in 77 (by decide +kernel) (by decide +kernel)
theorem kw_cl_X4 : Cond.classLink RL 10 RX4 ∈ bx_tbl := bx_in 588 (by decide +kernel) (by decide +kernel)
theorem kw_in_X3 : Cond.instantiable RX3 8 ∈ bx_tbl := bx_in 78 (by decide +kernel) (by decide +kernel)
theorem kw_in_X2 : Cond.instantiable RX2 7 ∈ bx_tbl := bx_in 86 (by decide +kernel) (by decide +kernel)
theorem kw_in_X1 : Cond.instantiable RX1 6 ∈ bx_tbl := bx_in 125 (by decide +kernel) (by decide +kernel)
theorem kw_in_X0 : Cond.instantiable RX0 11 ∈ bx_tbl := bx_in 155 (by decide +kernel) (by decide +kernel)
theorem kw_in_X4 : Cond.instantiable RX4 28 ∈ bx_tbl := bx_in 589 (by decide +kernel) (by decide +kernel)
section bxE
variable {p : Program} {l : Launch} {e : Env} {R : Room} {s : State} {m : MethodId} {args : Array Value} {below : List Frame} {meth : Method} {c : Code} {nL : Nat} {A : Nat → Prop} {D : va_G} {Q : State → Prop} {cells slots : Nat} {ws ws' : va_W} {pc n : Nat} {lv : List (Nat × Value)} {st : List Value} {cI cZ : ClassId} {own : String} {cc : ByteArray} {ret : Option FieldType}
theorem gc_aload_n (C : bx_Cx p s m args meth c nL A D cI cZ own cc ret) {i : Nat} {f : Fin 4} {x : Nat} (d : decode cc pc = .ok (.aload_n f, 1)) (hi : (f : Nat) = i) (j : Nat) (hj : lv[j]? = some (i, .ref x)) (hn : pc + 1 = n) (k : bx_Gc p l e R s m args below meth c nL A D Q cells slots ws n lv (.ref x :: st)) : bx_Gc p l e R s m args below meth c nL A D Q cells slots ws pc lv st := fun H locs ls hP hD hS hl => by
  subst hn
  exact lv_aload_n C.1 C.2.1 d hi (lv_at hl j hj) (k H locs ls hP hD hS hl)
theorem gc_iload_n (C : bx_Cx p s m args meth c nL A D cI cZ own cc ret) {i : Nat} {f : Fin 4} {x : Int32} (d : decode cc pc = .ok (.iload_n f, 1)) (hi : (f : Nat) = i) (j : Nat) (hj : lv[j]? = some (i, .int x)) (hn : pc + 1 = n) (k : bx_Gc p l e R s m args below meth c nL A D Q cells slots ws n lv (.int x :: st)) : bx_Gc p l e R s m args below meth c nL A D Q cells slots ws pc lv st := fun H locs ls hP hD hS hl => by
  subst hn
  exact lv_iload_n C.1 C.2.1 d hi (lv_at hl j hj) (k H locs ls hP hD hS hl)
theorem gc_iconst (C : bx_Cx p s m args meth c nL A D cI cZ own cc ret) {i : Int} {v : Int32} (d : decode cc pc = .ok (.iconst i, 1)) (hv : Int32.ofInt i = v) (hn : pc + 1 = n) (k : bx_Gc p l e R s m args below meth c nL A D Q cells slots ws n lv (.int v :: st)) : bx_Gc p l e R s m args below meth c nL A D Q cells slots ws pc lv st := fun H locs ls hP hD hS hl => by
  subst hn
  exact lv_iconst C.1 C.2.1 d hv (k H locs ls hP hD hS hl)
theorem gc_bipush (C : bx_Cx p s m args meth c nL A D cI cZ own cc ret) {i : Int} {v : Int32} (d : decode cc pc = .ok (.bipush i, 2)) (hv : (Int8.ofInt i).toInt32 = v) (hn : pc + 2 = n) (k : bx_Gc p l e R s m args below meth c nL A D Q cells slots ws n lv (.int v :: st)) : bx_Gc p l e R s m args below meth c nL A D Q cells slots ws pc lv st := fun H locs ls hP hD hS hl => by
  subst hn
  exact lv_bipush C.1 C.2.1 d hv (k H locs ls hP hD hS hl)
theorem gc_sipush (C : bx_Cx p s m args meth c nL A D cI cZ own cc ret) {i : Int} {v : Int32} (d : decode cc pc = .ok (.sipush i, 3)) (hv : (Int16.ofInt i).toInt32 = v) (hn : pc + 3 = n) (k : bx_Gc p l e R s m args below meth c nL A D Q cells slots ws n lv (.int v :: st)) : bx_Gc p l e R s m args below meth c nL A D Q cells slots ws pc lv st := fun H locs ls hP hD hS hl => by
  subst hn
  exact lv_sipush C.1 C.2.1 d hv (k H locs ls hP hD hS hl)
theorem gc_dup (C : bx_Cx p s m args meth c nL A D cI cZ own cc ret) {v : Value} (d : decode cc pc = .ok (.dup, 1)) (hc : v.category = 1) (hn : pc + 1 = n) (k : bx_Gc p l e R s m args below meth c nL A D Q cells slots ws n lv (v :: v :: st)) : bx_Gc p l e R s m args below meth c nL A D Q cells slots ws pc lv (v :: st) := fun H locs ls hP hD hS hl => by
  subst hn
  exact lv_dup C.1 C.2.1 d hc (k H locs ls hP hD hS hl)
theorem gc_iadd (C : bx_Cx p s m args meth c nL A D cI cZ own cc ret) {x y : Int32} (d : decode cc pc = .ok (.iadd, 1)) (hn : pc + 1 = n) (k : bx_Gc p l e R s m args below meth c nL A D Q cells slots ws n lv (.int (x + y) :: st)) : bx_Gc p l e R s m args below meth c nL A D Q cells slots ws pc lv (.int y :: .int x :: st) := fun H locs ls hP hD hS hl => by
  subst hn
  exact lv_iadd C.1 C.2.1 d (k H locs ls hP hD hS hl)
theorem gc_isub (C : bx_Cx p s m args meth c nL A D cI cZ own cc ret) {x y : Int32} (d : decode cc pc = .ok (.isub, 1)) (hn : pc + 1 = n) (k : bx_Gc p l e R s m args below meth c nL A D Q cells slots ws n lv (.int (x - y) :: st)) : bx_Gc p l e R s m args below meth c nL A D Q cells slots ws pc lv (.int y :: .int x :: st) := fun H locs ls hP hD hS hl => by
  subst hn
  exact lv_isub C.1 C.2.1 d (k H locs ls hP hD hS hl)
theorem gc_iand (C : bx_Cx p s m args meth c nL A D cI cZ own cc ret) {x y : Int32} (d : decode cc pc = .ok (.iand, 1)) (hn : pc + 1 = n) (k : bx_Gc p l e R s m args below meth c nL A D Q cells slots ws n lv (.int (x &&& y) :: st)) : bx_Gc p l e R s m args below meth c nL A D Q cells slots ws pc lv (.int y :: .int x :: st) := fun H locs ls hP hD hS hl => by
  subst hn
  exact lv_iand C.1 C.2.1 d (k H locs ls hP hD hS hl)
theorem gc_lcmp (C : bx_Cx p s m args meth c nL A D cI cZ own cc ret) {x y : Int64} (d : decode cc pc = .ok (.lcmp, 1)) (hn : pc + 1 = n) (k : bx_Gc p l e R s m args below meth c nL A D Q cells slots ws n lv (.int (lg_cmp x y) :: st)) : bx_Gc p l e R s m args below meth c nL A D Q cells slots ws pc lv (.long y :: .long x :: st) := fun H locs ls hP hD hS hl => by
  subst hn
  exact W.lcmp C.1 C.2.1 d (k H locs ls hP hD hS hl)
theorem gc_obj (C : bx_Cx p s m args meth c nL A D cI cZ own cc ret) {b idx : Nat} (d : decode cc pc = .ok (.invokespecial idx, 3)) (hl : Cond.methodLink own idx objectInit ∈ bx_tbl) (hf : 1 ≤ R.frames) (hW : (st.map fun v => v.category).sum ≤ 8) (hlo : 20 ≤ R.locals) (hn : pc + 3 = n) (k : bx_Gc p l e R s m args below meth c nL A D Q cells slots ws n lv st) : bx_Gc p l e R s m args below meth c nL A D Q cells slots ws pc lv (.ref b :: st) := fun H locs ls hP hD hS hlv => by
  subst hn
  obtain ⟨hx, hb, hml, hown, hts, hK, hA, -, -⟩ := C
  refine W.objInit hx hb hown (hts _ hl) (hts _ kw_obj1) (hts _ kw_obj2) rfl (hlv.1.trans hml.symm) rfl d hf ?_ ?_
  · show 2 * 0 + _ + 12 ≤ _
    omega
  · exact W.eq (g2 := F0 m (pc + 3) ls st) rfl (k H locs ls hP hD hS hlv)
theorem gc_newI (C : bx_Cx p s m args meth c nL A D cI cZ own cc ret) {v : Int32} {N : Nat} (d : decode cc pc = .ok (.newarray .int, 2)) (hv : ¬ v < 0) (hN : v.toNatClampNeg = N) (hb : N * componentBytes .int ≤ 536870912) (hcells : cells + 1 ≤ R.cells) (hslots : slots + N ≤ R.slots) (hn : pc + 2 = n) (k : ∀ q : Nat, bx_Gc p l e R s m args below meth c nL A D Q (cells + 1) (slots + N) (ws ++ [(q, .inl (cI, N, .inl (fun _ => 0)))]) n lv (.ref q :: st)) : bx_Gc p l e R s m args below meth c nL A D Q cells slots ws pc lv (.int v :: st) := fun H locs ls hP hD hS hl => by
  subst hn
  refine va_newa (atype := .int) C.1 C.2.1 (C.2.2.2.2.1 _ kw_arI) rfl C.2.2.2.2.2.1.1 hP hD hS C.2.2.2.2.2.2.1 (a0 := (N, .inl (fun _ => 0))) (fun _ => rfl) hv hN hb hcells hslots d (fun q cA H1 hK1 hP1 hD1 hS1 => ?_)
  have h1 := (hK1.2 2 _ rfl).2
  have h2 := (C.2.2.2.2.2.1.1.2 0 _ rfl).2
  have h3 : cA = cI := Option.some.inj ((show s.vm.findClass _ = some cA from h1).symm.trans (show s.vm.findClass _ = some cI from h2))
  subst h3
  exact k q H1 locs ls hP1 hD1 hS1 hl
theorem gc_newZ (C : bx_Cx p s m args meth c nL A D cI cZ own cc ret) {v : Int32} {N : Nat} (d : decode cc pc = .ok (.newarray .boolean, 2)) (hv : ¬ v < 0) (hN : v.toNatClampNeg = N) (hb : N * componentBytes .boolean ≤ 536870912) (hcells : cells + 1 ≤ R.cells) (hslots : slots + N ≤ R.slots) (hn : pc + 2 = n) (k : ∀ q : Nat, bx_Gc p l e R s m args below meth c nL A D Q (cells + 1) (slots + N) (ws ++ [(q, .inl (cZ, N, .inl (fun _ => 0)))]) n lv (.ref q :: st)) : bx_Gc p l e R s m args below meth c nL A D Q cells slots ws pc lv (.int v :: st) := fun H locs ls hP hD hS hl => by
  subst hn
  refine va_newa (atype := .boolean) C.1 C.2.1 (C.2.2.2.2.1 _ kw_arZ) rfl C.2.2.2.2.2.1.1 hP hD hS C.2.2.2.2.2.2.1 (a0 := (N, .inl (fun _ => 0))) (fun _ => rfl) hv hN hb hcells hslots d (fun q cA H1 hK1 hP1 hD1 hS1 => ?_)
  have h1 := (hK1.2 2 _ rfl).2
  have h2 := (C.2.2.2.2.2.1.1.2 1 _ rfl).2
  have h3 : cA = cZ := Option.some.inj ((show s.vm.findClass _ = some cA from h1).symm.trans (show s.vm.findClass _ = some cZ from h2))
  subst h3
  exact k q H1 locs ls hP1 hD1 hS1 hl
theorem gc_put (C : bx_Cx p s m args meth c nL A D cI cZ own cc ret) {a ci j idx N : Nat} {v : Value} {Cn : String} {T : u_T} {ty0 : Nat → FieldType} {ty : FieldType} (d : decode cc pc = .ok (.putfield idx, 3)) (hF : bx_PutF ws a ci j v ws') (hc : vwCl[ci]? = some (Cn, T, N)) (hin : ∀ w ∈ u_ws Cn T N, w ∈ bx_tbl) (hty : ∀ k, k < N → parseFieldDescriptor (T k).2.2.1 = some (ty0 k)) (hnm : ∀ a, a < N → ∀ b, b < N → a ≠ b → (T a).2.1 ≠ (T b).2.1) (hk : j < N) (hlink : Cond.fieldLink own idx (T j).1 (T j).2.1 (T j).2.2.1 ∈ bx_tbl) (hfin : (T j).2.2.2 = false) (hd : parseFieldDescriptor (T j).2.2.1 = some ty) (hw : narrow ty v = v) (hfit : fits ty v = true) (hn : pc + 3 = n) (k : bx_Gc p l e R s m args below meth c nL A D Q cells slots ws' n lv st) : bx_Gc p l e R s m args below meth c nL A D Q cells slots ws pc lv (v :: .ref a :: st) := fun H locs ls hP hD hS hl => by
  subst hn
  obtain ⟨q0, fs, h1, h2, h3⟩ := hF
  exact va_put C.1 C.2.1 C.2.2.2.2.1 hin ty0 hty hnm C.2.2.2.1 C.2.2.2.2.2.1.1 hP hD hS q0 h1 hc j hk (C.2.2.2.2.1 _ hlink) (fun _ h => h) hfin hd hw hfit h2 d (fun H1 locs1 hP1 hD1 hS1 => k H1 locs1 ls (h3 ▸ hP1) (h3 ▸ hD1) hS1 hl)
theorem gc_putF (C : bx_Cx p s m args meth c nL A D cI cZ own cc ret) {a ci j idx N : Nat} {v : Value} {Cn : String} {T : u_T} {ty0 : Nat → FieldType} {ty : FieldType} (d : decode cc pc = .ok (.putfield idx, 3)) (hF : bx_PutF ws a ci j v ws') (hc : vwCl[ci]? = some (Cn, T, N)) (hin : ∀ w ∈ u_ws Cn T N, w ∈ bx_tbl) (hty : ∀ k, k < N → parseFieldDescriptor (T k).2.2.1 = some (ty0 k)) (hnm : ∀ a, a < N → ∀ b, b < N → a ≠ b → (T a).2.1 ≠ (T b).2.1) (hk : j < N) (hlink : Cond.fieldLink own idx (T j).1 (T j).2.1 (T j).2.2.1 ∈ bx_tbl) (hfin : (T j).2.2.2 = true) (hin2 : meth.name = "<init>") (hdecl : (T j).1 = own) (hd : parseFieldDescriptor (T j).2.2.1 = some ty) (hw : narrow ty v = v) (hfit : fits ty v = true) (hn : pc + 3 = n) (k : bx_Gc p l e R s m args below meth c nL A D Q cells slots ws' n lv st) : bx_Gc p l e R s m args below meth c nL A D Q cells slots ws pc lv (v :: .ref a :: st) := fun H locs ls hP hD hS hl => by
  subst hn
  obtain ⟨q0, fs, h1, h2, h3⟩ := hF
  exact va_putF C.1 C.2.1 C.2.2.2.2.1 hin ty0 hty hnm C.2.2.2.1 C.2.2.2.2.2.1.1 hP hD hS q0 h1 hc j hk (C.2.2.2.2.1 _ hlink) (fun _ h => h) hfin hin2 hdecl hd hw hfit h2 d (fun H1 locs1 hP1 hD1 hS1 => k H1 locs1 ls (h3 ▸ hP1) (h3 ▸ hD1) hS1 hl)
theorem gc_new (C : bx_Cx p s m args meth c nL A D cI cZ own cc ret) {ci idx N : Nat} {Cn : String} {T : u_T} {ty0 : Nat → FieldType} {fs : List Value} (d : decode cc pc = .ok (.new idx, 3)) (hc : vwCl[ci]? = some (Cn, T, N)) (hin : ∀ w ∈ u_ws Cn T N, w ∈ bx_tbl) (hty : ∀ k, k < N → parseFieldDescriptor (T k).2.2.1 = some (ty0 k)) (hcl : Cond.classLink own idx Cn ∈ bx_tbl) (hinst : Cond.instantiable Cn N ∈ bx_tbl) (hini : Cond.initialized Cn ∈ bx_tbl) (hfs : ∀ j, j < N → defaultValue (ty0 j) = vp_V fs j) (hcells : cells + 1 ≤ R.cells) (hslots : slots + N ≤ R.slots) (hn : pc + 3 = n) (k : ∀ q : Nat, bx_Gc p l e R s m args below meth c nL A D Q (cells + 1) (slots + N) (ws ++ [(q, .inr (ci, fs))]) n lv (.ref q :: st)) : bx_Gc p l e R s m args below meth c nL A D Q cells slots ws pc lv st := fun H locs ls hP hD hS hl => by
  subst hn
  exact va_new C.1 C.2.1 C.2.2.2.2.1 hin ty0 hty C.2.2.2.1 (C.2.2.2.2.1 _ hcl) (C.2.2.2.2.1 _ hinst) (C.2.2.2.2.1 _ hini) C.2.2.2.2.2.1.1 hP hD hS C.2.2.2.2.2.2.1 hc hfs hcells hslots d (fun q H1 hP1 hD1 hS1 => k q H1 locs ls hP1 hD1 hS1 hl)
theorem gc_ws (h : ws = ws') (k : bx_Gc p l e R s m args below meth c nL A D Q cells slots ws' pc lv st) : bx_Gc p l e R s m args below meth c nL A D Q cells slots ws pc lv st := h ▸ k
theorem gc_num {c2 s2 : Nat} (h : cells = c2) (h2 : slots = s2) (k : bx_Gc p l e R s m args below meth c nL A D Q c2 s2 ws pc lv st) : bx_Gc p l e R s m args below meth c nL A D Q cells slots ws pc lv st := by subst h; subst h2; exact k
theorem bx_blindC {b : Nat} {bl : va_E} {sz : Nat} : FrameBlind (va_Pc [.ref b] (fun U => U.heap.size = sz ∧ va_P D vwCl [(b, bl)] U.heap ∧ (va_K D vwCl (bx_tys cI cZ) U ∧ bx_NW U) ∧ va_D (fun _ => True) [(b, bl)])) := bx_blind
theorem gc_init (C : bx_Cx p s m args meth c nL A D cI cZ own cc ret) {y : MethodName} {cc' : ByteArray} {d' mc ms b idx : Nat} {bl : va_E} {F : (Nat → Nat) → va_W} (d : decode cc pc = .ok (.invokespecial idx, 3)) (hM : bx_Ct l D cI cZ y cc' d' mc ms b bl F) (hl : Cond.methodLink own idx y ∈ bx_tbl) (hi : Cond.instanceMethod y ∈ bx_tbl) (hco : Cond.code y cc' 1 none ∈ bx_tbl) (hini : Cond.initialized y.cls ∈ bx_tbl) (hy : y.name = "<init>") (hy2 : y.cls ≠ "java/lang/invoke/MethodHandle" ∧ y.cls ≠ "java/lang/invoke/VarHandle" ∧ (parseMethodDescriptor y.desc).map (fun d => d.parameters.length) = some 0) (hfr : d' + 1 ≤ R.frames) (hlo : 20 + 64 * d' ≤ R.locals) (hc : cells + mc ≤ R.cells) (hs : slots + ms ≤ R.slots) (hW : (st.map fun v => v.category).sum ≤ 8) (hn : pc + 3 = n)
    (k : ∀ q : Nat → Nat, bx_Gc p l e R s m args below meth c nL A D Q (cells + mc) (slots + ms) (ws ++ F q) n lv st) : bx_Gc p l e R s m args below meth c nL A D Q cells slots (ws ++ [(b, bl)]) pc lv (.ref b :: st) := fun H locs ls hP hD hS hlv => by
  subst hn
  obtain ⟨hx, hb, hml, hown, hts, hK, hA, -, -⟩ := C
  obtain ⟨hPr, hPc⟩ := bx_splitP hP
  obtain ⟨hDr, hDc, hdis⟩ := bx_split hD
  have hF := bx_inA hDc hS hA
  intro T hT X
  have hr := va_runI (As := []) (rest := st) (nL := nL) (cells := cells) (slots := slots) (R := R) (locs := locs) (e := e) (below := below) (meth := meth) (g := F0 m pc ls (.ref b :: st)) ⟨hx, hb, hml, hown, hts⟩ (hM H.size) ⟨callB_of 0 hts (bx_gi _ _ _ _ hco) rfl rfl rfl (hts _ hini) (hts _ hl) hy2 ⟨hfr, by show 8 + (1 + 11) + 64 * d' ≤ _; omega⟩, hy, hts _ hi⟩ ⟨bx_blindC, fun U hU hW2 => ⟨rfl, by rw [hU], by rw [hU]; exact hPc, ⟨va_K.moved hW2.alike hK.1, hK.2.warm hW2⟩, hDc.weaken (fun _ _ _ _ => trivial)⟩⟩ rfl rfl hlv.1 rfl (lv_room hW) d ⟨hc, hs⟩ T hT X
  obtain ⟨v, st₀, t, T', L, h0, X', hL, e1, e2, ⟨⟨hv, q, hp, hd⟩, hz, hk⟩, st2⟩ := hr
  cases hv
  rw [h0] at hz hk
  have hk' : ∀ q : Nat, q < H.size → ¬ va_A [(b, bl)] H.size q → T'.heap[q]? = H[q]? := fun q h1 h2 => by rw [e1]; exact hk q h1 h2
  have hp' : va_P D vwCl (F q) T'.heap := by rw [e1]; exact hp
  obtain ⟨j1, j2, j3⟩ := bx_join (A := A) hPr hdis hk' hF hd
  obtain ⟨t2, a1, b1⟩ := k q T'.heap (locs ++ L) ls (j1.app hp') (hDr.app j2 j3) ⟨Nat.le_trans hS.1 (by rw [e1]; exact hz), fun q h1 h2 => by rw [hk' q (Nat.lt_of_lt_of_le h1 hS.1) (fun z => h2 (hF q z))]; exact hS.2.1 q h1 h2, fun q hq => by
      rcases List.mem_append.mp hq with h | h
      · exact hS.2.2 q h
      · exact hF _ (hL q h)⟩ hlv T' rfl X'
  exact ⟨t2, st2 t2 a1, b1⟩
theorem gc_vret (C : bx_Cx p s m args meth c nL A D cI cZ own cc none) {F : (Nat → Nat) → va_W} (q : Nat → Nat) (h : ws = F q) (d : decode cc pc = .ok (.return_, 1)) : bx_Gc p l e R s m args below meth c nL A D (MQ below (bx_Qc F D A) args s cells slots A) cells slots ws pc lv [] := fun H locs ls hP hD hS hl => W.vret C.1 C.2.1 C.2.2.2.2.2.2.2.1 (fun t ht _ => ⟨⟨rfl, q, by rw [ht, ← h]; exact hP, h ▸ hD⟩, hS.F ht⟩) hS.2.2 d C.2.2.2.2.2.2.2.2
end bxE
/-- a constructor's contract out of its body's walk -/
theorem bx_mkc {l : Launch} {D : va_G} {cI cZ : ClassId} {y : MethodName} {cc : ByteArray} {d mc ms b : Nat} {bl : va_E} {F : (Nat → Nat) → va_W} (hy : plainName y.cls = true) (hy1 : y.name = "<init>")
    (body : ∀ (p : Program) (e : Env) (s : State) (m : MethodId) (args : Array Value) (below : List Frame) (meth : Method) (c : Code) (A : Nat → Prop), bx_Cx p s m args meth c 1 A D cI cZ y.cls cc none → meth.name = "<init>" → bx_Gc p l e (bx_rc d mc ms) s m args below meth c 1 A D (MQ below (bx_Qc F D A) args s mc ms A) 0 0 [(b, bl)] 0 [(0, .ref b)] []) : bx_Ct l D cI cZ y cc d mc ms b bl F := by
  intro sz
  refine Met.ofW (cc := cc) (maxL := 1) (ret := none) hy rfl ?_
  intro p e s m args below meth c s₁ B hml hv
  obtain ⟨rfl, hsz, hP, hK, hD0⟩ := hv
  have hts := atoms_spec (ws := Cond.code y cc 1 none :: bx_tbl) B.pre
  have hown : s.vm.findClass y.cls = some m.cls := findClass_of_methodNamed B.named
  have hin : meth.name = "<init>" := (name_of_methodNamed B.named B.method).1.trans hy1
  subst hsz
  have hent := lv_entry ([.ref b] : List Value) (n := 1) (Nat.le_of_ble_eq_true rfl)
  rw [lg_entry_eq]
  exact body p e s m _ below meth c (va_A [(b, bl)] s.heap.size) ⟨B.exec, B.bytes, hml, hown, fun w hw => hts w (List.mem_cons_of_mem _ hw), hK, fun q h => Or.inr h, B.returns, B.notSynchronized⟩ hin s.heap [] _ hP (hD0.self (sz := s.heap.size)) va_S.rf hent
def bx_pw (q : Nat → Nat) (cI : ClassId) (σ : bx_St) : va_W := [(q 2, .inr (2, [.ref (q 3), .int (σ.1 2 1), .ref (q 4), .int (σ.1 2 3), .int (σ.1 2 4), .int (σ.1 2 5), .int (σ.1 2 6)])), (q 3, .inl (cI, 60, .inl (σ.1 3))), (q 4, .inl (cI, 24, .inl (σ.1 4)))]
theorem po2 (q : Nat → Nat) (cI : ClassId) (σ : bx_St) : bx_HasO (bx_pw q cI σ) (q 2) 2 := ⟨0, _, rfl⟩
theorem pf2_1 (q : Nat → Nat) (cI : ClassId) (σ : bx_St) : bx_HasF (bx_pw q cI σ) (q 2) 2 1 (.int (σ.1 2 1)) := ⟨0, _, rfl, rfl⟩
theorem pp2_1 (q : Nat → Nat) (cI : ClassId) (σ : bx_St) (v : Int32) : bx_PutF (bx_pw q cI σ) (q 2) 2 1 (.int v) (bx_pw q cI (bx_up σ 2 1 v)) := ⟨0, _, rfl, Nat.le_of_ble_eq_true rfl, rfl⟩
theorem pf2_3 (q : Nat → Nat) (cI : ClassId) (σ : bx_St) : bx_HasF (bx_pw q cI σ) (q 2) 2 3 (.int (σ.1 2 3)) := ⟨0, _, rfl, rfl⟩
theorem pp2_3 (q : Nat → Nat) (cI : ClassId) (σ : bx_St) (v : Int32) : bx_PutF (bx_pw q cI σ) (q 2) 2 3 (.int v) (bx_pw q cI (bx_up σ 2 3 v)) := ⟨0, _, rfl, Nat.le_of_ble_eq_true rfl, rfl⟩
theorem pf2_4 (q : Nat → Nat) (cI : ClassId) (σ : bx_St) : bx_HasF (bx_pw q cI σ) (q 2) 2 4 (.int (σ.1 2 4)) := ⟨0, _, rfl, rfl⟩
theorem pp2_4 (q : Nat → Nat) (cI : ClassId) (σ : bx_St) (v : Int32) : bx_PutF (bx_pw q cI σ) (q 2) 2 4 (.int v) (bx_pw q cI (bx_up σ 2 4 v)) := ⟨0, _, rfl, Nat.le_of_ble_eq_true rfl, rfl⟩
theorem pf2_5 (q : Nat → Nat) (cI : ClassId) (σ : bx_St) : bx_HasF (bx_pw q cI σ) (q 2) 2 5 (.int (σ.1 2 5)) := ⟨0, _, rfl, rfl⟩
theorem pp2_5 (q : Nat → Nat) (cI : ClassId) (σ : bx_St) (v : Int32) : bx_PutF (bx_pw q cI σ) (q 2) 2 5 (.int v) (bx_pw q cI (bx_up σ 2 5 v)) := ⟨0, _, rfl, Nat.le_of_ble_eq_true rfl, rfl⟩
theorem pf2_6 (q : Nat → Nat) (cI : ClassId) (σ : bx_St) : bx_HasF (bx_pw q cI σ) (q 2) 2 6 (.int (σ.1 2 6)) := ⟨0, _, rfl, rfl⟩
theorem pp2_6 (q : Nat → Nat) (cI : ClassId) (σ : bx_St) (v : Int32) : bx_PutF (bx_pw q cI σ) (q 2) 2 6 (.int v) (bx_pw q cI (bx_up σ 2 6 v)) := ⟨0, _, rfl, Nat.le_of_ble_eq_true rfl, rfl⟩
set_option maxRecDepth 8000 in
set_option maxHeartbeats 4000000 in
theorem kpX2_beginNumber {l : Launch} {D : va_G} {cI cZ : ClassId} {q : Nat → Nat} {σ : bx_St} {u : bx_St} (hm : mX2_beginNumber σ = u) : bx_Mt l D cI cZ yX2_beginNumber cX2_beginNumber 1 none 1 [.ref (q 2)] (bx_pw q cI σ) none (bx_pw q cI u) := by
  refine bx_mk (by decide) (Nat.le_of_ble_eq_true rfl) (lv := [(0, .ref (q 2))]) rfl (fun p e s m args below meth c A C => ?_)
  replace C : bx_Cx p s m args meth c 1 A D cI cZ RX2 cX2_beginNumber none := C
  unfold mX2_beginNumber at hm
  refine go_aload_n C dX2_beginNumber_0 rfl 0 rfl (n := 1) rfl ?_
  refine go_iconst C dX2_beginNumber_1 (v := (0 : Int32)) (by decide) (n := 2) rfl ?_
  refine go_put C dX2_beginNumber_2 (pp2_4 q cI σ (0 : Int32)) rfl inX2 tyX2_ok nmX2 (by decide) fl_X2_33 rfl (ty := .int) (by decide +kernel) (by rfl) (by rfl) (n := 5) rfl ?_
  refine go_aload_n C dX2_beginNumber_5 rfl 0 rfl (n := 6) rfl ?_
  refine go_iconst C dX2_beginNumber_6 (v := (0 : Int32)) (by decide) (n := 7) rfl ?_
  obtain ⟨σ1, z2, hm⟩ := bx_lt hm
  refine go_put C dX2_beginNumber_7 (ws' := (bx_pw q cI σ1)) (by rw [z2]; exact (pp2_5 q cI (bx_up σ 2 4 (0 : Int32)) (0 : Int32))) rfl inX2 tyX2_ok nmX2 (by decide) fl_X2_45 rfl (ty := .int) (by decide +kernel) (by rfl) (by rfl) (n := 10) rfl ?_
  refine go_aload_n C dX2_beginNumber_10 rfl 0 rfl (n := 11) rfl ?_
  refine go_iconst C dX2_beginNumber_11 (v := (0 : Int32)) (by decide) (n := 12) rfl ?_
  refine go_put C dX2_beginNumber_12 (pp2_6 q cI σ1 (0 : Int32)) rfl inX2 tyX2_ok nmX2 (by decide) fl_X2_48 rfl (ty := .boolean) (by decide +kernel) (by rfl) (by rfl) (n := 15) rfl ?_
  subst hm
  exact go_vret C dX2_beginNumber_15
set_option maxRecDepth 8000 in
set_option maxHeartbeats 4000000 in
theorem kpX2_beginReading {l : Launch} {D : va_G} {cI cZ : ClassId} {q : Nat → Nat} {σ : bx_St} {u : bx_St} (hm : mX2_beginReading σ = u) : bx_Mt l D cI cZ yX2_beginReading cX2_beginReading 1 none 2 [.ref (q 2)] (bx_pw q cI σ) none (bx_pw q cI u) := by
  refine bx_mk (by decide) (Nat.le_of_ble_eq_true rfl) (lv := [(0, .ref (q 2))]) rfl (fun p e s m args below meth c A C => ?_)
  replace C : bx_Cx p s m args meth c 1 A D cI cZ RX2 cX2_beginReading none := C
  unfold mX2_beginReading at hm
  refine go_aload_n C dX2_beginReading_0 rfl 0 rfl (n := 1) rfl ?_
  refine go_iconst C dX2_beginReading_1 (v := (0 : Int32)) (by decide) (n := 2) rfl ?_
  refine go_put C dX2_beginReading_2 (pp2_3 q cI σ (0 : Int32)) rfl inX2 tyX2_ok nmX2 (by decide) fl_X2_39 rfl (ty := .int) (by decide +kernel) (by rfl) (by rfl) (n := 5) rfl ?_
  refine go_aload_n C dX2_beginReading_5 rfl 0 rfl (n := 6) rfl ?_
  refine go_callVv C dX2_beginReading_6 mw_X2_beginNumber ml_X2_42 (rest := []) (kpX2_beginNumber rfl) (po2 q cI (bx_up σ 2 3 (0 : Int32))) rfl (by decide) rfl rfl (Nat.le_of_ble_eq_true rfl) (n := 9) rfl ?_
  subst hm
  exact go_vret C dX2_beginReading_9
theorem gc_perm {p : Program} {l : Launch} {e : Env} {R : Room} {s : State} {m : MethodId} {args : Array Value} {below : List Frame} {meth : Method} {c : Code} {nL : Nat} {A : Nat → Prop} {D : va_G} {Q : State → Prop} {cells slots : Nat} {ws ws' : va_W} {pc : Nat} {lv : List (Nat × Value)} {st : List Value} (is : List Nat) (hn : va_nd is = true) (h : is.filterMap (fun i => ws[i]?) = ws') (h2 : is.map (fun i => ws[i]?) = ws'.map some) (k : bx_Gc p l e R s m args below meth c nL A D Q cells slots ws' pc lv st) : bx_Gc p l e R s m args below meth c nL A D Q cells slots ws pc lv st := fun H locs ls hP hD hS hl => k H locs ls (hP.sub is h) (hD.sub is hn h2) hS hl
theorem gc_callP {p : Program} {l : Launch} {e : Env} {s : State} {m : MethodId} {args : Array Value} {below : List Frame} {meth : Method} {c : Code} {A : Nat → Prop} {D : va_G} {Q : State → Prop} {σ σ' : bx_St} {q : Nat → Nat} {pc n : Nat} {lv : List (Nat × Value)} {cI cZ : ClassId} (C : bx_Cx p s m args meth c 1 A D cI cZ RX2 cX2_init none) (dc : decode cX2_init pc = .ok (.invokevirtual 22, 3)) (hM : bx_Mt l D cI cZ yX2_beginReading cX2_beginReading 1 none 2 [.ref (q 2)] (bx_pw q cI σ) none (bx_pw q cI σ')) (hn : pc + 3 = n)
    (k : bx_Gc p l e (bx_rc 3 2 84) s m args below meth c 1 A D Q 2 84 (bx_pw q cI σ') n lv []) : bx_Gc p l e (bx_rc 3 2 84) s m args below meth c 1 A D Q 2 84 (bx_pw q cI σ) pc lv [.ref (q 2)] := fun H locs ls hP hD hS hlv => by
  subst hn
  obtain ⟨hx, hb, hml, hown, hts, hK, hA, -, -⟩ := C
  obtain ⟨m1, m2, m3, m4, m5, m6⟩ := mw_X2_beginReading
  have hF := bx_inA hD hS hA
  refine bx_callg (va_runV (As := []) (rest := []) (C := yX2_beginReading.cls) (nL := 1) ⟨hx, hb, hml, hown, hts⟩ (hM H.size) ⟨callB_of 0 hts (bx_gi _ _ _ _ m1) rfl rfl rfl (hts _ m4) (hts _ ml_X2_22) m5 ⟨by decide, by decide⟩, hts _ m2, hts _ m3⟩ ⟨bx_blind, va_recv hK.1 hP (ci := 2) (q := (RX2, TX2, 7)) (q0 := 0) rfl rfl, fun U hU hW2 => ⟨rfl, by rw [hU], by rw [hU]; exact hP, ⟨va_K.moved hW2.alike hK.1, hK.2.warm hW2⟩, hD.weaken (fun _ _ _ _ => trivial)⟩⟩ rfl rfl hlv.1 rfl (lv_room (Nat.le_of_ble_eq_true rfl)) dc ⟨Nat.le_of_ble_eq_true rfl, Nat.le_of_ble_eq_true rfl⟩) hS (fun q _ h => hF q h) hF (fun H1 locs1 hP1 hD1 hz hk hS1 => ?_)
  exact k H1 locs1 ls hP1 (hD1.weaken (fun k q _ h => hF q.1 h)) hS1 hlv
set_option maxRecDepth 20000 in
set_option maxHeartbeats 8000000 in
theorem kcX0_init {l : Launch} {D : va_G} {cI cZ : ClassId} {b : Nat} : bx_Ct l D cI cZ yX0_init cX0_init 1 2 69 b (.inr (0, [.null, .null, .int 0, .int 0, .int 0, .int 0, .int 0, .int 0, .int 0, .int 0, .int 0])) (fun q => [(b, .inr (0, [.ref (q 6), .ref (q 7), .int 0, .int 0, .int 0, .int 0, .int 0, .int 0, .int 0, .int 0, .int 0])), (q 6, .inl (cI, 66, .inl (fun _ => 0))), (q 7, .inl (cI, 3, .inl (fun _ => 0)))]) := by
  refine bx_mkc (by decide) rfl (fun p e s m args below meth c A C hin => ?_)
  replace C : bx_Cx p s m args meth c 1 A D cI cZ RX0 cX0_init none := C
  refine gc_aload_n C dX0_init_0 rfl 0 rfl (n := 1) rfl ?_
  refine gc_obj C dX0_init_1 kw_ob_X0 (by decide) (Nat.le_of_ble_eq_true rfl) (by decide) (n := 4) rfl ?_
  refine gc_aload_n C dX0_init_4 rfl 0 rfl (n := 5) rfl ?_
  refine gc_bipush C dX0_init_5 (v := (66 : Int32)) (by decide) (n := 7) rfl ?_
  refine gc_newI C dX0_init_7 (N := 66) (by decide) (by decide) (Nat.le_of_ble_eq_true rfl) (Nat.le_of_ble_eq_true rfl) (Nat.le_of_ble_eq_true rfl) (n := 9) rfl (fun a1 => ?_)
  refine gc_ws (ws' := [(b, .inr (0, [.null, .null, .int 0, .int 0, .int 0, .int 0, .int 0, .int 0, .int 0, .int 0, .int 0])), (a1, .inl (cI, 66, .inl (fun _ => 0)))]) rfl ?_
  refine gc_num (c2 := 1) (s2 := 66) rfl rfl ?_
  refine gc_putF C dX0_init_9 (v := .ref a1) (ws' := [(b, .inr (0, [.ref a1, .null, .int 0, .int 0, .int 0, .int 0, .int 0, .int 0, .int 0, .int 0, .int 0])), (a1, .inl (cI, 66, .inl (fun _ => 0)))]) ⟨0, _, rfl, Nat.le_of_ble_eq_true rfl, rfl⟩ rfl inX0 tyX0_ok nmX0 (by decide) fl_X0_11 rfl hin rfl (ty := .array .int) (by decide +kernel) rfl rfl (n := 12) rfl ?_
  refine gc_aload_n C dX0_init_12 rfl 0 rfl (n := 13) rfl ?_
  refine gc_iconst C dX0_init_13 (v := (3 : Int32)) (by decide) (n := 14) rfl ?_
  refine gc_newI C dX0_init_14 (N := 3) (by decide) (by decide) (Nat.le_of_ble_eq_true rfl) (Nat.le_of_ble_eq_true rfl) (Nat.le_of_ble_eq_true rfl) (n := 16) rfl (fun a2 => ?_)
  refine gc_ws (ws' := [(b, .inr (0, [.ref a1, .null, .int 0, .int 0, .int 0, .int 0, .int 0, .int 0, .int 0, .int 0, .int 0])), (a1, .inl (cI, 66, .inl (fun _ => 0))), (a2, .inl (cI, 3, .inl (fun _ => 0)))]) rfl ?_
  refine gc_num (c2 := 2) (s2 := 69) rfl rfl ?_
  refine gc_putF C dX0_init_16 (v := .ref a2) (ws' := [(b, .inr (0, [.ref a1, .ref a2, .int 0, .int 0, .int 0, .int 0, .int 0, .int 0, .int 0, .int 0, .int 0])), (a1, .inl (cI, 66, .inl (fun _ => 0))), (a2, .inl (cI, 3, .inl (fun _ => 0)))]) ⟨0, _, rfl, Nat.le_of_ble_eq_true rfl, rfl⟩ rfl inX0 tyX0_ok nmX0 (by decide) fl_X0_15 rfl hin rfl (ty := .array .int) (by decide +kernel) rfl rfl (n := 19) rfl ?_
  exact gc_vret C (F := (fun q => [(b, .inr (0, [.ref (q 6), .ref (q 7), .int 0, .int 0, .int 0, .int 0, .int 0, .int 0, .int 0, .int 0, .int 0])), (q 6, .inl (cI, 66, .inl (fun _ => 0))), (q 7, .inl (cI, 3, .inl (fun _ => 0)))])) (fun k => if k = 6 then a1 else a2) rfl dX0_init_19
set_option maxRecDepth 20000 in
set_option maxHeartbeats 8000000 in
theorem kcX1_init {l : Launch} {D : va_G} {cI cZ : ClassId} {b : Nat} : bx_Ct l D cI cZ yX1_init cX1_init 1 4 60 b (.inr (1, [.null, .null, .null, .null, .int 0, .int 0])) (fun q => [(b, .inr (1, [.ref (q 1), .ref (q 2), .ref (q 3), .ref (q 4), .int 0, .int 0])), (q 1, .inl (cI, 12, .inl (fun _ => 0))), (q 2, .inl (cI, 12, .inl (fun _ => 0))), (q 3, .inl (cI, 24, .inl (fun _ => 0))), (q 4, .inl (cI, 12, .inl (fun _ => 0)))]) := by
  refine bx_mkc (by decide) rfl (fun p e s m args below meth c A C hin => ?_)
  replace C : bx_Cx p s m args meth c 1 A D cI cZ RX1 cX1_init none := C
  refine gc_aload_n C dX1_init_0 rfl 0 rfl (n := 1) rfl ?_
  refine gc_obj C dX1_init_1 kw_ob_X1 (by decide) (Nat.le_of_ble_eq_true rfl) (by decide) (n := 4) rfl ?_
  refine gc_aload_n C dX1_init_4 rfl 0 rfl (n := 5) rfl ?_
  refine gc_bipush C dX1_init_5 (v := (12 : Int32)) (by decide) (n := 7) rfl ?_
  refine gc_newI C dX1_init_7 (N := 12) (by decide) (by decide) (Nat.le_of_ble_eq_true rfl) (Nat.le_of_ble_eq_true rfl) (Nat.le_of_ble_eq_true rfl) (n := 9) rfl (fun a1 => ?_)
  refine gc_ws (ws' := [(b, .inr (1, [.null, .null, .null, .null, .int 0, .int 0])), (a1, .inl (cI, 12, .inl (fun _ => 0)))]) rfl ?_
  refine gc_num (c2 := 1) (s2 := 12) rfl rfl ?_
  refine gc_putF C dX1_init_9 (v := .ref a1) (ws' := [(b, .inr (1, [.ref a1, .null, .null, .null, .int 0, .int 0])), (a1, .inl (cI, 12, .inl (fun _ => 0)))]) ⟨0, _, rfl, Nat.le_of_ble_eq_true rfl, rfl⟩ rfl inX1 tyX1_ok nmX1 (by decide) fl_X1_9 rfl hin rfl (ty := .array .int) (by decide +kernel) rfl rfl (n := 12) rfl ?_
  refine gc_aload_n C dX1_init_12 rfl 0 rfl (n := 13) rfl ?_
  refine gc_bipush C dX1_init_13 (v := (12 : Int32)) (by decide) (n := 15) rfl ?_
  refine gc_newI C dX1_init_15 (N := 12) (by decide) (by decide) (Nat.le_of_ble_eq_true rfl) (Nat.le_of_ble_eq_true rfl) (Nat.le_of_ble_eq_true rfl) (n := 17) rfl (fun a2 => ?_)
  refine gc_ws (ws' := [(b, .inr (1, [.ref a1, .null, .null, .null, .int 0, .int 0])), (a1, .inl (cI, 12, .inl (fun _ => 0))), (a2, .inl (cI, 12, .inl (fun _ => 0)))]) rfl ?_
  refine gc_num (c2 := 2) (s2 := 24) rfl rfl ?_
  refine gc_putF C dX1_init_17 (v := .ref a2) (ws' := [(b, .inr (1, [.ref a1, .ref a2, .null, .null, .int 0, .int 0])), (a1, .inl (cI, 12, .inl (fun _ => 0))), (a2, .inl (cI, 12, .inl (fun _ => 0)))]) ⟨0, _, rfl, Nat.le_of_ble_eq_true rfl, rfl⟩ rfl inX1 tyX1_ok nmX1 (by decide) fl_X1_15 rfl hin rfl (ty := .array .int) (by decide +kernel) rfl rfl (n := 20) rfl ?_
  refine gc_aload_n C dX1_init_20 rfl 0 rfl (n := 21) rfl ?_
  refine gc_bipush C dX1_init_21 (v := (24 : Int32)) (by decide) (n := 23) rfl ?_
  refine gc_newI C dX1_init_23 (N := 24) (by decide) (by decide) (Nat.le_of_ble_eq_true rfl) (Nat.le_of_ble_eq_true rfl) (Nat.le_of_ble_eq_true rfl) (n := 25) rfl (fun a3 => ?_)
  refine gc_ws (ws' := [(b, .inr (1, [.ref a1, .ref a2, .null, .null, .int 0, .int 0])), (a1, .inl (cI, 12, .inl (fun _ => 0))), (a2, .inl (cI, 12, .inl (fun _ => 0))), (a3, .inl (cI, 24, .inl (fun _ => 0)))]) rfl ?_
  refine gc_num (c2 := 3) (s2 := 48) rfl rfl ?_
  refine gc_putF C dX1_init_25 (v := .ref a3) (ws' := [(b, .inr (1, [.ref a1, .ref a2, .ref a3, .null, .int 0, .int 0])), (a1, .inl (cI, 12, .inl (fun _ => 0))), (a2, .inl (cI, 12, .inl (fun _ => 0))), (a3, .inl (cI, 24, .inl (fun _ => 0)))]) ⟨0, _, rfl, Nat.le_of_ble_eq_true rfl, rfl⟩ rfl inX1 tyX1_ok nmX1 (by decide) fl_X1_18 rfl hin rfl (ty := .array .int) (by decide +kernel) rfl rfl (n := 28) rfl ?_
  refine gc_aload_n C dX1_init_28 rfl 0 rfl (n := 29) rfl ?_
  refine gc_bipush C dX1_init_29 (v := (12 : Int32)) (by decide) (n := 31) rfl ?_
  refine gc_newI C dX1_init_31 (N := 12) (by decide) (by decide) (Nat.le_of_ble_eq_true rfl) (Nat.le_of_ble_eq_true rfl) (Nat.le_of_ble_eq_true rfl) (n := 33) rfl (fun a4 => ?_)
  refine gc_ws (ws' := [(b, .inr (1, [.ref a1, .ref a2, .ref a3, .null, .int 0, .int 0])), (a1, .inl (cI, 12, .inl (fun _ => 0))), (a2, .inl (cI, 12, .inl (fun _ => 0))), (a3, .inl (cI, 24, .inl (fun _ => 0))), (a4, .inl (cI, 12, .inl (fun _ => 0)))]) rfl ?_
  refine gc_num (c2 := 4) (s2 := 60) rfl rfl ?_
  refine gc_putF C dX1_init_33 (v := .ref a4) (ws' := [(b, .inr (1, [.ref a1, .ref a2, .ref a3, .ref a4, .int 0, .int 0])), (a1, .inl (cI, 12, .inl (fun _ => 0))), (a2, .inl (cI, 12, .inl (fun _ => 0))), (a3, .inl (cI, 24, .inl (fun _ => 0))), (a4, .inl (cI, 12, .inl (fun _ => 0)))]) ⟨0, _, rfl, Nat.le_of_ble_eq_true rfl, rfl⟩ rfl inX1 tyX1_ok nmX1 (by decide) fl_X1_21 rfl hin rfl (ty := .array .int) (by decide +kernel) rfl rfl (n := 36) rfl ?_
  refine gc_aload_n C dX1_init_36 rfl 0 rfl (n := 37) rfl ?_
  refine gc_iconst C dX1_init_37 (v := (0 : Int32)) (by decide) (n := 38) rfl ?_
  refine gc_put C dX1_init_38 (v := .int 0) (ws' := [(b, .inr (1, [.ref a1, .ref a2, .ref a3, .ref a4, .int 0, .int 0])), (a1, .inl (cI, 12, .inl (fun _ => 0))), (a2, .inl (cI, 12, .inl (fun _ => 0))), (a3, .inl (cI, 24, .inl (fun _ => 0))), (a4, .inl (cI, 12, .inl (fun _ => 0)))]) ⟨0, _, rfl, Nat.le_of_ble_eq_true rfl, rfl⟩ rfl inX1 tyX1_ok nmX1 (by decide) fl_X1_24 rfl (ty := .int) (by decide +kernel) rfl rfl (n := 41) rfl ?_
  refine gc_aload_n C dX1_init_41 rfl 0 rfl (n := 42) rfl ?_
  refine gc_iconst C dX1_init_42 (v := (0 : Int32)) (by decide) (n := 43) rfl ?_
  refine gc_put C dX1_init_43 (v := .int 0) (ws' := [(b, .inr (1, [.ref a1, .ref a2, .ref a3, .ref a4, .int 0, .int 0])), (a1, .inl (cI, 12, .inl (fun _ => 0))), (a2, .inl (cI, 12, .inl (fun _ => 0))), (a3, .inl (cI, 24, .inl (fun _ => 0))), (a4, .inl (cI, 12, .inl (fun _ => 0)))]) ⟨0, _, rfl, Nat.le_of_ble_eq_true rfl, rfl⟩ rfl inX1 tyX1_ok nmX1 (by decide) fl_X1_28 rfl (ty := .boolean) (by decide +kernel) rfl rfl (n := 46) rfl ?_
  exact gc_vret C (F := (fun q => [(b, .inr (1, [.ref (q 1), .ref (q 2), .ref (q 3), .ref (q 4), .int 0, .int 0])), (q 1, .inl (cI, 12, .inl (fun _ => 0))), (q 2, .inl (cI, 12, .inl (fun _ => 0))), (q 3, .inl (cI, 24, .inl (fun _ => 0))), (q 4, .inl (cI, 12, .inl (fun _ => 0)))])) (fun k => if k = 1 then a1 else if k = 2 then a2 else if k = 3 then a3 else a4) rfl dX1_init_46
set_option maxRecDepth 20000 in
set_option maxHeartbeats 8000000 in
theorem kcX2_init {l : Launch} {D : va_G} {cI cZ : ClassId} {b : Nat} : bx_Ct l D cI cZ yX2_init cX2_init 3 2 84 b (.inr (2, [.null, .int 0, .null, .int 0, .int 0, .int 0, .int 0])) (fun q => [(b, .inr (2, [.ref (q 3), .int 0, .ref (q 4), .int 0, .int 0, .int 0, .int 0])), (q 3, .inl (cI, 60, .inl (fun _ => 0))), (q 4, .inl (cI, 24, .inl (fun _ => 0)))]) := by
  refine bx_mkc (by decide) rfl (fun p e s m args below meth c A C hin => ?_)
  replace C : bx_Cx p s m args meth c 1 A D cI cZ RX2 cX2_init none := C
  refine gc_aload_n C dX2_init_0 rfl 0 rfl (n := 1) rfl ?_
  refine gc_obj C dX2_init_1 kw_ob_X2 (by decide) (Nat.le_of_ble_eq_true rfl) (by decide) (n := 4) rfl ?_
  refine gc_aload_n C dX2_init_4 rfl 0 rfl (n := 5) rfl ?_
  refine gc_bipush C dX2_init_5 (v := (60 : Int32)) (by decide) (n := 7) rfl ?_
  refine gc_newI C dX2_init_7 (N := 60) (by decide) (by decide) (Nat.le_of_ble_eq_true rfl) (Nat.le_of_ble_eq_true rfl) (Nat.le_of_ble_eq_true rfl) (n := 9) rfl (fun a1 => ?_)
  refine gc_ws (ws' := [(b, .inr (2, [.null, .int 0, .null, .int 0, .int 0, .int 0, .int 0])), (a1, .inl (cI, 60, .inl (fun _ => 0)))]) rfl ?_
  refine gc_num (c2 := 1) (s2 := 60) rfl rfl ?_
  refine gc_putF C dX2_init_9 (v := .ref a1) (ws' := [(b, .inr (2, [.ref a1, .int 0, .null, .int 0, .int 0, .int 0, .int 0])), (a1, .inl (cI, 60, .inl (fun _ => 0)))]) ⟨0, _, rfl, Nat.le_of_ble_eq_true rfl, rfl⟩ rfl inX2 tyX2_ok nmX2 (by decide) fl_X2_11 rfl hin rfl (ty := .array .int) (by decide +kernel) rfl rfl (n := 12) rfl ?_
  refine gc_aload_n C dX2_init_12 rfl 0 rfl (n := 13) rfl ?_
  refine gc_bipush C dX2_init_13 (v := (24 : Int32)) (by decide) (n := 15) rfl ?_
  refine gc_newI C dX2_init_15 (N := 24) (by decide) (by decide) (Nat.le_of_ble_eq_true rfl) (Nat.le_of_ble_eq_true rfl) (Nat.le_of_ble_eq_true rfl) (n := 17) rfl (fun a2 => ?_)
  refine gc_ws (ws' := [(b, .inr (2, [.ref a1, .int 0, .null, .int 0, .int 0, .int 0, .int 0])), (a1, .inl (cI, 60, .inl (fun _ => 0))), (a2, .inl (cI, 24, .inl (fun _ => 0)))]) rfl ?_
  refine gc_num (c2 := 2) (s2 := 84) rfl rfl ?_
  refine gc_putF C dX2_init_17 (v := .ref a2) (ws' := [(b, .inr (2, [.ref a1, .int 0, .ref a2, .int 0, .int 0, .int 0, .int 0])), (a1, .inl (cI, 60, .inl (fun _ => 0))), (a2, .inl (cI, 24, .inl (fun _ => 0)))]) ⟨0, _, rfl, Nat.le_of_ble_eq_true rfl, rfl⟩ rfl inX2 tyX2_ok nmX2 (by decide) fl_X2_15 rfl hin rfl (ty := .array .int) (by decide +kernel) rfl rfl (n := 20) rfl ?_
  refine gc_aload_n C dX2_init_20 rfl 0 rfl (n := 21) rfl ?_
  refine gc_iconst C dX2_init_21 (v := (0 : Int32)) (by decide) (n := 22) rfl ?_
  refine gc_put C dX2_init_22 (v := .int 0) (ws' := [(b, .inr (2, [.ref a1, .int 0, .ref a2, .int 0, .int 0, .int 0, .int 0])), (a1, .inl (cI, 60, .inl (fun _ => 0))), (a2, .inl (cI, 24, .inl (fun _ => 0)))]) ⟨0, _, rfl, Nat.le_of_ble_eq_true rfl, rfl⟩ rfl inX2 tyX2_ok nmX2 (by decide) fl_X2_18 rfl (ty := .int) (by decide +kernel) rfl rfl (n := 25) rfl ?_
  refine gc_aload_n C dX2_init_25 rfl 0 rfl (n := 26) rfl ?_
  let q : Nat → Nat := fun k => if k = 2 then b else if k = 3 then a1 else a2
  refine gc_ws (ws' := bx_pw q cI (fun _ _ => 0, 0)) rfl ?_
  refine gc_callP C dX2_init_26 (kpX2_beginReading (q := q) (σ := (fun _ _ => 0, 0)) rfl) (n := 29) rfl ?_
  refine gc_ws (ws' := [(b, .inr (2, [.ref a1, .int 0, .ref a2, .int 0, .int 0, .int 0, .int 0])), (a1, .inl (cI, 60, .inl (fun _ => 0))), (a2, .inl (cI, 24, .inl (fun _ => 0)))]) rfl ?_
  exact gc_vret C (F := (fun q => [(b, .inr (2, [.ref (q 3), .int 0, .ref (q 4), .int 0, .int 0, .int 0, .int 0])), (q 3, .inl (cI, 60, .inl (fun _ => 0))), (q 4, .inl (cI, 24, .inl (fun _ => 0)))])) (fun k => if k = 3 then a1 else a2) rfl dX2_init_29
set_option maxRecDepth 20000 in
set_option maxHeartbeats 8000000 in
theorem kcX3_init {l : Launch} {D : va_G} {cI cZ : ClassId} {b : Nat} : bx_Ct l D cI cZ yX3_init cX3_init 5 22 381 b (.inr (3, [.null, .null, .null, .null, .null, .null, .int 0, .int 0])) (fun q => bx_xw (fun k => if k = 0 then b else q k) cI (fun _ _ => 0, 0)) := by
  refine bx_mkc (by decide) rfl (fun p e s m args below meth c A C hin => ?_)
  replace C : bx_Cx p s m args meth c 1 A D cI cZ RX3 cX3_init none := C
  refine gc_aload_n C dX3_init_0 rfl 0 rfl (n := 1) rfl ?_
  refine gc_obj C dX3_init_1 kw_ob_X3 (by decide) (Nat.le_of_ble_eq_true rfl) (by decide) (n := 4) rfl ?_
  refine gc_aload_n C dX3_init_4 rfl 0 rfl (n := 5) rfl ?_
  refine gc_new C dX3_init_5 (ci := 2) (fs := [.null, .int 0, .null, .int 0, .int 0, .int 0, .int 0]) rfl inX2 tyX2_ok kw_cl_X2 kw_in_X2 ini_X2 (by decide) (Nat.le_of_ble_eq_true rfl) (Nat.le_of_ble_eq_true rfl) (n := 8) rfl (fun o1 => ?_)
  refine gc_num (c2 := 1) (s2 := 7) rfl rfl ?_
  refine gc_dup C dX3_init_8 rfl (n := 9) rfl ?_
  refine gc_ws (ws' := [(b, .inr (3, [.null, .null, .null, .null, .null, .null, .int 0, .int 0]))] ++ [(o1, .inr (2, [.null, .int 0, .null, .int 0, .int 0, .int 0, .int 0]))]) rfl ?_
  refine gc_init C dX3_init_9 (kcX2_init (b := o1)) ml_X3_9 iw_X2_init cw_X2_init ini_X2 rfl ⟨by decide, by decide, by decide +kernel⟩ (by decide) (by decide) (Nat.le_of_ble_eq_true rfl) (Nat.le_of_ble_eq_true rfl) (Nat.le_of_ble_eq_true rfl) (n := 12) rfl (fun g1 => ?_)
  refine gc_ws (ws' := [(b, .inr (3, [.null, .null, .null, .null, .null, .null, .int 0, .int 0])), (o1, .inr (2, [.ref (g1 3), .int 0, .ref (g1 4), .int 0, .int 0, .int 0, .int 0])), (g1 3, .inl (cI, 60, .inl (fun _ => 0))), (g1 4, .inl (cI, 24, .inl (fun _ => 0)))]) rfl ?_
  refine gc_num (c2 := 3) (s2 := 91) rfl rfl ?_
  refine gc_putF C dX3_init_12 (v := .ref o1) (ws' := [(b, .inr (3, [.ref o1, .null, .null, .null, .null, .null, .int 0, .int 0])), (o1, .inr (2, [.ref (g1 3), .int 0, .ref (g1 4), .int 0, .int 0, .int 0, .int 0])), (g1 3, .inl (cI, 60, .inl (fun _ => 0))), (g1 4, .inl (cI, 24, .inl (fun _ => 0)))]) ⟨0, _, rfl, Nat.le_of_ble_eq_true rfl, rfl⟩ rfl inX3 tyX3_ok nmX3 (by decide) fl_X3_10 rfl hin rfl (ty := .object "BoxFlickers$Page") (by decide +kernel) rfl rfl (n := 15) rfl ?_
  refine gc_aload_n C dX3_init_15 rfl 0 rfl (n := 16) rfl ?_
  refine gc_new C dX3_init_16 (ci := 1) (fs := [.null, .null, .null, .null, .int 0, .int 0]) rfl inX1 tyX1_ok kw_cl_X1 kw_in_X1 ini_X1 (by decide) (Nat.le_of_ble_eq_true rfl) (Nat.le_of_ble_eq_true rfl) (n := 19) rfl (fun o2 => ?_)
  refine gc_num (c2 := 4) (s2 := 97) rfl rfl ?_
  refine gc_dup C dX3_init_19 rfl (n := 20) rfl ?_
  refine gc_ws (ws' := [(b, .inr (3, [.ref o1, .null, .null, .null, .null, .null, .int 0, .int 0])), (o1, .inr (2, [.ref (g1 3), .int 0, .ref (g1 4), .int 0, .int 0, .int 0, .int 0])), (g1 3, .inl (cI, 60, .inl (fun _ => 0))), (g1 4, .inl (cI, 24, .inl (fun _ => 0)))] ++ [(o2, .inr (1, [.null, .null, .null, .null, .int 0, .int 0]))]) rfl ?_
  refine gc_init C dX3_init_20 (kcX1_init (b := o2)) ml_X3_18 iw_X1_init cw_X1_init ini_X1 rfl ⟨by decide, by decide, by decide +kernel⟩ (by decide) (by decide) (Nat.le_of_ble_eq_true rfl) (Nat.le_of_ble_eq_true rfl) (Nat.le_of_ble_eq_true rfl) (n := 23) rfl (fun g2 => ?_)
  refine gc_ws (ws' := [(b, .inr (3, [.ref o1, .null, .null, .null, .null, .null, .int 0, .int 0])), (o1, .inr (2, [.ref (g1 3), .int 0, .ref (g1 4), .int 0, .int 0, .int 0, .int 0])), (g1 3, .inl (cI, 60, .inl (fun _ => 0))), (g1 4, .inl (cI, 24, .inl (fun _ => 0))), (o2, .inr (1, [.ref (g2 1), .ref (g2 2), .ref (g2 3), .ref (g2 4), .int 0, .int 0])), (g2 1, .inl (cI, 12, .inl (fun _ => 0))), (g2 2, .inl (cI, 12, .inl (fun _ => 0))), (g2 3, .inl (cI, 24, .inl (fun _ => 0))), (g2 4, .inl (cI, 12, .inl (fun _ => 0)))]) rfl ?_
  refine gc_num (c2 := 8) (s2 := 157) rfl rfl ?_
  refine gc_putF C dX3_init_23 (v := .ref o2) (ws' := [(b, .inr (3, [.ref o1, .ref o2, .null, .null, .null, .null, .int 0, .int 0])), (o1, .inr (2, [.ref (g1 3), .int 0, .ref (g1 4), .int 0, .int 0, .int 0, .int 0])), (g1 3, .inl (cI, 60, .inl (fun _ => 0))), (g1 4, .inl (cI, 24, .inl (fun _ => 0))), (o2, .inr (1, [.ref (g2 1), .ref (g2 2), .ref (g2 3), .ref (g2 4), .int 0, .int 0])), (g2 1, .inl (cI, 12, .inl (fun _ => 0))), (g2 2, .inl (cI, 12, .inl (fun _ => 0))), (g2 3, .inl (cI, 24, .inl (fun _ => 0))), (g2 4, .inl (cI, 12, .inl (fun _ => 0)))]) ⟨0, _, rfl, Nat.le_of_ble_eq_true rfl, rfl⟩ rfl inX3 tyX3_ok nmX3 (by decide) fl_X3_19 rfl hin rfl (ty := .object "BoxFlickers$Line") (by decide +kernel) rfl rfl (n := 26) rfl ?_
  refine gc_aload_n C dX3_init_26 rfl 0 rfl (n := 27) rfl ?_
  refine gc_new C dX3_init_27 (ci := 1) (fs := [.null, .null, .null, .null, .int 0, .int 0]) rfl inX1 tyX1_ok kw_cl_X1 kw_in_X1 ini_X1 (by decide) (Nat.le_of_ble_eq_true rfl) (Nat.le_of_ble_eq_true rfl) (n := 30) rfl (fun o3 => ?_)
  refine gc_num (c2 := 9) (s2 := 163) rfl rfl ?_
  refine gc_dup C dX3_init_30 rfl (n := 31) rfl ?_
  refine gc_ws (ws' := [(b, .inr (3, [.ref o1, .ref o2, .null, .null, .null, .null, .int 0, .int 0])), (o1, .inr (2, [.ref (g1 3), .int 0, .ref (g1 4), .int 0, .int 0, .int 0, .int 0])), (g1 3, .inl (cI, 60, .inl (fun _ => 0))), (g1 4, .inl (cI, 24, .inl (fun _ => 0))), (o2, .inr (1, [.ref (g2 1), .ref (g2 2), .ref (g2 3), .ref (g2 4), .int 0, .int 0])), (g2 1, .inl (cI, 12, .inl (fun _ => 0))), (g2 2, .inl (cI, 12, .inl (fun _ => 0))), (g2 3, .inl (cI, 24, .inl (fun _ => 0))), (g2 4, .inl (cI, 12, .inl (fun _ => 0)))] ++ [(o3, .inr (1, [.null, .null, .null, .null, .int 0, .int 0]))]) rfl ?_
  refine gc_init C dX3_init_31 (kcX1_init (b := o3)) ml_X3_18 iw_X1_init cw_X1_init ini_X1 rfl ⟨by decide, by decide, by decide +kernel⟩ (by decide) (by decide) (Nat.le_of_ble_eq_true rfl) (Nat.le_of_ble_eq_true rfl) (Nat.le_of_ble_eq_true rfl) (n := 34) rfl (fun g3 => ?_)
  refine gc_ws (ws' := [(b, .inr (3, [.ref o1, .ref o2, .null, .null, .null, .null, .int 0, .int 0])), (o1, .inr (2, [.ref (g1 3), .int 0, .ref (g1 4), .int 0, .int 0, .int 0, .int 0])), (g1 3, .inl (cI, 60, .inl (fun _ => 0))), (g1 4, .inl (cI, 24, .inl (fun _ => 0))), (o2, .inr (1, [.ref (g2 1), .ref (g2 2), .ref (g2 3), .ref (g2 4), .int 0, .int 0])), (g2 1, .inl (cI, 12, .inl (fun _ => 0))), (g2 2, .inl (cI, 12, .inl (fun _ => 0))), (g2 3, .inl (cI, 24, .inl (fun _ => 0))), (g2 4, .inl (cI, 12, .inl (fun _ => 0))), (o3, .inr (1, [.ref (g3 1), .ref (g3 2), .ref (g3 3), .ref (g3 4), .int 0, .int 0])), (g3 1, .inl (cI, 12, .inl (fun _ => 0))), (g3 2, .inl (cI, 12, .inl (fun _ => 0))), (g3 3, .inl (cI, 24, .inl (fun _ => 0))), (g3 4, .inl (cI, 12, .inl (fun _ => 0)))]) rfl ?_
  refine gc_num (c2 := 13) (s2 := 223) rfl rfl ?_
  refine gc_putF C dX3_init_34 (v := .ref o3) (ws' := [(b, .inr (3, [.ref o1, .ref o2, .ref o3, .null, .null, .null, .int 0, .int 0])), (o1, .inr (2, [.ref (g1 3), .int 0, .ref (g1 4), .int 0, .int 0, .int 0, .int 0])), (g1 3, .inl (cI, 60, .inl (fun _ => 0))), (g1 4, .inl (cI, 24, .inl (fun _ => 0))), (o2, .inr (1, [.ref (g2 1), .ref (g2 2), .ref (g2 3), .ref (g2 4), .int 0, .int 0])), (g2 1, .inl (cI, 12, .inl (fun _ => 0))), (g2 2, .inl (cI, 12, .inl (fun _ => 0))), (g2 3, .inl (cI, 24, .inl (fun _ => 0))), (g2 4, .inl (cI, 12, .inl (fun _ => 0))), (o3, .inr (1, [.ref (g3 1), .ref (g3 2), .ref (g3 3), .ref (g3 4), .int 0, .int 0])), (g3 1, .inl (cI, 12, .inl (fun _ => 0))), (g3 2, .inl (cI, 12, .inl (fun _ => 0))), (g3 3, .inl (cI, 24, .inl (fun _ => 0))), (g3 4, .inl (cI, 12, .inl (fun _ => 0)))]) ⟨0, _, rfl, Nat.le_of_ble_eq_true rfl, rfl⟩ rfl inX3 tyX3_ok nmX3 (by decide) fl_X3_23 rfl hin rfl (ty := .object "BoxFlickers$Line") (by decide +kernel) rfl rfl (n := 37) rfl ?_
  refine gc_aload_n C dX3_init_37 rfl 0 rfl (n := 38) rfl ?_
  refine gc_new C dX3_init_38 (ci := 1) (fs := [.null, .null, .null, .null, .int 0, .int 0]) rfl inX1 tyX1_ok kw_cl_X1 kw_in_X1 ini_X1 (by decide) (Nat.le_of_ble_eq_true rfl) (Nat.le_of_ble_eq_true rfl) (n := 41) rfl (fun o4 => ?_)
  refine gc_num (c2 := 14) (s2 := 229) rfl rfl ?_
  refine gc_dup C dX3_init_41 rfl (n := 42) rfl ?_
  refine gc_ws (ws' := [(b, .inr (3, [.ref o1, .ref o2, .ref o3, .null, .null, .null, .int 0, .int 0])), (o1, .inr (2, [.ref (g1 3), .int 0, .ref (g1 4), .int 0, .int 0, .int 0, .int 0])), (g1 3, .inl (cI, 60, .inl (fun _ => 0))), (g1 4, .inl (cI, 24, .inl (fun _ => 0))), (o2, .inr (1, [.ref (g2 1), .ref (g2 2), .ref (g2 3), .ref (g2 4), .int 0, .int 0])), (g2 1, .inl (cI, 12, .inl (fun _ => 0))), (g2 2, .inl (cI, 12, .inl (fun _ => 0))), (g2 3, .inl (cI, 24, .inl (fun _ => 0))), (g2 4, .inl (cI, 12, .inl (fun _ => 0))), (o3, .inr (1, [.ref (g3 1), .ref (g3 2), .ref (g3 3), .ref (g3 4), .int 0, .int 0])), (g3 1, .inl (cI, 12, .inl (fun _ => 0))), (g3 2, .inl (cI, 12, .inl (fun _ => 0))), (g3 3, .inl (cI, 24, .inl (fun _ => 0))), (g3 4, .inl (cI, 12, .inl (fun _ => 0)))] ++ [(o4, .inr (1, [.null, .null, .null, .null, .int 0, .int 0]))]) rfl ?_
  refine gc_init C dX3_init_42 (kcX1_init (b := o4)) ml_X3_18 iw_X1_init cw_X1_init ini_X1 rfl ⟨by decide, by decide, by decide +kernel⟩ (by decide) (by decide) (Nat.le_of_ble_eq_true rfl) (Nat.le_of_ble_eq_true rfl) (Nat.le_of_ble_eq_true rfl) (n := 45) rfl (fun g4 => ?_)
  refine gc_ws (ws' := [(b, .inr (3, [.ref o1, .ref o2, .ref o3, .null, .null, .null, .int 0, .int 0])), (o1, .inr (2, [.ref (g1 3), .int 0, .ref (g1 4), .int 0, .int 0, .int 0, .int 0])), (g1 3, .inl (cI, 60, .inl (fun _ => 0))), (g1 4, .inl (cI, 24, .inl (fun _ => 0))), (o2, .inr (1, [.ref (g2 1), .ref (g2 2), .ref (g2 3), .ref (g2 4), .int 0, .int 0])), (g2 1, .inl (cI, 12, .inl (fun _ => 0))), (g2 2, .inl (cI, 12, .inl (fun _ => 0))), (g2 3, .inl (cI, 24, .inl (fun _ => 0))), (g2 4, .inl (cI, 12, .inl (fun _ => 0))), (o3, .inr (1, [.ref (g3 1), .ref (g3 2), .ref (g3 3), .ref (g3 4), .int 0, .int 0])), (g3 1, .inl (cI, 12, .inl (fun _ => 0))), (g3 2, .inl (cI, 12, .inl (fun _ => 0))), (g3 3, .inl (cI, 24, .inl (fun _ => 0))), (g3 4, .inl (cI, 12, .inl (fun _ => 0))), (o4, .inr (1, [.ref (g4 1), .ref (g4 2), .ref (g4 3), .ref (g4 4), .int 0, .int 0])), (g4 1, .inl (cI, 12, .inl (fun _ => 0))), (g4 2, .inl (cI, 12, .inl (fun _ => 0))), (g4 3, .inl (cI, 24, .inl (fun _ => 0))), (g4 4, .inl (cI, 12, .inl (fun _ => 0)))]) rfl ?_
  refine gc_num (c2 := 18) (s2 := 289) rfl rfl ?_
  refine gc_putF C dX3_init_45 (v := .ref o4) (ws' := [(b, .inr (3, [.ref o1, .ref o2, .ref o3, .ref o4, .null, .null, .int 0, .int 0])), (o1, .inr (2, [.ref (g1 3), .int 0, .ref (g1 4), .int 0, .int 0, .int 0, .int 0])), (g1 3, .inl (cI, 60, .inl (fun _ => 0))), (g1 4, .inl (cI, 24, .inl (fun _ => 0))), (o2, .inr (1, [.ref (g2 1), .ref (g2 2), .ref (g2 3), .ref (g2 4), .int 0, .int 0])), (g2 1, .inl (cI, 12, .inl (fun _ => 0))), (g2 2, .inl (cI, 12, .inl (fun _ => 0))), (g2 3, .inl (cI, 24, .inl (fun _ => 0))), (g2 4, .inl (cI, 12, .inl (fun _ => 0))), (o3, .inr (1, [.ref (g3 1), .ref (g3 2), .ref (g3 3), .ref (g3 4), .int 0, .int 0])), (g3 1, .inl (cI, 12, .inl (fun _ => 0))), (g3 2, .inl (cI, 12, .inl (fun _ => 0))), (g3 3, .inl (cI, 24, .inl (fun _ => 0))), (g3 4, .inl (cI, 12, .inl (fun _ => 0))), (o4, .inr (1, [.ref (g4 1), .ref (g4 2), .ref (g4 3), .ref (g4 4), .int 0, .int 0])), (g4 1, .inl (cI, 12, .inl (fun _ => 0))), (g4 2, .inl (cI, 12, .inl (fun _ => 0))), (g4 3, .inl (cI, 24, .inl (fun _ => 0))), (g4 4, .inl (cI, 12, .inl (fun _ => 0)))]) ⟨0, _, rfl, Nat.le_of_ble_eq_true rfl, rfl⟩ rfl inX3 tyX3_ok nmX3 (by decide) fl_X3_26 rfl hin rfl (ty := .object "BoxFlickers$Line") (by decide +kernel) rfl rfl (n := 48) rfl ?_
  refine gc_aload_n C dX3_init_48 rfl 0 rfl (n := 49) rfl ?_
  refine gc_new C dX3_init_49 (ci := 0) (fs := [.null, .null, .int 0, .int 0, .int 0, .int 0, .int 0, .int 0, .int 0, .int 0, .int 0]) rfl inX0 tyX0_ok kw_cl_X0 kw_in_X0 ini_X0 (by decide) (Nat.le_of_ble_eq_true rfl) (Nat.le_of_ble_eq_true rfl) (n := 52) rfl (fun o5 => ?_)
  refine gc_num (c2 := 19) (s2 := 300) rfl rfl ?_
  refine gc_dup C dX3_init_52 rfl (n := 53) rfl ?_
  refine gc_ws (ws' := [(b, .inr (3, [.ref o1, .ref o2, .ref o3, .ref o4, .null, .null, .int 0, .int 0])), (o1, .inr (2, [.ref (g1 3), .int 0, .ref (g1 4), .int 0, .int 0, .int 0, .int 0])), (g1 3, .inl (cI, 60, .inl (fun _ => 0))), (g1 4, .inl (cI, 24, .inl (fun _ => 0))), (o2, .inr (1, [.ref (g2 1), .ref (g2 2), .ref (g2 3), .ref (g2 4), .int 0, .int 0])), (g2 1, .inl (cI, 12, .inl (fun _ => 0))), (g2 2, .inl (cI, 12, .inl (fun _ => 0))), (g2 3, .inl (cI, 24, .inl (fun _ => 0))), (g2 4, .inl (cI, 12, .inl (fun _ => 0))), (o3, .inr (1, [.ref (g3 1), .ref (g3 2), .ref (g3 3), .ref (g3 4), .int 0, .int 0])), (g3 1, .inl (cI, 12, .inl (fun _ => 0))), (g3 2, .inl (cI, 12, .inl (fun _ => 0))), (g3 3, .inl (cI, 24, .inl (fun _ => 0))), (g3 4, .inl (cI, 12, .inl (fun _ => 0))), (o4, .inr (1, [.ref (g4 1), .ref (g4 2), .ref (g4 3), .ref (g4 4), .int 0, .int 0])), (g4 1, .inl (cI, 12, .inl (fun _ => 0))), (g4 2, .inl (cI, 12, .inl (fun _ => 0))), (g4 3, .inl (cI, 24, .inl (fun _ => 0))), (g4 4, .inl (cI, 12, .inl (fun _ => 0)))] ++ [(o5, .inr (0, [.null, .null, .int 0, .int 0, .int 0, .int 0, .int 0, .int 0, .int 0, .int 0, .int 0]))]) rfl ?_
  refine gc_init C dX3_init_53 (kcX0_init (b := o5)) ml_X3_31 iw_X0_init cw_X0_init ini_X0 rfl ⟨by decide, by decide, by decide +kernel⟩ (by decide) (by decide) (Nat.le_of_ble_eq_true rfl) (Nat.le_of_ble_eq_true rfl) (Nat.le_of_ble_eq_true rfl) (n := 56) rfl (fun g5 => ?_)
  refine gc_ws (ws' := [(b, .inr (3, [.ref o1, .ref o2, .ref o3, .ref o4, .null, .null, .int 0, .int 0])), (o1, .inr (2, [.ref (g1 3), .int 0, .ref (g1 4), .int 0, .int 0, .int 0, .int 0])), (g1 3, .inl (cI, 60, .inl (fun _ => 0))), (g1 4, .inl (cI, 24, .inl (fun _ => 0))), (o2, .inr (1, [.ref (g2 1), .ref (g2 2), .ref (g2 3), .ref (g2 4), .int 0, .int 0])), (g2 1, .inl (cI, 12, .inl (fun _ => 0))), (g2 2, .inl (cI, 12, .inl (fun _ => 0))), (g2 3, .inl (cI, 24, .inl (fun _ => 0))), (g2 4, .inl (cI, 12, .inl (fun _ => 0))), (o3, .inr (1, [.ref (g3 1), .ref (g3 2), .ref (g3 3), .ref (g3 4), .int 0, .int 0])), (g3 1, .inl (cI, 12, .inl (fun _ => 0))), (g3 2, .inl (cI, 12, .inl (fun _ => 0))), (g3 3, .inl (cI, 24, .inl (fun _ => 0))), (g3 4, .inl (cI, 12, .inl (fun _ => 0))), (o4, .inr (1, [.ref (g4 1), .ref (g4 2), .ref (g4 3), .ref (g4 4), .int 0, .int 0])), (g4 1, .inl (cI, 12, .inl (fun _ => 0))), (g4 2, .inl (cI, 12, .inl (fun _ => 0))), (g4 3, .inl (cI, 24, .inl (fun _ => 0))), (g4 4, .inl (cI, 12, .inl (fun _ => 0))), (o5, .inr (0, [.ref (g5 6), .ref (g5 7), .int 0, .int 0, .int 0, .int 0, .int 0, .int 0, .int 0, .int 0, .int 0])), (g5 6, .inl (cI, 66, .inl (fun _ => 0))), (g5 7, .inl (cI, 3, .inl (fun _ => 0)))]) rfl ?_
  refine gc_num (c2 := 21) (s2 := 369) rfl rfl ?_
  refine gc_putF C dX3_init_56 (v := .ref o5) (ws' := [(b, .inr (3, [.ref o1, .ref o2, .ref o3, .ref o4, .ref o5, .null, .int 0, .int 0])), (o1, .inr (2, [.ref (g1 3), .int 0, .ref (g1 4), .int 0, .int 0, .int 0, .int 0])), (g1 3, .inl (cI, 60, .inl (fun _ => 0))), (g1 4, .inl (cI, 24, .inl (fun _ => 0))), (o2, .inr (1, [.ref (g2 1), .ref (g2 2), .ref (g2 3), .ref (g2 4), .int 0, .int 0])), (g2 1, .inl (cI, 12, .inl (fun _ => 0))), (g2 2, .inl (cI, 12, .inl (fun _ => 0))), (g2 3, .inl (cI, 24, .inl (fun _ => 0))), (g2 4, .inl (cI, 12, .inl (fun _ => 0))), (o3, .inr (1, [.ref (g3 1), .ref (g3 2), .ref (g3 3), .ref (g3 4), .int 0, .int 0])), (g3 1, .inl (cI, 12, .inl (fun _ => 0))), (g3 2, .inl (cI, 12, .inl (fun _ => 0))), (g3 3, .inl (cI, 24, .inl (fun _ => 0))), (g3 4, .inl (cI, 12, .inl (fun _ => 0))), (o4, .inr (1, [.ref (g4 1), .ref (g4 2), .ref (g4 3), .ref (g4 4), .int 0, .int 0])), (g4 1, .inl (cI, 12, .inl (fun _ => 0))), (g4 2, .inl (cI, 12, .inl (fun _ => 0))), (g4 3, .inl (cI, 24, .inl (fun _ => 0))), (g4 4, .inl (cI, 12, .inl (fun _ => 0))), (o5, .inr (0, [.ref (g5 6), .ref (g5 7), .int 0, .int 0, .int 0, .int 0, .int 0, .int 0, .int 0, .int 0, .int 0])), (g5 6, .inl (cI, 66, .inl (fun _ => 0))), (g5 7, .inl (cI, 3, .inl (fun _ => 0)))]) ⟨0, _, rfl, Nat.le_of_ble_eq_true rfl, rfl⟩ rfl inX3 tyX3_ok nmX3 (by decide) fl_X3_32 rfl hin rfl (ty := .object "BoxFlickers$Ledger") (by decide +kernel) rfl rfl (n := 59) rfl ?_
  refine gc_aload_n C dX3_init_59 rfl 0 rfl (n := 60) rfl ?_
  refine gc_bipush C dX3_init_60 (v := (12 : Int32)) (by decide) (n := 62) rfl ?_
  refine gc_newI C dX3_init_62 (N := 12) (by decide) (by decide) (Nat.le_of_ble_eq_true rfl) (Nat.le_of_ble_eq_true rfl) (Nat.le_of_ble_eq_true rfl) (n := 64) rfl (fun a6 => ?_)
  refine gc_ws (ws' := [(b, .inr (3, [.ref o1, .ref o2, .ref o3, .ref o4, .ref o5, .null, .int 0, .int 0])), (o1, .inr (2, [.ref (g1 3), .int 0, .ref (g1 4), .int 0, .int 0, .int 0, .int 0])), (g1 3, .inl (cI, 60, .inl (fun _ => 0))), (g1 4, .inl (cI, 24, .inl (fun _ => 0))), (o2, .inr (1, [.ref (g2 1), .ref (g2 2), .ref (g2 3), .ref (g2 4), .int 0, .int 0])), (g2 1, .inl (cI, 12, .inl (fun _ => 0))), (g2 2, .inl (cI, 12, .inl (fun _ => 0))), (g2 3, .inl (cI, 24, .inl (fun _ => 0))), (g2 4, .inl (cI, 12, .inl (fun _ => 0))), (o3, .inr (1, [.ref (g3 1), .ref (g3 2), .ref (g3 3), .ref (g3 4), .int 0, .int 0])), (g3 1, .inl (cI, 12, .inl (fun _ => 0))), (g3 2, .inl (cI, 12, .inl (fun _ => 0))), (g3 3, .inl (cI, 24, .inl (fun _ => 0))), (g3 4, .inl (cI, 12, .inl (fun _ => 0))), (o4, .inr (1, [.ref (g4 1), .ref (g4 2), .ref (g4 3), .ref (g4 4), .int 0, .int 0])), (g4 1, .inl (cI, 12, .inl (fun _ => 0))), (g4 2, .inl (cI, 12, .inl (fun _ => 0))), (g4 3, .inl (cI, 24, .inl (fun _ => 0))), (g4 4, .inl (cI, 12, .inl (fun _ => 0))), (o5, .inr (0, [.ref (g5 6), .ref (g5 7), .int 0, .int 0, .int 0, .int 0, .int 0, .int 0, .int 0, .int 0, .int 0])), (g5 6, .inl (cI, 66, .inl (fun _ => 0))), (g5 7, .inl (cI, 3, .inl (fun _ => 0))), (a6, .inl (cI, 12, .inl (fun _ => 0)))]) rfl ?_
  refine gc_num (c2 := 22) (s2 := 381) rfl rfl ?_
  refine gc_putF C dX3_init_64 (v := .ref a6) (ws' := [(b, .inr (3, [.ref o1, .ref o2, .ref o3, .ref o4, .ref o5, .ref a6, .int 0, .int 0])), (o1, .inr (2, [.ref (g1 3), .int 0, .ref (g1 4), .int 0, .int 0, .int 0, .int 0])), (g1 3, .inl (cI, 60, .inl (fun _ => 0))), (g1 4, .inl (cI, 24, .inl (fun _ => 0))), (o2, .inr (1, [.ref (g2 1), .ref (g2 2), .ref (g2 3), .ref (g2 4), .int 0, .int 0])), (g2 1, .inl (cI, 12, .inl (fun _ => 0))), (g2 2, .inl (cI, 12, .inl (fun _ => 0))), (g2 3, .inl (cI, 24, .inl (fun _ => 0))), (g2 4, .inl (cI, 12, .inl (fun _ => 0))), (o3, .inr (1, [.ref (g3 1), .ref (g3 2), .ref (g3 3), .ref (g3 4), .int 0, .int 0])), (g3 1, .inl (cI, 12, .inl (fun _ => 0))), (g3 2, .inl (cI, 12, .inl (fun _ => 0))), (g3 3, .inl (cI, 24, .inl (fun _ => 0))), (g3 4, .inl (cI, 12, .inl (fun _ => 0))), (o4, .inr (1, [.ref (g4 1), .ref (g4 2), .ref (g4 3), .ref (g4 4), .int 0, .int 0])), (g4 1, .inl (cI, 12, .inl (fun _ => 0))), (g4 2, .inl (cI, 12, .inl (fun _ => 0))), (g4 3, .inl (cI, 24, .inl (fun _ => 0))), (g4 4, .inl (cI, 12, .inl (fun _ => 0))), (o5, .inr (0, [.ref (g5 6), .ref (g5 7), .int 0, .int 0, .int 0, .int 0, .int 0, .int 0, .int 0, .int 0, .int 0])), (g5 6, .inl (cI, 66, .inl (fun _ => 0))), (g5 7, .inl (cI, 3, .inl (fun _ => 0))), (a6, .inl (cI, 12, .inl (fun _ => 0)))]) ⟨0, _, rfl, Nat.le_of_ble_eq_true rfl, rfl⟩ rfl inX3 tyX3_ok nmX3 (by decide) fl_X3_36 rfl hin rfl (ty := .array .int) (by decide +kernel) rfl rfl (n := 67) rfl ?_
  refine gc_aload_n C dX3_init_67 rfl 0 rfl (n := 68) rfl ?_
  refine gc_iconst C dX3_init_68 (v := (0 : Int32)) (by decide) (n := 69) rfl ?_
  refine gc_put C dX3_init_69 (v := .int 0) (ws' := [(b, .inr (3, [.ref o1, .ref o2, .ref o3, .ref o4, .ref o5, .ref a6, .int 0, .int 0])), (o1, .inr (2, [.ref (g1 3), .int 0, .ref (g1 4), .int 0, .int 0, .int 0, .int 0])), (g1 3, .inl (cI, 60, .inl (fun _ => 0))), (g1 4, .inl (cI, 24, .inl (fun _ => 0))), (o2, .inr (1, [.ref (g2 1), .ref (g2 2), .ref (g2 3), .ref (g2 4), .int 0, .int 0])), (g2 1, .inl (cI, 12, .inl (fun _ => 0))), (g2 2, .inl (cI, 12, .inl (fun _ => 0))), (g2 3, .inl (cI, 24, .inl (fun _ => 0))), (g2 4, .inl (cI, 12, .inl (fun _ => 0))), (o3, .inr (1, [.ref (g3 1), .ref (g3 2), .ref (g3 3), .ref (g3 4), .int 0, .int 0])), (g3 1, .inl (cI, 12, .inl (fun _ => 0))), (g3 2, .inl (cI, 12, .inl (fun _ => 0))), (g3 3, .inl (cI, 24, .inl (fun _ => 0))), (g3 4, .inl (cI, 12, .inl (fun _ => 0))), (o4, .inr (1, [.ref (g4 1), .ref (g4 2), .ref (g4 3), .ref (g4 4), .int 0, .int 0])), (g4 1, .inl (cI, 12, .inl (fun _ => 0))), (g4 2, .inl (cI, 12, .inl (fun _ => 0))), (g4 3, .inl (cI, 24, .inl (fun _ => 0))), (g4 4, .inl (cI, 12, .inl (fun _ => 0))), (o5, .inr (0, [.ref (g5 6), .ref (g5 7), .int 0, .int 0, .int 0, .int 0, .int 0, .int 0, .int 0, .int 0, .int 0])), (g5 6, .inl (cI, 66, .inl (fun _ => 0))), (g5 7, .inl (cI, 3, .inl (fun _ => 0))), (a6, .inl (cI, 12, .inl (fun _ => 0)))]) ⟨0, _, rfl, Nat.le_of_ble_eq_true rfl, rfl⟩ rfl inX3 tyX3_ok nmX3 (by decide) fl_X3_40 rfl (ty := .int) (by decide +kernel) rfl rfl (n := 72) rfl ?_
  refine gc_aload_n C dX3_init_72 rfl 0 rfl (n := 73) rfl ?_
  refine gc_iconst C dX3_init_73 (v := (0 : Int32)) (by decide) (n := 74) rfl ?_
  refine gc_put C dX3_init_74 (v := .int 0) (ws' := [(b, .inr (3, [.ref o1, .ref o2, .ref o3, .ref o4, .ref o5, .ref a6, .int 0, .int 0])), (o1, .inr (2, [.ref (g1 3), .int 0, .ref (g1 4), .int 0, .int 0, .int 0, .int 0])), (g1 3, .inl (cI, 60, .inl (fun _ => 0))), (g1 4, .inl (cI, 24, .inl (fun _ => 0))), (o2, .inr (1, [.ref (g2 1), .ref (g2 2), .ref (g2 3), .ref (g2 4), .int 0, .int 0])), (g2 1, .inl (cI, 12, .inl (fun _ => 0))), (g2 2, .inl (cI, 12, .inl (fun _ => 0))), (g2 3, .inl (cI, 24, .inl (fun _ => 0))), (g2 4, .inl (cI, 12, .inl (fun _ => 0))), (o3, .inr (1, [.ref (g3 1), .ref (g3 2), .ref (g3 3), .ref (g3 4), .int 0, .int 0])), (g3 1, .inl (cI, 12, .inl (fun _ => 0))), (g3 2, .inl (cI, 12, .inl (fun _ => 0))), (g3 3, .inl (cI, 24, .inl (fun _ => 0))), (g3 4, .inl (cI, 12, .inl (fun _ => 0))), (o4, .inr (1, [.ref (g4 1), .ref (g4 2), .ref (g4 3), .ref (g4 4), .int 0, .int 0])), (g4 1, .inl (cI, 12, .inl (fun _ => 0))), (g4 2, .inl (cI, 12, .inl (fun _ => 0))), (g4 3, .inl (cI, 24, .inl (fun _ => 0))), (g4 4, .inl (cI, 12, .inl (fun _ => 0))), (o5, .inr (0, [.ref (g5 6), .ref (g5 7), .int 0, .int 0, .int 0, .int 0, .int 0, .int 0, .int 0, .int 0, .int 0])), (g5 6, .inl (cI, 66, .inl (fun _ => 0))), (g5 7, .inl (cI, 3, .inl (fun _ => 0))), (a6, .inl (cI, 12, .inl (fun _ => 0)))]) ⟨0, _, rfl, Nat.le_of_ble_eq_true rfl, rfl⟩ rfl inX3 tyX3_ok nmX3 (by decide) fl_X3_44 rfl (ty := .boolean) (by decide +kernel) rfl rfl (n := 77) rfl ?_
-- final order
  refine gc_perm [0, 22, 1, 2, 3, 19, 20, 21, 4, 5, 6, 7, 8, 9, 10, 11, 12, 13, 14, 15, 16, 17, 18] (by decide) (ws' := bx_xw (fun k => if k = 0 then b else (fun k => if k = 1 then a6 else if k = 2 then o1 else if k = 3 then g1 3 else if k = 4 then g1 4 else if k = 5 then o5 else if k = 6 then g5 6 else if k = 7 then g5 7 else if k = 8 then o2 else if k = 9 then g2 1 else if k = 10 then g2 2 else if k = 11 then g2 3 else if k = 12 then g2 4 else if k = 13 then o3 else if k = 14 then g3 1 else if k = 15 then g3 2 else if k = 16 then g3 3 else if k = 17 then g3 4 else if k = 18 then o4 else if k = 19 then g4 1 else if k = 20 then g4 2 else if k = 21 then g4 3 else g4 4) k) cI (fun _ _ => 0, 0)) rfl rfl ?_
  exact gc_vret C (F := (fun q => bx_xw (fun k => if k = 0 then b else q k) cI (fun _ _ => 0, 0))) (fun k => if k = 1 then a6 else if k = 2 then o1 else if k = 3 then g1 3 else if k = 4 then g1 4 else if k = 5 then o5 else if k = 6 then g5 6 else if k = 7 then g5 7 else if k = 8 then o2 else if k = 9 then g2 1 else if k = 10 then g2 2 else if k = 11 then g2 3 else if k = 12 then g2 4 else if k = 13 then o3 else if k = 14 then g3 1 else if k = 15 then g3 2 else if k = 16 then g3 3 else if k = 17 then g3 4 else if k = 18 then o4 else if k = 19 then g4 1 else if k = 20 then g4 2 else if k = 21 then g4 3 else g4 4) rfl dX3_init_77
set_option maxRecDepth 20000 in
set_option maxHeartbeats 8000000 in
theorem kcX4_init {l : Launch} {D : va_G} {cI cZ : ClassId} {b : Nat} : bx_Ct l D cI cZ yX4_init cX4_init 1 10 717 b (.inr (4, [.int 0, .null, .int 0, .int 0, .null, .int 0, .null, .null, .int 0, .null, .null, .int 0, .int 0, .null, .int 0, .int 0, .int 0, .int 0, .int 0, .int 0, .null, .int 0, .int 0, .null, .int 0, .int 0, .null, .long 0])) (fun q => bx_mw (fun k => if k = 0 then b else q k) cI cZ (fun _ _ => 0, 0)) := by
  refine bx_mkc (by decide) rfl (fun p e s m args below meth c A C hin => ?_)
  replace C : bx_Cx p s m args meth c 1 A D cI cZ RX4 cX4_init none := C
  refine gc_aload_n C dX4_init_0 rfl 0 rfl (n := 1) rfl ?_
  refine gc_obj C dX4_init_1 kw_ob_X4 (by decide) (Nat.le_of_ble_eq_true rfl) (by decide) (n := 4) rfl ?_
  refine gc_aload_n C dX4_init_4 rfl 0 rfl (n := 5) rfl ?_
  refine gc_bipush C dX4_init_5 (v := (60 : Int32)) (by decide) (n := 7) rfl ?_
  refine gc_newI C dX4_init_7 (N := 60) (by decide) (by decide) (Nat.le_of_ble_eq_true rfl) (Nat.le_of_ble_eq_true rfl) (Nat.le_of_ble_eq_true rfl) (n := 9) rfl (fun a1 => ?_)
  refine gc_ws (ws' := [(b, .inr (4, [.int 0, .null, .int 0, .int 0, .null, .int 0, .null, .null, .int 0, .null, .null, .int 0, .int 0, .null, .int 0, .int 0, .int 0, .int 0, .int 0, .int 0, .null, .int 0, .int 0, .null, .int 0, .int 0, .null, .long 0])), (a1, .inl (cI, 60, .inl (fun _ => 0)))]) rfl ?_
  refine gc_num (c2 := 1) (s2 := 60) rfl rfl ?_
  refine gc_putF C dX4_init_9 (v := .ref a1) (ws' := [(b, .inr (4, [.int 0, .ref a1, .int 0, .int 0, .null, .int 0, .null, .null, .int 0, .null, .null, .int 0, .int 0, .null, .int 0, .int 0, .int 0, .int 0, .int 0, .int 0, .null, .int 0, .int 0, .null, .int 0, .int 0, .null, .long 0])), (a1, .inl (cI, 60, .inl (fun _ => 0)))]) ⟨0, _, rfl, Nat.le_of_ble_eq_true rfl, rfl⟩ rfl inX4 tyX4_ok nmX4 (by decide) fl_X4_7 rfl hin rfl (ty := .array .int) (by decide +kernel) rfl rfl (n := 12) rfl ?_
  refine gc_aload_n C dX4_init_12 rfl 0 rfl (n := 13) rfl ?_
  refine gc_bipush C dX4_init_13 (v := (72 : Int32)) (by decide) (n := 15) rfl ?_
  refine gc_newI C dX4_init_15 (N := 72) (by decide) (by decide) (Nat.le_of_ble_eq_true rfl) (Nat.le_of_ble_eq_true rfl) (Nat.le_of_ble_eq_true rfl) (n := 17) rfl (fun a2 => ?_)
  refine gc_ws (ws' := [(b, .inr (4, [.int 0, .ref a1, .int 0, .int 0, .null, .int 0, .null, .null, .int 0, .null, .null, .int 0, .int 0, .null, .int 0, .int 0, .int 0, .int 0, .int 0, .int 0, .null, .int 0, .int 0, .null, .int 0, .int 0, .null, .long 0])), (a1, .inl (cI, 60, .inl (fun _ => 0))), (a2, .inl (cI, 72, .inl (fun _ => 0)))]) rfl ?_
  refine gc_num (c2 := 2) (s2 := 132) rfl rfl ?_
  refine gc_putF C dX4_init_17 (v := .ref a2) (ws' := [(b, .inr (4, [.int 0, .ref a1, .int 0, .int 0, .ref a2, .int 0, .null, .null, .int 0, .null, .null, .int 0, .int 0, .null, .int 0, .int 0, .int 0, .int 0, .int 0, .int 0, .null, .int 0, .int 0, .null, .int 0, .int 0, .null, .long 0])), (a1, .inl (cI, 60, .inl (fun _ => 0))), (a2, .inl (cI, 72, .inl (fun _ => 0)))]) ⟨0, _, rfl, Nat.le_of_ble_eq_true rfl, rfl⟩ rfl inX4 tyX4_ok nmX4 (by decide) fl_X4_13 rfl hin rfl (ty := .array .int) (by decide +kernel) rfl rfl (n := 20) rfl ?_
  refine gc_aload_n C dX4_init_20 rfl 0 rfl (n := 21) rfl ?_
  refine gc_bipush C dX4_init_21 (v := (72 : Int32)) (by decide) (n := 23) rfl ?_
  refine gc_newI C dX4_init_23 (N := 72) (by decide) (by decide) (Nat.le_of_ble_eq_true rfl) (Nat.le_of_ble_eq_true rfl) (Nat.le_of_ble_eq_true rfl) (n := 25) rfl (fun a3 => ?_)
  refine gc_ws (ws' := [(b, .inr (4, [.int 0, .ref a1, .int 0, .int 0, .ref a2, .int 0, .null, .null, .int 0, .null, .null, .int 0, .int 0, .null, .int 0, .int 0, .int 0, .int 0, .int 0, .int 0, .null, .int 0, .int 0, .null, .int 0, .int 0, .null, .long 0])), (a1, .inl (cI, 60, .inl (fun _ => 0))), (a2, .inl (cI, 72, .inl (fun _ => 0))), (a3, .inl (cI, 72, .inl (fun _ => 0)))]) rfl ?_
  refine gc_num (c2 := 3) (s2 := 204) rfl rfl ?_
  refine gc_putF C dX4_init_25 (v := .ref a3) (ws' := [(b, .inr (4, [.int 0, .ref a1, .int 0, .int 0, .ref a2, .int 0, .ref a3, .null, .int 0, .null, .null, .int 0, .int 0, .null, .int 0, .int 0, .int 0, .int 0, .int 0, .int 0, .null, .int 0, .int 0, .null, .int 0, .int 0, .null, .long 0])), (a1, .inl (cI, 60, .inl (fun _ => 0))), (a2, .inl (cI, 72, .inl (fun _ => 0))), (a3, .inl (cI, 72, .inl (fun _ => 0)))]) ⟨0, _, rfl, Nat.le_of_ble_eq_true rfl, rfl⟩ rfl inX4 tyX4_ok nmX4 (by decide) fl_X4_16 rfl hin rfl (ty := .array .int) (by decide +kernel) rfl rfl (n := 28) rfl ?_
  refine gc_aload_n C dX4_init_28 rfl 0 rfl (n := 29) rfl ?_
  refine gc_sipush C dX4_init_29 (v := (144 : Int32)) (by decide) (n := 32) rfl ?_
  refine gc_newI C dX4_init_32 (N := 144) (by decide) (by decide) (Nat.le_of_ble_eq_true rfl) (Nat.le_of_ble_eq_true rfl) (Nat.le_of_ble_eq_true rfl) (n := 34) rfl (fun a4 => ?_)
  refine gc_ws (ws' := [(b, .inr (4, [.int 0, .ref a1, .int 0, .int 0, .ref a2, .int 0, .ref a3, .null, .int 0, .null, .null, .int 0, .int 0, .null, .int 0, .int 0, .int 0, .int 0, .int 0, .int 0, .null, .int 0, .int 0, .null, .int 0, .int 0, .null, .long 0])), (a1, .inl (cI, 60, .inl (fun _ => 0))), (a2, .inl (cI, 72, .inl (fun _ => 0))), (a3, .inl (cI, 72, .inl (fun _ => 0))), (a4, .inl (cI, 144, .inl (fun _ => 0)))]) rfl ?_
  refine gc_num (c2 := 4) (s2 := 348) rfl rfl ?_
  refine gc_putF C dX4_init_34 (v := .ref a4) (ws' := [(b, .inr (4, [.int 0, .ref a1, .int 0, .int 0, .ref a2, .int 0, .ref a3, .ref a4, .int 0, .null, .null, .int 0, .int 0, .null, .int 0, .int 0, .int 0, .int 0, .int 0, .int 0, .null, .int 0, .int 0, .null, .int 0, .int 0, .null, .long 0])), (a1, .inl (cI, 60, .inl (fun _ => 0))), (a2, .inl (cI, 72, .inl (fun _ => 0))), (a3, .inl (cI, 72, .inl (fun _ => 0))), (a4, .inl (cI, 144, .inl (fun _ => 0)))]) ⟨0, _, rfl, Nat.le_of_ble_eq_true rfl, rfl⟩ rfl inX4 tyX4_ok nmX4 (by decide) fl_X4_19 rfl hin rfl (ty := .array .int) (by decide +kernel) rfl rfl (n := 37) rfl ?_
  refine gc_aload_n C dX4_init_37 rfl 0 rfl (n := 38) rfl ?_
  refine gc_bipush C dX4_init_38 (v := (66 : Int32)) (by decide) (n := 40) rfl ?_
  refine gc_newI C dX4_init_40 (N := 66) (by decide) (by decide) (Nat.le_of_ble_eq_true rfl) (Nat.le_of_ble_eq_true rfl) (Nat.le_of_ble_eq_true rfl) (n := 42) rfl (fun a5 => ?_)
  refine gc_ws (ws' := [(b, .inr (4, [.int 0, .ref a1, .int 0, .int 0, .ref a2, .int 0, .ref a3, .ref a4, .int 0, .null, .null, .int 0, .int 0, .null, .int 0, .int 0, .int 0, .int 0, .int 0, .int 0, .null, .int 0, .int 0, .null, .int 0, .int 0, .null, .long 0])), (a1, .inl (cI, 60, .inl (fun _ => 0))), (a2, .inl (cI, 72, .inl (fun _ => 0))), (a3, .inl (cI, 72, .inl (fun _ => 0))), (a4, .inl (cI, 144, .inl (fun _ => 0))), (a5, .inl (cI, 66, .inl (fun _ => 0)))]) rfl ?_
  refine gc_num (c2 := 5) (s2 := 414) rfl rfl ?_
  refine gc_putF C dX4_init_42 (v := .ref a5) (ws' := [(b, .inr (4, [.int 0, .ref a1, .int 0, .int 0, .ref a2, .int 0, .ref a3, .ref a4, .int 0, .ref a5, .null, .int 0, .int 0, .null, .int 0, .int 0, .int 0, .int 0, .int 0, .int 0, .null, .int 0, .int 0, .null, .int 0, .int 0, .null, .long 0])), (a1, .inl (cI, 60, .inl (fun _ => 0))), (a2, .inl (cI, 72, .inl (fun _ => 0))), (a3, .inl (cI, 72, .inl (fun _ => 0))), (a4, .inl (cI, 144, .inl (fun _ => 0))), (a5, .inl (cI, 66, .inl (fun _ => 0)))]) ⟨0, _, rfl, Nat.le_of_ble_eq_true rfl, rfl⟩ rfl inX4 tyX4_ok nmX4 (by decide) fl_X4_22 rfl hin rfl (ty := .array .int) (by decide +kernel) rfl rfl (n := 45) rfl ?_
  refine gc_aload_n C dX4_init_45 rfl 0 rfl (n := 46) rfl ?_
  refine gc_bipush C dX4_init_46 (v := (66 : Int32)) (by decide) (n := 48) rfl ?_
  refine gc_newI C dX4_init_48 (N := 66) (by decide) (by decide) (Nat.le_of_ble_eq_true rfl) (Nat.le_of_ble_eq_true rfl) (Nat.le_of_ble_eq_true rfl) (n := 50) rfl (fun a6 => ?_)
  refine gc_ws (ws' := [(b, .inr (4, [.int 0, .ref a1, .int 0, .int 0, .ref a2, .int 0, .ref a3, .ref a4, .int 0, .ref a5, .null, .int 0, .int 0, .null, .int 0, .int 0, .int 0, .int 0, .int 0, .int 0, .null, .int 0, .int 0, .null, .int 0, .int 0, .null, .long 0])), (a1, .inl (cI, 60, .inl (fun _ => 0))), (a2, .inl (cI, 72, .inl (fun _ => 0))), (a3, .inl (cI, 72, .inl (fun _ => 0))), (a4, .inl (cI, 144, .inl (fun _ => 0))), (a5, .inl (cI, 66, .inl (fun _ => 0))), (a6, .inl (cI, 66, .inl (fun _ => 0)))]) rfl ?_
  refine gc_num (c2 := 6) (s2 := 480) rfl rfl ?_
  refine gc_putF C dX4_init_50 (v := .ref a6) (ws' := [(b, .inr (4, [.int 0, .ref a1, .int 0, .int 0, .ref a2, .int 0, .ref a3, .ref a4, .int 0, .ref a5, .ref a6, .int 0, .int 0, .null, .int 0, .int 0, .int 0, .int 0, .int 0, .int 0, .null, .int 0, .int 0, .null, .int 0, .int 0, .null, .long 0])), (a1, .inl (cI, 60, .inl (fun _ => 0))), (a2, .inl (cI, 72, .inl (fun _ => 0))), (a3, .inl (cI, 72, .inl (fun _ => 0))), (a4, .inl (cI, 144, .inl (fun _ => 0))), (a5, .inl (cI, 66, .inl (fun _ => 0))), (a6, .inl (cI, 66, .inl (fun _ => 0)))]) ⟨0, _, rfl, Nat.le_of_ble_eq_true rfl, rfl⟩ rfl inX4 tyX4_ok nmX4 (by decide) fl_X4_25 rfl hin rfl (ty := .array .int) (by decide +kernel) rfl rfl (n := 53) rfl ?_
  refine gc_aload_n C dX4_init_53 rfl 0 rfl (n := 54) rfl ?_
  refine gc_iconst C dX4_init_54 (v := (3 : Int32)) (by decide) (n := 55) rfl ?_
  refine gc_newI C dX4_init_55 (N := 3) (by decide) (by decide) (Nat.le_of_ble_eq_true rfl) (Nat.le_of_ble_eq_true rfl) (Nat.le_of_ble_eq_true rfl) (n := 57) rfl (fun a7 => ?_)
  refine gc_ws (ws' := [(b, .inr (4, [.int 0, .ref a1, .int 0, .int 0, .ref a2, .int 0, .ref a3, .ref a4, .int 0, .ref a5, .ref a6, .int 0, .int 0, .null, .int 0, .int 0, .int 0, .int 0, .int 0, .int 0, .null, .int 0, .int 0, .null, .int 0, .int 0, .null, .long 0])), (a1, .inl (cI, 60, .inl (fun _ => 0))), (a2, .inl (cI, 72, .inl (fun _ => 0))), (a3, .inl (cI, 72, .inl (fun _ => 0))), (a4, .inl (cI, 144, .inl (fun _ => 0))), (a5, .inl (cI, 66, .inl (fun _ => 0))), (a6, .inl (cI, 66, .inl (fun _ => 0))), (a7, .inl (cI, 3, .inl (fun _ => 0)))]) rfl ?_
  refine gc_num (c2 := 7) (s2 := 483) rfl rfl ?_
  refine gc_putF C dX4_init_57 (v := .ref a7) (ws' := [(b, .inr (4, [.int 0, .ref a1, .int 0, .int 0, .ref a2, .int 0, .ref a3, .ref a4, .int 0, .ref a5, .ref a6, .int 0, .int 0, .ref a7, .int 0, .int 0, .int 0, .int 0, .int 0, .int 0, .null, .int 0, .int 0, .null, .int 0, .int 0, .null, .long 0])), (a1, .inl (cI, 60, .inl (fun _ => 0))), (a2, .inl (cI, 72, .inl (fun _ => 0))), (a3, .inl (cI, 72, .inl (fun _ => 0))), (a4, .inl (cI, 144, .inl (fun _ => 0))), (a5, .inl (cI, 66, .inl (fun _ => 0))), (a6, .inl (cI, 66, .inl (fun _ => 0))), (a7, .inl (cI, 3, .inl (fun _ => 0)))]) ⟨0, _, rfl, Nat.le_of_ble_eq_true rfl, rfl⟩ rfl inX4 tyX4_ok nmX4 (by decide) fl_X4_28 rfl hin rfl (ty := .array .int) (by decide +kernel) rfl rfl (n := 60) rfl ?_
  refine gc_aload_n C dX4_init_60 rfl 0 rfl (n := 61) rfl ?_
  refine gc_bipush C dX4_init_61 (v := (24 : Int32)) (by decide) (n := 63) rfl ?_
  refine gc_newI C dX4_init_63 (N := 24) (by decide) (by decide) (Nat.le_of_ble_eq_true rfl) (Nat.le_of_ble_eq_true rfl) (Nat.le_of_ble_eq_true rfl) (n := 65) rfl (fun a8 => ?_)
  refine gc_ws (ws' := [(b, .inr (4, [.int 0, .ref a1, .int 0, .int 0, .ref a2, .int 0, .ref a3, .ref a4, .int 0, .ref a5, .ref a6, .int 0, .int 0, .ref a7, .int 0, .int 0, .int 0, .int 0, .int 0, .int 0, .null, .int 0, .int 0, .null, .int 0, .int 0, .null, .long 0])), (a1, .inl (cI, 60, .inl (fun _ => 0))), (a2, .inl (cI, 72, .inl (fun _ => 0))), (a3, .inl (cI, 72, .inl (fun _ => 0))), (a4, .inl (cI, 144, .inl (fun _ => 0))), (a5, .inl (cI, 66, .inl (fun _ => 0))), (a6, .inl (cI, 66, .inl (fun _ => 0))), (a7, .inl (cI, 3, .inl (fun _ => 0))), (a8, .inl (cI, 24, .inl (fun _ => 0)))]) rfl ?_
  refine gc_num (c2 := 8) (s2 := 507) rfl rfl ?_
  refine gc_putF C dX4_init_65 (v := .ref a8) (ws' := [(b, .inr (4, [.int 0, .ref a1, .int 0, .int 0, .ref a2, .int 0, .ref a3, .ref a4, .int 0, .ref a5, .ref a6, .int 0, .int 0, .ref a7, .int 0, .int 0, .int 0, .int 0, .int 0, .int 0, .ref a8, .int 0, .int 0, .null, .int 0, .int 0, .null, .long 0])), (a1, .inl (cI, 60, .inl (fun _ => 0))), (a2, .inl (cI, 72, .inl (fun _ => 0))), (a3, .inl (cI, 72, .inl (fun _ => 0))), (a4, .inl (cI, 144, .inl (fun _ => 0))), (a5, .inl (cI, 66, .inl (fun _ => 0))), (a6, .inl (cI, 66, .inl (fun _ => 0))), (a7, .inl (cI, 3, .inl (fun _ => 0))), (a8, .inl (cI, 24, .inl (fun _ => 0)))]) ⟨0, _, rfl, Nat.le_of_ble_eq_true rfl, rfl⟩ rfl inX4 tyX4_ok nmX4 (by decide) fl_X4_31 rfl hin rfl (ty := .array .int) (by decide +kernel) rfl rfl (n := 68) rfl ?_
  refine gc_aload_n C dX4_init_68 rfl 0 rfl (n := 69) rfl ?_
  refine gc_sipush C dX4_init_69 (v := (144 : Int32)) (by decide) (n := 72) rfl ?_
  refine gc_newZ C dX4_init_72 (N := 144) (by decide) (by decide) (Nat.le_of_ble_eq_true rfl) (Nat.le_of_ble_eq_true rfl) (Nat.le_of_ble_eq_true rfl) (n := 74) rfl (fun a9 => ?_)
  refine gc_ws (ws' := [(b, .inr (4, [.int 0, .ref a1, .int 0, .int 0, .ref a2, .int 0, .ref a3, .ref a4, .int 0, .ref a5, .ref a6, .int 0, .int 0, .ref a7, .int 0, .int 0, .int 0, .int 0, .int 0, .int 0, .ref a8, .int 0, .int 0, .null, .int 0, .int 0, .null, .long 0])), (a1, .inl (cI, 60, .inl (fun _ => 0))), (a2, .inl (cI, 72, .inl (fun _ => 0))), (a3, .inl (cI, 72, .inl (fun _ => 0))), (a4, .inl (cI, 144, .inl (fun _ => 0))), (a5, .inl (cI, 66, .inl (fun _ => 0))), (a6, .inl (cI, 66, .inl (fun _ => 0))), (a7, .inl (cI, 3, .inl (fun _ => 0))), (a8, .inl (cI, 24, .inl (fun _ => 0))), (a9, .inl (cZ, 144, .inl (fun _ => 0)))]) rfl ?_
  refine gc_num (c2 := 9) (s2 := 651) rfl rfl ?_
  refine gc_putF C dX4_init_74 (v := .ref a9) (ws' := [(b, .inr (4, [.int 0, .ref a1, .int 0, .int 0, .ref a2, .int 0, .ref a3, .ref a4, .int 0, .ref a5, .ref a6, .int 0, .int 0, .ref a7, .int 0, .int 0, .int 0, .int 0, .int 0, .int 0, .ref a8, .int 0, .int 0, .ref a9, .int 0, .int 0, .null, .long 0])), (a1, .inl (cI, 60, .inl (fun _ => 0))), (a2, .inl (cI, 72, .inl (fun _ => 0))), (a3, .inl (cI, 72, .inl (fun _ => 0))), (a4, .inl (cI, 144, .inl (fun _ => 0))), (a5, .inl (cI, 66, .inl (fun _ => 0))), (a6, .inl (cI, 66, .inl (fun _ => 0))), (a7, .inl (cI, 3, .inl (fun _ => 0))), (a8, .inl (cI, 24, .inl (fun _ => 0))), (a9, .inl (cZ, 144, .inl (fun _ => 0)))]) ⟨0, _, rfl, Nat.le_of_ble_eq_true rfl, rfl⟩ rfl inX4 tyX4_ok nmX4 (by decide) fl_X4_34 rfl hin rfl (ty := .array .boolean) (by decide +kernel) rfl rfl (n := 77) rfl ?_
  refine gc_aload_n C dX4_init_77 rfl 0 rfl (n := 78) rfl ?_
  refine gc_bipush C dX4_init_78 (v := (66 : Int32)) (by decide) (n := 80) rfl ?_
  refine gc_newI C dX4_init_80 (N := 66) (by decide) (by decide) (Nat.le_of_ble_eq_true rfl) (Nat.le_of_ble_eq_true rfl) (Nat.le_of_ble_eq_true rfl) (n := 82) rfl (fun a10 => ?_)
  refine gc_ws (ws' := [(b, .inr (4, [.int 0, .ref a1, .int 0, .int 0, .ref a2, .int 0, .ref a3, .ref a4, .int 0, .ref a5, .ref a6, .int 0, .int 0, .ref a7, .int 0, .int 0, .int 0, .int 0, .int 0, .int 0, .ref a8, .int 0, .int 0, .ref a9, .int 0, .int 0, .null, .long 0])), (a1, .inl (cI, 60, .inl (fun _ => 0))), (a2, .inl (cI, 72, .inl (fun _ => 0))), (a3, .inl (cI, 72, .inl (fun _ => 0))), (a4, .inl (cI, 144, .inl (fun _ => 0))), (a5, .inl (cI, 66, .inl (fun _ => 0))), (a6, .inl (cI, 66, .inl (fun _ => 0))), (a7, .inl (cI, 3, .inl (fun _ => 0))), (a8, .inl (cI, 24, .inl (fun _ => 0))), (a9, .inl (cZ, 144, .inl (fun _ => 0))), (a10, .inl (cI, 66, .inl (fun _ => 0)))]) rfl ?_
  refine gc_num (c2 := 10) (s2 := 717) rfl rfl ?_
  refine gc_putF C dX4_init_82 (v := .ref a10) (ws' := [(b, .inr (4, [.int 0, .ref a1, .int 0, .int 0, .ref a2, .int 0, .ref a3, .ref a4, .int 0, .ref a5, .ref a6, .int 0, .int 0, .ref a7, .int 0, .int 0, .int 0, .int 0, .int 0, .int 0, .ref a8, .int 0, .int 0, .ref a9, .int 0, .int 0, .ref a10, .long 0])), (a1, .inl (cI, 60, .inl (fun _ => 0))), (a2, .inl (cI, 72, .inl (fun _ => 0))), (a3, .inl (cI, 72, .inl (fun _ => 0))), (a4, .inl (cI, 144, .inl (fun _ => 0))), (a5, .inl (cI, 66, .inl (fun _ => 0))), (a6, .inl (cI, 66, .inl (fun _ => 0))), (a7, .inl (cI, 3, .inl (fun _ => 0))), (a8, .inl (cI, 24, .inl (fun _ => 0))), (a9, .inl (cZ, 144, .inl (fun _ => 0))), (a10, .inl (cI, 66, .inl (fun _ => 0)))]) ⟨0, _, rfl, Nat.le_of_ble_eq_true rfl, rfl⟩ rfl inX4 tyX4_ok nmX4 (by decide) fl_X4_38 rfl hin rfl (ty := .array .int) (by decide +kernel) rfl rfl (n := 85) rfl ?_
  exact gc_vret C (F := (fun q => bx_mw (fun k => if k = 0 then b else q k) cI cZ (fun _ _ => 0, 0))) (fun k => if k = 1 then a1 else if k = 2 then a2 else if k = 3 then a3 else if k = 4 then a4 else if k = 5 then a5 else if k = 6 then a6 else if k = 7 then a7 else if k = 8 then a8 else if k = 9 then a9 else a10) rfl dX4_init_85
