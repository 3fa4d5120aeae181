/-- the two words of nest mates -/
def bx_NW (U : State) : Prop := va_Nw (.methodLinkNest RX1 47 yX3_holds "BoxFlickers") U ∧ va_Nw (.methodLinkNest RX1 72 yX3_bit "BoxFlickers") U
theorem bx_NW.warm {s U : State} (h : bx_NW s) (hW : s.WarmedH U.vm) : bx_NW U := ⟨va_Nw.warmM hW h.1, va_Nw.warmM hW h.2⟩
theorem bx_NW.same {s U : State} (h : bx_NW s) (hW : s.vm = U.vm) : bx_NW U := ⟨va_Nw.same rfl hW h.1, va_Nw.same rfl hW h.2⟩
abbrev bx_tys (cI cZ : ClassId) : List (ClassId × FieldType) := [(cI, .int), (cZ, .boolean)]
/-- the judgement, packed: from every heap that holds the world ws -/
def bx_Go (p : Program) (l : Launch) (e : Env) (R : Room) (s : State) (m : MethodId) (args : Array Value) (below : List Frame) (meth : Method) (c : Code) (nL : Nat) (A : Nat → Prop) (D : va_G) (Q : State → Prop) (ws : va_W) (pc : Nat) (lv : List (Nat × Value)) (st : List Value) : Prop :=
  ∀ (H : Heap) (locs : List Loc) (ls : Array Slot), va_P D vwCl ws H → va_D A ws → va_S A s.heap H locs → lv_has ls nL lv → W p l e R s m args below meth c H locs 0 0 Q (F0 m pc ls st)
/-- what holds in a method's body -/
def bx_Cx (p : Program) (s : State) (m : MethodId) (args : Array Value) (meth : Method) (c : Code) (nL : Nat) (A : Nat → Prop) (D : va_G) (cI cZ : ClassId) (own : String) (cc : ByteArray) (ret : Option FieldType) : Prop :=
  p.tables.exec = Jvm.exec ∧ c.code = cc ∧ c.maxLocals = nL ∧ s.vm.findClass own = some m.cls ∧ (∀ w ∈ bx_tbl, w.before args s = true) ∧ (va_K D vwCl (bx_tys cI cZ) s ∧ bx_NW s) ∧ (∀ q, s.heap.size ≤ q → A q) ∧ meth.sig.returnType = ret ∧ meth.locks = false
abbrev bx_rm (d : Nat) : Room := { frames := d, cells := 0, slots := 0, locals := 64 * d }
def bx_Q (r : Option Value) (ws' : va_W) (D : va_G) (A : Nat → Prop) : Array Value → State → Outcome → State → Prop := fun _ st oc t => (oc = .returned r ∧ va_P D vwCl ws' t.heap ∧ va_D A ws') ∧ va_F A st t
/-- a method's contract: from the world ws with the arguments As it returns r, in the world ws' -/
def bx_Mt (l : Launch) (D : va_G) (cI cZ : ClassId) (y : MethodName) (cc : ByteArray) (maxL : Nat) (ret : Option FieldType) (d : Nat) (As : List Value) (ws : va_W) (r : Option Value) (ws' : va_W) : Prop :=
  ∀ sz : Nat, Met l y (Cond.code y cc maxL ret :: bx_tbl) (bx_rm d) (va_Pc As (fun U => U.heap.size = sz ∧ va_P D vwCl ws U.heap ∧ (va_K D vwCl (bx_tys cI cZ) U ∧ bx_NW U) ∧ va_D (fun _ => True) ws)) (bx_Q r ws' D (va_A ws sz)) 0 0 (va_A ws sz)
def bx_HasF (ws : va_W) (a ci j : Nat) (v : Value) : Prop := ∃ (q0 : Nat) (fs : List Value), ws[q0]? = some (a, .inr (ci, fs)) ∧ fs[j]? = some v
def bx_PutF (ws : va_W) (a ci j : Nat) (v : Value) (ws' : va_W) : Prop := ∃ (q0 : Nat) (fs : List Value), ws[q0]? = some (a, .inr (ci, fs)) ∧ j < fs.length ∧ ws.set q0 (a, .inr (ci, fs.set j v)) = ws'
def bx_HasA (ws : va_W) (a : Nat) (cA : ClassId) (n : Nat) (f : Nat → Int32) : Prop := ∃ q0 : Nat, ws[q0]? = some (a, .inl (cA, n, .inl f))
def bx_PutA (ws : va_W) (a : Nat) (cA : ClassId) (n : Nat) (i : Int32) (x : Int32) (ws' : va_W) : Prop := ∃ (q0 : Nat) (f : Nat → Int32), ws[q0]? = some (a, .inl (cA, n, .inl f)) ∧ ws.set q0 (a, .inl (cA, n, .inl (upd f i.toNatClampNeg x))) = ws'
def bx_HasO (ws : va_W) (a ci : Nat) : Prop := ∃ (q0 : Nat) (fs : List Value), ws[q0]? = some (a, .inr (ci, fs))
theorem bx_p {α : Type} {a b r : α} {c : Prop} {d : Decidable c} (hc : c) (h : (@ite α c d a b) = r) : a = r := by rw [if_pos hc] at h; exact h
theorem bx_n {α : Type} {a b r : α} {c : Prop} {d : Decidable c} (hc : ¬ c) (h : (@ite α c d a b) = r) : b = r := by rw [if_neg hc] at h; exact h
theorem bx_g {α : Type} {a : Option α} {r : α} {c : Prop} {d : Decidable c} (h : (@ite (Option α) c d a none) = some r) : c ∧ a = some r := by
  by_cases hc : c
  · rw [if_pos hc] at h; exact ⟨hc, h⟩
  · rw [if_neg hc] at h; cases h
theorem bx_b {α β : Type} {a : Option α} {f : α → Option β} {r : β} (h : Option.bind a f = some r) : ∃ u, a = some u ∧ f u = some r := by
  cases a with
  | none => cases h
  | some u => exact ⟨u, rfl, h⟩
abbrev bx_ok (i : Int32) (n : Nat) : Prop := ¬ (i < 0 ∨ n ≤ i.toNatClampNeg)
abbrev bx_bo (x : Int32) : Prop := x = 0 ∨ x = 1
theorem bx_nb {x : Int32} (h : bx_bo x) : narrow .boolean (.int x) = .int x := by rcases h with rfl | rfl <;> rfl
theorem bx_fb {x : Int32} (h : bx_bo x) : fits .boolean (.int x) = true := by rcases h with rfl | rfl <;> rfl
section bxA
variable {p : Program} {l : Launch} {e : Env} {R : Room} {s : State} {m : MethodId} {args : Array Value} {below : List Frame} {meth : Method} {c : Code} {nL : Nat} {A : Nat → Prop} {D : va_G} {Q : State → Prop} {ws : va_W} {pc n : Nat} {lv : List (Nat × Value)} {st : List Value} {cI cZ : ClassId} {own : String} {cc : ByteArray} {ret : Option FieldType}
theorem go_iadd (C : bx_Cx p s m args meth c nL A D cI cZ own cc ret) {x y : Int32} (d : decode cc pc = .ok (.iadd, 1)) (hn : pc + 1 = n) (k : bx_Go p l e R s m args below meth c nL A D Q ws n lv (.int (x + y) :: st)) : bx_Go p l e R s m args below meth c nL A D Q ws pc lv (.int y :: .int x :: st) := fun H locs ls hP hD hS hl => by
  subst hn
  exact lv_iadd C.1 C.2.1 d (k H locs ls hP hD hS hl)
theorem go_isub (C : bx_Cx p s m args meth c nL A D cI cZ own cc ret) {x y : Int32} (d : decode cc pc = .ok (.isub, 1)) (hn : pc + 1 = n) (k : bx_Go p l e R s m args below meth c nL A D Q ws n lv (.int (x - y) :: st)) : bx_Go p l e R s m args below meth c nL A D Q ws pc lv (.int y :: .int x :: st) := fun H locs ls hP hD hS hl => by
  subst hn
  exact lv_isub C.1 C.2.1 d (k H locs ls hP hD hS hl)
theorem go_imul (C : bx_Cx p s m args meth c nL A D cI cZ own cc ret) {x y : Int32} (d : decode cc pc = .ok (.imul, 1)) (hn : pc + 1 = n) (k : bx_Go p l e R s m args below meth c nL A D Q ws n lv (.int (x * y) :: st)) : bx_Go p l e R s m args below meth c nL A D Q ws pc lv (.int y :: .int x :: st) := fun H locs ls hP hD hS hl => by
  subst hn
  exact lv_imul C.1 C.2.1 d (k H locs ls hP hD hS hl)
theorem go_iand (C : bx_Cx p s m args meth c nL A D cI cZ own cc ret) {x y : Int32} (d : decode cc pc = .ok (.iand, 1)) (hn : pc + 1 = n) (k : bx_Go p l e R s m args below meth c nL A D Q ws n lv (.int (x &&& y) :: st)) : bx_Go p l e R s m args below meth c nL A D Q ws pc lv (.int y :: .int x :: st) := fun H locs ls hP hD hS hl => by
  subst hn
  exact lv_iand C.1 C.2.1 d (k H locs ls hP hD hS hl)
theorem go_ior (C : bx_Cx p s m args meth c nL A D cI cZ own cc ret) {x y : Int32} (d : decode cc pc = .ok (.ior, 1)) (hn : pc + 1 = n) (k : bx_Go p l e R s m args below meth c nL A D Q ws n lv (.int (x ||| y) :: st)) : bx_Go p l e R s m args below meth c nL A D Q ws pc lv (.int y :: .int x :: st) := fun H locs ls hP hD hS hl => by
  subst hn
  exact lv_ior C.1 C.2.1 d (k H locs ls hP hD hS hl)
theorem go_ixor (C : bx_Cx p s m args meth c nL A D cI cZ own cc ret) {x y : Int32} (d : decode cc pc = .ok (.ixor, 1)) (hn : pc + 1 = n) (k : bx_Go p l e R s m args below meth c nL A D Q ws n lv (.int (x ^^^ y) :: st)) : bx_Go p l e R s m args below meth c nL A D Q ws pc lv (.int y :: .int x :: st) := fun H locs ls hP hD hS hl => by
  subst hn
  exact lv_ixor C.1 C.2.1 d (k H locs ls hP hD hS hl)
theorem go_ishl (C : bx_Cx p s m args meth c nL A D cI cZ own cc ret) {x y : Int32} (d : decode cc pc = .ok (.ishl, 1)) (hn : pc + 1 = n) (k : bx_Go p l e R s m args below meth c nL A D Q ws n lv (.int (x <<< (y &&& 31)) :: st)) : bx_Go p l e R s m args below meth c nL A D Q ws pc lv (.int y :: .int x :: st) := fun H locs ls hP hD hS hl => by
  subst hn
  exact lv_ishl C.1 C.2.1 d (k H locs ls hP hD hS hl)
theorem go_ishr (C : bx_Cx p s m args meth c nL A D cI cZ own cc ret) {x y : Int32} (d : decode cc pc = .ok (.ishr, 1)) (hn : pc + 1 = n) (k : bx_Go p l e R s m args below meth c nL A D Q ws n lv (.int (x >>> (y &&& 31)) :: st)) : bx_Go p l e R s m args below meth c nL A D Q ws pc lv (.int y :: .int x :: st) := fun H locs ls hP hD hS hl => by
  subst hn
  exact lv_ishr C.1 C.2.1 d (k H locs ls hP hD hS hl)
theorem go_iushr (C : bx_Cx p s m args meth c nL A D cI cZ own cc ret) {x y : Int32} (d : decode cc pc = .ok (.iushr, 1)) (hn : pc + 1 = n) (k : bx_Go p l e R s m args below meth c nL A D Q ws n lv (.int ((x.toUInt32 >>> (y.toUInt32 &&& Int32.toUInt32 31)).toInt32) :: st)) : bx_Go p l e R s m args below meth c nL A D Q ws pc lv (.int y :: .int x :: st) := fun H locs ls hP hD hS hl => by
  subst hn
  exact lv_iushr C.1 C.2.1 d rfl (k H locs ls hP hD hS hl)
theorem go_ineg (C : bx_Cx p s m args meth c nL A D cI cZ own cc ret) {x : Int32} (d : decode cc pc = .ok (.ineg, 1)) (hn : pc + 1 = n) (k : bx_Go p l e R s m args below meth c nL A D Q ws n lv (.int (-x) :: st)) : bx_Go p l e R s m args below meth c nL A D Q ws pc lv (.int x :: st) := fun H locs ls hP hD hS hl => by
  subst hn
  exact lv_ineg C.1 C.2.1 d (k H locs ls hP hD hS hl)
abbrev bx_rem (x y : Int32) : Int32 := x - x / y * y
theorem go_idiv (C : bx_Cx p s m args meth c nL A D cI cZ own cc ret) {x y : Int32} (d : decode cc pc = .ok (.idiv, 1)) (h0 : ¬ y = 0) (hn : pc + 1 = n) (k : bx_Go p l e R s m args below meth c nL A D Q ws n lv (.int (x / y) :: st)) : bx_Go p l e R s m args below meth c nL A D Q ws pc lv (.int y :: .int x :: st) := fun H locs ls hP hD hS hl => by
  subst hn
  exact lv_idiv C.1 C.2.1 d h0 (k H locs ls hP hD hS hl)
theorem go_irem (C : bx_Cx p s m args meth c nL A D cI cZ own cc ret) {x y : Int32} (d : decode cc pc = .ok (.irem, 1)) (h0 : ¬ y = 0) (hn : pc + 1 = n) (k : bx_Go p l e R s m args below meth c nL A D Q ws n lv (.int (bx_rem x y) :: st)) : bx_Go p l e R s m args below meth c nL A D Q ws pc lv (.int y :: .int x :: st) := fun H locs ls hP hD hS hl => by
  subst hn
  exact lv_irem C.1 C.2.1 d h0 (k H locs ls hP hD hS hl)
theorem go_ladd (C : bx_Cx p s m args meth c nL A D cI cZ own cc ret) {x y : Int64} (d : decode cc pc = .ok (.ladd, 1)) (hn : pc + 1 = n) (k : bx_Go p l e R s m args below meth c nL A D Q ws n lv (.long (x + y) :: st)) : bx_Go p l e R s m args below meth c nL A D Q ws pc lv (.long y :: .long x :: st) := fun H locs ls hP hD hS hl => by
  subst hn
  exact lv_ladd C.1 C.2.1 d (k H locs ls hP hD hS hl)
theorem go_lmul (C : bx_Cx p s m args meth c nL A D cI cZ own cc ret) {x y : Int64} (d : decode cc pc = .ok (.lmul, 1)) (hn : pc + 1 = n) (k : bx_Go p l e R s m args below meth c nL A D Q ws n lv (.long (x * y) :: st)) : bx_Go p l e R s m args below meth c nL A D Q ws pc lv (.long y :: .long x :: st) := fun H locs ls hP hD hS hl => by
  subst hn
  exact lv_lmul C.1 C.2.1 d (k H locs ls hP hD hS hl)
theorem go_i2l (C : bx_Cx p s m args meth c nL A D cI cZ own cc ret) {x : Int32} (d : decode cc pc = .ok (.i2l, 1)) (hn : pc + 1 = n) (k : bx_Go p l e R s m args below meth c nL A D Q ws n lv (.long x.toInt64 :: st)) : bx_Go p l e R s m args below meth c nL A D Q ws pc lv (.int x :: st) := fun H locs ls hP hD hS hl => by
  subst hn
  exact lv_i2l C.1 C.2.1 d rfl (k H locs ls hP hD hS hl)
theorem go_lcmp (C : bx_Cx p s m args meth c nL A D cI cZ own cc ret) {x y : Int64} (d : decode cc pc = .ok (.lcmp, 1)) (hn : pc + 1 = n) (k : bx_Go p l e R s m args below meth c nL A D Q ws n lv (.int (lg_cmp x y) :: st)) : bx_Go p l e R s m args below meth c nL A D Q ws pc lv (.long y :: .long x :: st) := fun H locs ls hP hD hS hl => by
  subst hn
  exact W.lcmp C.1 C.2.1 d (k H locs ls hP hD hS hl)
theorem go_iconst (C : bx_Cx p s m args meth c nL A D cI cZ own cc ret) {i : Int} {v : Int32} (d : decode cc pc = .ok (.iconst i, 1)) (hv : Int32.ofInt i = v) (hn : pc + 1 = n) (k : bx_Go p l e R s m args below meth c nL A D Q ws n lv (.int v :: st)) : bx_Go p l e R s m args below meth c nL A D Q ws pc lv st := fun H locs ls hP hD hS hl => by
  subst hn
  exact lv_iconst C.1 C.2.1 d hv (k H locs ls hP hD hS hl)
theorem go_bipush (C : bx_Cx p s m args meth c nL A D cI cZ own cc ret) {i : Int} {v : Int32} (d : decode cc pc = .ok (.bipush i, 2)) (hv : (Int8.ofInt i).toInt32 = v) (hn : pc + 2 = n) (k : bx_Go p l e R s m args below meth c nL A D Q ws n lv (.int v :: st)) : bx_Go p l e R s m args below meth c nL A D Q ws pc lv st := fun H locs ls hP hD hS hl => by
  subst hn
  exact lv_bipush C.1 C.2.1 d hv (k H locs ls hP hD hS hl)
theorem go_sipush (C : bx_Cx p s m args meth c nL A D cI cZ own cc ret) {i : Int} {v : Int32} (d : decode cc pc = .ok (.sipush i, 3)) (hv : (Int16.ofInt i).toInt32 = v) (hn : pc + 3 = n) (k : bx_Go p l e R s m args below meth c nL A D Q ws n lv (.int v :: st)) : bx_Go p l e R s m args below meth c nL A D Q ws pc lv st := fun H locs ls hP hD hS hl => by
  subst hn
  exact lv_sipush C.1 C.2.1 d hv (k H locs ls hP hD hS hl)
theorem go_ldc2 (C : bx_Cx p s m args meth c nL A D cI cZ own cc ret) {i : Nat} {v : Int64} (d : decode cc pc = .ok (.ldc2_w i, 3)) (hv : Cond.constantLong own i v ∈ bx_tbl) (hn : pc + 3 = n) (k : bx_Go p l e R s m args below meth c nL A D Q ws n lv (.long v :: st)) : bx_Go p l e R s m args below meth c nL A D Q ws pc lv st := fun H locs ls hP hD hS hl => by
  subst hn
  exact lv_ldc2 C.1 C.2.1 C.2.2.2.1 (C.2.2.2.2.1 _ hv) d (k H locs ls hP hD hS hl)
theorem go_ldcw (C : bx_Cx p s m args meth c nL A D cI cZ own cc ret) {i : Nat} {v : Int32} (d : decode cc pc = .ok (.ldc_w i, 3)) (hv : Cond.constant own i v ∈ bx_tbl) (hn : pc + 3 = n) (k : bx_Go p l e R s m args below meth c nL A D Q ws n lv (.int v :: st)) : bx_Go p l e R s m args below meth c nL A D Q ws pc lv st := fun H locs ls hP hD hS hl => by
  subst hn
  exact lv_ldcw C.1 C.2.1 C.2.2.2.1 (C.2.2.2.2.1 _ hv) d (k H locs ls hP hD hS hl)
theorem go_iload_n (C : bx_Cx p s m args meth c nL A D cI cZ own cc ret) {i : Nat} {f : Fin 4} {x : Int32} (d : decode cc pc = .ok (.iload_n f, 1)) (hi : (f : Nat) = i) (j : Nat) (hj : lv[j]? = some (i, .int x)) (hn : pc + 1 = n) (k : bx_Go p l e R s m args below meth c nL A D Q ws n lv (.int x :: st)) : bx_Go p l e R s m args below meth c nL A D Q ws pc lv st := fun H locs ls hP hD hS hl => by
  subst hn
  exact lv_iload_n C.1 C.2.1 d hi (lv_at hl j hj) (k H locs ls hP hD hS hl)
theorem go_iload (C : bx_Cx p s m args meth c nL A D cI cZ own cc ret) {i : Nat} {x : Int32} (d : decode cc pc = .ok (.iload i, 2)) (j : Nat) (hj : lv[j]? = some (i, .int x)) (hn : pc + 2 = n) (k : bx_Go p l e R s m args below meth c nL A D Q ws n lv (.int x :: st)) : bx_Go p l e R s m args below meth c nL A D Q ws pc lv st := fun H locs ls hP hD hS hl => by
  subst hn
  exact lv_iload C.1 C.2.1 d (lv_at hl j hj) (k H locs ls hP hD hS hl)
theorem go_lload_n (C : bx_Cx p s m args meth c nL A D cI cZ own cc ret) {i : Nat} {f : Fin 4} {x : Int64} (d : decode cc pc = .ok (.lload_n f, 1)) (hi : (f : Nat) = i) (j : Nat) (hj : lv[j]? = some (i, .long x)) (hn : pc + 1 = n) (k : bx_Go p l e R s m args below meth c nL A D Q ws n lv (.long x :: st)) : bx_Go p l e R s m args below meth c nL A D Q ws pc lv st := fun H locs ls hP hD hS hl => by
  subst hn
  exact lv_lload_n C.1 C.2.1 d hi (lv_at hl j hj) (k H locs ls hP hD hS hl)
theorem go_lload (C : bx_Cx p s m args meth c nL A D cI cZ own cc ret) {i : Nat} {x : Int64} (d : decode cc pc = .ok (.lload i, 2)) (j : Nat) (hj : lv[j]? = some (i, .long x)) (hn : pc + 2 = n) (k : bx_Go p l e R s m args below meth c nL A D Q ws n lv (.long x :: st)) : bx_Go p l e R s m args below meth c nL A D Q ws pc lv st := fun H locs ls hP hD hS hl => by
  subst hn
  exact lv_lload C.1 C.2.1 d (lv_at hl j hj) (k H locs ls hP hD hS hl)
theorem go_aload_n (C : bx_Cx p s m args meth c nL A D cI cZ own cc ret) {i : Nat} {f : Fin 4} {x : Nat} (d : decode cc pc = .ok (.aload_n f, 1)) (hi : (f : Nat) = i) (j : Nat) (hj : lv[j]? = some (i, .ref x)) (hn : pc + 1 = n) (k : bx_Go p l e R s m args below meth c nL A D Q ws n lv (.ref x :: st)) : bx_Go p l e R s m args below meth c nL A D Q ws pc lv st := fun H locs ls hP hD hS hl => by
  subst hn
  exact lv_aload_n C.1 C.2.1 d hi (lv_at hl j hj) (k H locs ls hP hD hS hl)
theorem go_aload (C : bx_Cx p s m args meth c nL A D cI cZ own cc ret) {i : Nat} {x : Nat} (d : decode cc pc = .ok (.aload i, 2)) (j : Nat) (hj : lv[j]? = some (i, .ref x)) (hn : pc + 2 = n) (k : bx_Go p l e R s m args below meth c nL A D Q ws n lv (.ref x :: st)) : bx_Go p l e R s m args below meth c nL A D Q ws pc lv st := fun H locs ls hP hD hS hl => by
  subst hn
  exact lv_aload C.1 C.2.1 d (lv_at hl j hj) (k H locs ls hP hD hS hl)
theorem go_istore_n (C : bx_Cx p s m args meth c nL A D cI cZ own cc ret) {i : Nat} {f : Fin 4} {x : Int32} {lv' : List (Nat × Value)} (d : decode cc pc = .ok (.istore_n f, 1)) (hi : (f : Nat) = i) (hb : i < nL) (hv : (i, Value.int x) :: lv.filter (fun q => !(q.1 == i) && !(q.1 + 1 == i && q.2.category == 2)) = lv') (hn : pc + 1 = n) (k : bx_Go p l e R s m args below meth c nL A D Q ws n lv' st) : bx_Go p l e R s m args below meth c nL A D Q ws pc lv (.int x :: st) := fun H locs ls hP hD hS hl => by
  subst hn
  exact lv_istore_n C.1 C.2.1 d hi hl hb hv (fun ls2 hl2 => k H locs ls2 hP hD hS hl2)
theorem go_istore (C : bx_Cx p s m args meth c nL A D cI cZ own cc ret) {i : Nat} {x : Int32} {lv' : List (Nat × Value)} (d : decode cc pc = .ok (.istore i, 2)) (hb : i < nL) (hv : (i, Value.int x) :: lv.filter (fun q => !(q.1 == i) && !(q.1 + 1 == i && q.2.category == 2)) = lv') (hn : pc + 2 = n) (k : bx_Go p l e R s m args below meth c nL A D Q ws n lv' st) : bx_Go p l e R s m args below meth c nL A D Q ws pc lv (.int x :: st) := fun H locs ls hP hD hS hl => by
  subst hn
  exact lv_istore C.1 C.2.1 d hl hb hv (fun ls2 hl2 => k H locs ls2 hP hD hS hl2)
theorem go_lstore_n (C : bx_Cx p s m args meth c nL A D cI cZ own cc ret) {i : Nat} {f : Fin 4} {x : Int64} {lv' : List (Nat × Value)} (d : decode cc pc = .ok (.lstore_n f, 1)) (hi : (f : Nat) = i) (hb : i + 1 < nL) (hv : (i, Value.long x) :: lv.filter (fun q => !(q.1 == i) && (!(q.1 == i + 1) && !(q.1 + 1 == i && q.2.category == 2))) = lv') (hn : pc + 1 = n) (k : bx_Go p l e R s m args below meth c nL A D Q ws n lv' st) : bx_Go p l e R s m args below meth c nL A D Q ws pc lv (.long x :: st) := fun H locs ls hP hD hS hl => by
  subst hn
  exact lv_lstore_n C.1 C.2.1 d hi hl hb hv (fun ls2 hl2 => k H locs ls2 hP hD hS hl2)
theorem go_lstore (C : bx_Cx p s m args meth c nL A D cI cZ own cc ret) {i : Nat} {x : Int64} {lv' : List (Nat × Value)} (d : decode cc pc = .ok (.lstore i, 2)) (hb : i + 1 < nL) (hv : (i, Value.long x) :: lv.filter (fun q => !(q.1 == i) && (!(q.1 == i + 1) && !(q.1 + 1 == i && q.2.category == 2))) = lv') (hn : pc + 2 = n) (k : bx_Go p l e R s m args below meth c nL A D Q ws n lv' st) : bx_Go p l e R s m args below meth c nL A D Q ws pc lv (.long x :: st) := fun H locs ls hP hD hS hl => by
  subst hn
  exact lv_lstore C.1 C.2.1 d hl hb hv (fun ls2 hl2 => k H locs ls2 hP hD hS hl2)
theorem go_astore_n (C : bx_Cx p s m args meth c nL A D cI cZ own cc ret) {i : Nat} {f : Fin 4} {x : Nat} {lv' : List (Nat × Value)} (d : decode cc pc = .ok (.astore_n f, 1)) (hi : (f : Nat) = i) (hb : i < nL) (hv : (i, Value.ref x) :: lv.filter (fun q => !(q.1 == i) && !(q.1 + 1 == i && q.2.category == 2)) = lv') (hn : pc + 1 = n) (k : bx_Go p l e R s m args below meth c nL A D Q ws n lv' st) : bx_Go p l e R s m args below meth c nL A D Q ws pc lv (.ref x :: st) := fun H locs ls hP hD hS hl => by
  subst hn
  exact lv_astore_n C.1 C.2.1 d hi hl hb hv (fun ls2 hl2 => k H locs ls2 hP hD hS hl2)
theorem go_astore (C : bx_Cx p s m args meth c nL A D cI cZ own cc ret) {i : Nat} {x : Nat} {lv' : List (Nat × Value)} (d : decode cc pc = .ok (.astore i, 2)) (hb : i < nL) (hv : (i, Value.ref x) :: lv.filter (fun q => !(q.1 == i) && !(q.1 + 1 == i && q.2.category == 2)) = lv') (hn : pc + 2 = n) (k : bx_Go p l e R s m args below meth c nL A D Q ws n lv' st) : bx_Go p l e R s m args below meth c nL A D Q ws pc lv (.ref x :: st) := fun H locs ls hP hD hS hl => by
  subst hn
  exact lv_astore C.1 C.2.1 d hl hb hv (fun ls2 hl2 => k H locs ls2 hP hD hS hl2)
theorem go_iinc (C : bx_Cx p s m args meth c nL A D cI cZ own cc ret) {i j : Nat} {g : Int} {x v : Int32} {lv' : List (Nat × Value)} (d : decode cc pc = .ok (.iinc i g, 3)) (hj : lv[j]? = some (i, .int x)) (hg : x + Int32.ofInt g = v) (hb : i < nL) (hv : (i, Value.int v) :: lv.filter (fun q => !(q.1 == i) && !(q.1 + 1 == i && q.2.category == 2)) = lv') (hn : pc + 3 = n) (k : bx_Go p l e R s m args below meth c nL A D Q ws n lv' st) : bx_Go p l e R s m args below meth c nL A D Q ws pc lv st := fun H locs ls hP hD hS hl => by
  subst hn
  exact lv_iinc C.1 C.2.1 d hl hj hg hb hv (fun ls2 hl2 => k H locs ls2 hP hD hS hl2)
theorem go_lv {lv' : List (Nat × Value)} (ks : List Nat) (h : lv_pick lv ks = lv') (k : bx_Go p l e R s m args below meth c nL A D Q ws pc lv' st) : bx_Go p l e R s m args below meth c nL A D Q ws pc lv st := fun H locs ls hP hD hS hl => k H locs ls hP hD hS (lv_sub hl ks h)
theorem go_ws {ws' : va_W} (h : ws = ws') (k : bx_Go p l e R s m args below meth c nL A D Q ws' pc lv st) : bx_Go p l e R s m args below meth c nL A D Q ws pc lv st := h ▸ k
theorem go_dup (C : bx_Cx p s m args meth c nL A D cI cZ own cc ret) {v : Value} (d : decode cc pc = .ok (.dup, 1)) (hc : v.category = 1) (hn : pc + 1 = n) (k : bx_Go p l e R s m args below meth c nL A D Q ws n lv (v :: v :: st)) : bx_Go p l e R s m args below meth c nL A D Q ws pc lv (v :: st) := fun H locs ls hP hD hS hl => by
  subst hn
  exact lv_dup C.1 C.2.1 d hc (k H locs ls hP hD hS hl)
theorem go_dup2_11 (C : bx_Cx p s m args meth c nL A D cI cZ own cc ret) {v w : Value} (d : decode cc pc = .ok (.dup2, 1)) (hc : v.category = 1) (hc2 : w.category = 1) (hn : pc + 1 = n) (k : bx_Go p l e R s m args below meth c nL A D Q ws n lv (v :: w :: v :: w :: st)) : bx_Go p l e R s m args below meth c nL A D Q ws pc lv (v :: w :: st) := fun H locs ls hP hD hS hl => by
  subst hn
  exact lv_dup2_11 C.1 C.2.1 d hc hc2 (k H locs ls hP hD hS hl)
theorem go_pop (C : bx_Cx p s m args meth c nL A D cI cZ own cc ret) {v : Value} (d : decode cc pc = .ok (.pop, 1)) (hc : v.category = 1) (hn : pc + 1 = n) (k : bx_Go p l e R s m args below meth c nL A D Q ws n lv st) : bx_Go p l e R s m args below meth c nL A D Q ws pc lv (v :: st) := fun H locs ls hP hD hS hl => by
  subst hn
  exact lv_pop C.1 C.2.1 d hc (k H locs ls hP hD hS hl)
theorem go_if_eq (C : bx_Cx p s m args meth c nL A D cI cZ own cc ret) {x : Int32} {off : Int} (t : Nat) (d : decode cc pc = .ok (.ifCond .eq off, 3)) (ht : (pc : Int) + off = (t : Int)) (hn : pc + 3 = n) (kt : x = 0 → bx_Go p l e R s m args below meth c nL A D Q ws t lv st) (kf : ¬ x = 0 → bx_Go p l e R s m args below meth c nL A D Q ws n lv st) : bx_Go p l e R s m args below meth c nL A D Q ws pc lv (.int x :: st) := fun H locs ls hP hD hS hl => by
  subst hn
  exact lv_if_eq C.1 C.2.1 d ht (fun h => kt h H locs ls hP hD hS hl) (fun h => kf h H locs ls hP hD hS hl)
theorem go_icmp_eq (C : bx_Cx p s m args meth c nL A D cI cZ own cc ret) {x y : Int32} {off : Int} (t : Nat) (d : decode cc pc = .ok (.if_icmp .eq off, 3)) (ht : (pc : Int) + off = (t : Int)) (hn : pc + 3 = n) (kt : x = y → bx_Go p l e R s m args below meth c nL A D Q ws t lv st) (kf : ¬ x = y → bx_Go p l e R s m args below meth c nL A D Q ws n lv st) : bx_Go p l e R s m args below meth c nL A D Q ws pc lv (.int y :: .int x :: st) := fun H locs ls hP hD hS hl => by
  subst hn
  exact lv_icmp_eq C.1 C.2.1 d ht (fun h => kt h H locs ls hP hD hS hl) (fun h => kf h H locs ls hP hD hS hl)
theorem go_if_ne (C : bx_Cx p s m args meth c nL A D cI cZ own cc ret) {x : Int32} {off : Int} (t : Nat) (d : decode cc pc = .ok (.ifCond .ne off, 3)) (ht : (pc : Int) + off = (t : Int)) (hn : pc + 3 = n) (kt : ¬ x = 0 → bx_Go p l e R s m args below meth c nL A D Q ws t lv st) (kf : x = 0 → bx_Go p l e R s m args below meth c nL A D Q ws n lv st) : bx_Go p l e R s m args below meth c nL A D Q ws pc lv (.int x :: st) := fun H locs ls hP hD hS hl => by
  subst hn
  exact lv_if_ne C.1 C.2.1 d ht (fun h => kt h H locs ls hP hD hS hl) (fun h => kf h H locs ls hP hD hS hl)
theorem go_icmp_ne (C : bx_Cx p s m args meth c nL A D cI cZ own cc ret) {x y : Int32} {off : Int} (t : Nat) (d : decode cc pc = .ok (.if_icmp .ne off, 3)) (ht : (pc : Int) + off = (t : Int)) (hn : pc + 3 = n) (kt : ¬ x = y → bx_Go p l e R s m args below meth c nL A D Q ws t lv st) (kf : x = y → bx_Go p l e R s m args below meth c nL A D Q ws n lv st) : bx_Go p l e R s m args below meth c nL A D Q ws pc lv (.int y :: .int x :: st) := fun H locs ls hP hD hS hl => by
  subst hn
  exact lv_icmp_ne C.1 C.2.1 d ht (fun h => kt h H locs ls hP hD hS hl) (fun h => kf h H locs ls hP hD hS hl)
theorem go_if_lt (C : bx_Cx p s m args meth c nL A D cI cZ own cc ret) {x : Int32} {off : Int} (t : Nat) (d : decode cc pc = .ok (.ifCond .lt off, 3)) (ht : (pc : Int) + off = (t : Int)) (hn : pc + 3 = n) (kt : x < 0 → bx_Go p l e R s m args below meth c nL A D Q ws t lv st) (kf : ¬ x < 0 → bx_Go p l e R s m args below meth c nL A D Q ws n lv st) : bx_Go p l e R s m args below meth c nL A D Q ws pc lv (.int x :: st) := fun H locs ls hP hD hS hl => by
  subst hn
  exact lv_if_lt C.1 C.2.1 d ht (fun h => kt h H locs ls hP hD hS hl) (fun h => kf h H locs ls hP hD hS hl)
theorem go_icmp_lt (C : bx_Cx p s m args meth c nL A D cI cZ own cc ret) {x y : Int32} {off : Int} (t : Nat) (d : decode cc pc = .ok (.if_icmp .lt off, 3)) (ht : (pc : Int) + off = (t : Int)) (hn : pc + 3 = n) (kt : x < y → bx_Go p l e R s m args below meth c nL A D Q ws t lv st) (kf : ¬ x < y → bx_Go p l e R s m args below meth c nL A D Q ws n lv st) : bx_Go p l e R s m args below meth c nL A D Q ws pc lv (.int y :: .int x :: st) := fun H locs ls hP hD hS hl => by
  subst hn
  exact lv_icmp_lt C.1 C.2.1 d ht (fun h => kt h H locs ls hP hD hS hl) (fun h => kf h H locs ls hP hD hS hl)
theorem go_if_ge (C : bx_Cx p s m args meth c nL A D cI cZ own cc ret) {x : Int32} {off : Int} (t : Nat) (d : decode cc pc = .ok (.ifCond .ge off, 3)) (ht : (pc : Int) + off = (t : Int)) (hn : pc + 3 = n) (kt : 0 ≤ x → bx_Go p l e R s m args below meth c nL A D Q ws t lv st) (kf : ¬ 0 ≤ x → bx_Go p l e R s m args below meth c nL A D Q ws n lv st) : bx_Go p l e R s m args below meth c nL A D Q ws pc lv (.int x :: st) := fun H locs ls hP hD hS hl => by
  subst hn
  exact lv_if_ge C.1 C.2.1 d ht (fun h => kt h H locs ls hP hD hS hl) (fun h => kf h H locs ls hP hD hS hl)
theorem go_icmp_ge (C : bx_Cx p s m args meth c nL A D cI cZ own cc ret) {x y : Int32} {off : Int} (t : Nat) (d : decode cc pc = .ok (.if_icmp .ge off, 3)) (ht : (pc : Int) + off = (t : Int)) (hn : pc + 3 = n) (kt : y ≤ x → bx_Go p l e R s m args below meth c nL A D Q ws t lv st) (kf : ¬ y ≤ x → bx_Go p l e R s m args below meth c nL A D Q ws n lv st) : bx_Go p l e R s m args below meth c nL A D Q ws pc lv (.int y :: .int x :: st) := fun H locs ls hP hD hS hl => by
  subst hn
  exact lv_icmp_ge C.1 C.2.1 d ht (fun h => kt h H locs ls hP hD hS hl) (fun h => kf h H locs ls hP hD hS hl)
theorem go_if_gt (C : bx_Cx p s m args meth c nL A D cI cZ own cc ret) {x : Int32} {off : Int} (t : Nat) (d : decode cc pc = .ok (.ifCond .gt off, 3)) (ht : (pc : Int) + off = (t : Int)) (hn : pc + 3 = n) (kt : 0 < x → bx_Go p l e R s m args below meth c nL A D Q ws t lv st) (kf : ¬ 0 < x → bx_Go p l e R s m args below meth c nL A D Q ws n lv st) : bx_Go p l e R s m args below meth c nL A D Q ws pc lv (.int x :: st) := fun H locs ls hP hD hS hl => by
  subst hn
  exact lv_if_gt C.1 C.2.1 d ht (fun h => kt h H locs ls hP hD hS hl) (fun h => kf h H locs ls hP hD hS hl)
theorem go_icmp_gt (C : bx_Cx p s m args meth c nL A D cI cZ own cc ret) {x y : Int32} {off : Int} (t : Nat) (d : decode cc pc = .ok (.if_icmp .gt off, 3)) (ht : (pc : Int) + off = (t : Int)) (hn : pc + 3 = n) (kt : y < x → bx_Go p l e R s m args below meth c nL A D Q ws t lv st) (kf : ¬ y < x → bx_Go p l e R s m args below meth c nL A D Q ws n lv st) : bx_Go p l e R s m args below meth c nL A D Q ws pc lv (.int y :: .int x :: st) := fun H locs ls hP hD hS hl => by
  subst hn
  exact lv_icmp_gt C.1 C.2.1 d ht (fun h => kt h H locs ls hP hD hS hl) (fun h => kf h H locs ls hP hD hS hl)
theorem go_if_le (C : bx_Cx p s m args meth c nL A D cI cZ own cc ret) {x : Int32} {off : Int} (t : Nat) (d : decode cc pc = .ok (.ifCond .le off, 3)) (ht : (pc : Int) + off = (t : Int)) (hn : pc + 3 = n) (kt : x ≤ 0 → bx_Go p l e R s m args below meth c nL A D Q ws t lv st) (kf : ¬ x ≤ 0 → bx_Go p l e R s m args below meth c nL A D Q ws n lv st) : bx_Go p l e R s m args below meth c nL A D Q ws pc lv (.int x :: st) := fun H locs ls hP hD hS hl => by
  subst hn
  exact lv_if_le C.1 C.2.1 d ht (fun h => kt h H locs ls hP hD hS hl) (fun h => kf h H locs ls hP hD hS hl)
theorem go_icmp_le (C : bx_Cx p s m args meth c nL A D cI cZ own cc ret) {x y : Int32} {off : Int} (t : Nat) (d : decode cc pc = .ok (.if_icmp .le off, 3)) (ht : (pc : Int) + off = (t : Int)) (hn : pc + 3 = n) (kt : x ≤ y → bx_Go p l e R s m args below meth c nL A D Q ws t lv st) (kf : ¬ x ≤ y → bx_Go p l e R s m args below meth c nL A D Q ws n lv st) : bx_Go p l e R s m args below meth c nL A D Q ws pc lv (.int y :: .int x :: st) := fun H locs ls hP hD hS hl => by
  subst hn
  exact lv_icmp_le C.1 C.2.1 d ht (fun h => kt h H locs ls hP hD hS hl) (fun h => kf h H locs ls hP hD hS hl)
theorem go_goto (C : bx_Cx p s m args meth c nL A D cI cZ own cc ret) {off : Int} (t : Nat) (d : decode cc pc = .ok (.goto off, 3)) (ht : (pc : Int) + off = (t : Int)) (k : bx_Go p l e R s m args below meth c nL A D Q ws t lv st) : bx_Go p l e R s m args below meth c nL A D Q ws pc lv st := fun H locs ls hP hD hS hl => lv_goto C.1 C.2.1 d ht (k H locs ls hP hD hS hl)
theorem go_tableIn (C : bx_Cx p s m args meth c nL A D cI cZ own cc ret) {dflt lo hi : Int} {offs : Array Int} {len : Nat} {x : Int32} {off : Int} (t : Nat) (d : decode cc pc = .ok (.tableswitch dflt lo hi offs, len)) (h1 : ¬ x.toInt < lo) (h2 : ¬ hi < x.toInt) (ho : offs[(x.toInt - lo).toNat]? = some off) (ht : (pc : Int) + off = (t : Int)) (k : bx_Go p l e R s m args below meth c nL A D Q ws t lv st) : bx_Go p l e R s m args below meth c nL A D Q ws pc lv (.int x :: st) := fun H locs ls hP hD hS hl => lv_tableIn C.1 C.2.1 d h1 h2 ho ht (k H locs ls hP hD hS hl)
theorem go_tableOut (C : bx_Cx p s m args meth c nL A D cI cZ own cc ret) {dflt lo hi : Int} {offs : Array Int} {len : Nat} {x : Int32} (t : Nat) (d : decode cc pc = .ok (.tableswitch dflt lo hi offs, len)) (h : x.toInt < lo ∨ hi < x.toInt) (ht : (pc : Int) + dflt = (t : Int)) (k : bx_Go p l e R s m args below meth c nL A D Q ws t lv st) : bx_Go p l e R s m args below meth c nL A D Q ws pc lv (.int x :: st) := fun H locs ls hP hD hS hl => lv_tableOut C.1 C.2.1 d h ht (k H locs ls hP hD hS hl)
theorem go_lookup (C : bx_Cx p s m args meth c nL A D cI cZ own cc ret) {dflt : Int} {ps : Array (Int × Int)} {len : Nat} {x : Int32} {off : Int} (t : Nat) (d : decode cc pc = .ok (.lookupswitch dflt ps, len)) (hp : (ps.toList.zip (ps.toList.drop 1)).all (fun (a, next) => a.1 < next.1) = true) (ho : Op.lookupswitch.offset ps.toList dflt x.toInt = off) (ht : (pc : Int) + off = (t : Int)) (k : bx_Go p l e R s m args below meth c nL A D Q ws t lv st) : bx_Go p l e R s m args below meth c nL A D Q ws pc lv (.int x :: st) := fun H locs ls hP hD hS hl => lv_lookup C.1 C.2.1 d hp ho ht (k H locs ls hP hD hS hl)
theorem go_get (C : bx_Cx p s m args meth c nL A D cI cZ own cc ret) {a ci j idx N : Nat} {v : Value} {Cn : String} {T : u_T} (d : decode cc pc = .ok (.getfield idx, 3)) (hF : bx_HasF ws a ci j v) (hc : vwCl[ci]? = some (Cn, T, N)) (hin : ∀ w ∈ u_ws Cn T N, w ∈ bx_tbl) (hk : j < N) (hlink : Cond.fieldLink own idx (T j).1 (T j).2.1 (T j).2.2.1 ∈ bx_tbl) (hn : pc + 3 = n) (k : bx_Go p l e R s m args below meth c nL A D Q ws n lv (v :: st)) : bx_Go p l e R s m args below meth c nL A D Q ws pc lv (.ref a :: st) := fun H locs ls hP hD hS hl => by
  subst hn
  obtain ⟨q0, fs, h1, h2⟩ := hF
  exact va_get C.1 C.2.1 C.2.2.2.2.1 hin C.2.2.2.1 C.2.2.2.2.2.1.1 hP q0 h1 hc j hk (C.2.2.2.2.1 _ hlink) (fun _ h => h) h2 d (k H locs ls hP hD hS hl)
theorem go_put (C : bx_Cx p s m args meth c nL A D cI cZ own cc ret) {a ci j idx N : Nat} {v : Value} {Cn : String} {T : u_T} {ty0 : Nat → FieldType} {ty : FieldType} {ws' : va_W} (d : decode cc pc = .ok (.putfield idx, 3)) (hF : bx_PutF ws a ci j v ws') (hc : vwCl[ci]? = some (Cn, T, N)) (hin : ∀ w ∈ u_ws Cn T N, w ∈ bx_tbl) (hty : ∀ k, k < N → parseFieldDescriptor (T k).2.2.1 = some (ty0 k)) (hnm : ∀ a, a < N → ∀ b, b < N → a ≠ b → (T a).2.1 ≠ (T b).2.1) (hk : j < N) (hlink : Cond.fieldLink own idx (T j).1 (T j).2.1 (T j).2.2.1 ∈ bx_tbl) (hfin : (T j).2.2.2 = false) (hd : parseFieldDescriptor (T j).2.2.1 = some ty) (hw : narrow ty v = v) (hfit : fits ty v = true) (hn : pc + 3 = n) (k : bx_Go p l e R s m args below meth c nL A D Q ws' n lv st) : bx_Go p l e R s m args below meth c nL A D Q ws pc lv (v :: .ref a :: st) := fun H locs ls hP hD hS hl => by
  subst hn
  obtain ⟨q0, fs, h1, h2, h3⟩ := hF
  exact va_put C.1 C.2.1 C.2.2.2.2.1 hin ty0 hty hnm C.2.2.2.1 C.2.2.2.2.2.1.1 hP hD hS q0 h1 hc j hk (C.2.2.2.2.1 _ hlink) (fun _ h => h) hfin hd hw hfit h2 d (fun H1 locs1 hP1 hD1 hS1 => k H1 locs1 ls (h3 ▸ hP1) (h3 ▸ hD1) hS1 hl)
theorem go_iald (C : bx_Cx p s m args meth c nL A D cI cZ own cc ret) {a N : Nat} {f : Nat → Int32} {i : Int32} (d : decode cc pc = .ok (.iaload, 1)) (hA : bx_HasA ws a cI N f) (hi : bx_ok i N) (hn : pc + 1 = n) (k : bx_Go p l e R s m args below meth c nL A D Q ws n lv (.int (f i.toNatClampNeg) :: st)) : bx_Go p l e R s m args below meth c nL A D Q ws pc lv (.int i :: .ref a :: st) := fun H locs ls hP hD hS hl => by
  subst hn
  obtain ⟨q0, h1⟩ := hA
  exact va_iald C.1 C.2.1 C.2.2.2.2.2.1.1 hP q0 0 h1 rfl hi d (k H locs ls hP hD hS hl)
theorem go_zald (C : bx_Cx p s m args meth c nL A D cI cZ own cc ret) {a N : Nat} {f : Nat → Int32} {i : Int32} (d : decode cc pc = .ok (.baload, 1)) (hA : bx_HasA ws a cZ N f) (hi : bx_ok i N) (hn : pc + 1 = n) (k : bx_Go p l e R s m args below meth c nL A D Q ws n lv (.int (f i.toNatClampNeg) :: st)) : bx_Go p l e R s m args below meth c nL A D Q ws pc lv (.int i :: .ref a :: st) := fun H locs ls hP hD hS hl => by
  subst hn
  obtain ⟨q0, h1⟩ := hA
  exact va_zald C.1 C.2.1 C.2.2.2.2.2.1.1 hP q0 1 h1 rfl hi d (k H locs ls hP hD hS hl)
theorem go_iast (C : bx_Cx p s m args meth c nL A D cI cZ own cc ret) {a N : Nat} {i x : Int32} {ws' : va_W} (d : decode cc pc = .ok (.iastore, 1)) (hA : bx_PutA ws a cI N i x ws') (hi : bx_ok i N) (hn : pc + 1 = n) (k : bx_Go p l e R s m args below meth c nL A D Q ws' n lv st) : bx_Go p l e R s m args below meth c nL A D Q ws pc lv (.int x :: .int i :: .ref a :: st) := fun H locs ls hP hD hS hl => by
  subst hn
  obtain ⟨q0, f, h1, h3⟩ := hA
  exact va_iast C.1 C.2.1 C.2.2.2.2.2.1.1 hP hD hS q0 0 h1 rfl hi d (fun H1 locs1 hP1 hD1 hS1 => k H1 locs1 ls (h3 ▸ hP1) (h3 ▸ hD1) hS1 hl)
theorem go_zast (C : bx_Cx p s m args meth c nL A D cI cZ own cc ret) {a N : Nat} {i x : Int32} {ws' : va_W} (d : decode cc pc = .ok (.bastore, 1)) (hA : bx_PutA ws a cZ N i (vp_nar .boolean x) ws') (hi : bx_ok i N) (hn : pc + 1 = n) (k : bx_Go p l e R s m args below meth c nL A D Q ws' n lv st) : bx_Go p l e R s m args below meth c nL A D Q ws pc lv (.int x :: .int i :: .ref a :: st) := fun H locs ls hP hD hS hl => by
  subst hn
  obtain ⟨q0, f, h1, h3⟩ := hA
  exact va_zast C.1 C.2.1 C.2.2.2.2.2.1.1 hP hD hS q0 1 h1 rfl hi d (fun H1 locs1 hP1 hD1 hS1 => k H1 locs1 ls (h3 ▸ hP1) (h3 ▸ hD1) hS1 hl)
end bxA
section bxB
variable {p : Program} {l : Launch} {e : Env} {R : Room} {s : State} {m : MethodId} {args : Array Value} {below : List Frame} {meth : Method} {c : Code} {nL : Nat} {A : Nat → Prop} {D : va_G} {ws : va_W} {pc n : Nat} {lv : List (Nat × Value)} {cI cZ : ClassId} {own : String} {cc : ByteArray} {ret : Option FieldType}
theorem bx_qq {H : Heap} {locs : List Loc} {r : Option Value} (hP : va_P D vwCl ws H) (hD : va_D A ws) (hS : va_S A s.heap H locs) : ∀ t : State, t.heap = H → s.WarmedH t.vm → bx_Q r ws D A args s (.returned r) t := fun t ht _ => ⟨⟨rfl, by rw [ht]; exact hP, hD⟩, hS.F ht⟩
theorem go_iret (C : bx_Cx p s m args meth c nL A D cI cZ own cc (some .int)) {v : Int32} (d : decode cc pc = .ok (.ireturn, 1)) : bx_Go p l e R s m args below meth c nL A D (MQ below (bx_Q (some (.int v)) ws D A) args s 0 0 A) ws pc lv [.int v] := fun H locs ls hP hD hS hl => W.iret C.1 C.2.1 C.2.2.2.2.2.2.2.1 (bx_qq hP hD hS) hS.2.2 d C.2.2.2.2.2.2.2.2
theorem go_zret (C : bx_Cx p s m args meth c nL A D cI cZ own cc (some .boolean)) {v : Int32} (d : decode cc pc = .ok (.ireturn, 1)) (hb : bx_bo v) : bx_Go p l e R s m args below meth c nL A D (MQ below (bx_Q (some (.int v)) ws D A) args s 0 0 A) ws pc lv [.int v] := fun H locs ls hP hD hS hl => W.zret C.1 C.2.1 C.2.2.2.2.2.2.2.1 (bx_nb hb) (bx_qq hP hD hS) hS.2.2 d C.2.2.2.2.2.2.2.2
theorem go_lret (C : bx_Cx p s m args meth c nL A D cI cZ own cc (some .long)) {v : Int64} (d : decode cc pc = .ok (.lreturn, 1)) : bx_Go p l e R s m args below meth c nL A D (MQ below (bx_Q (some (.long v)) ws D A) args s 0 0 A) ws pc lv [.long v] := fun H locs ls hP hD hS hl => W.lret C.1 C.2.1 C.2.2.2.2.2.2.2.1 (bx_qq hP hD hS) hS.2.2 d C.2.2.2.2.2.2.2.2
theorem go_vret (C : bx_Cx p s m args meth c nL A D cI cZ own cc none) (d : decode cc pc = .ok (.return_, 1)) : bx_Go p l e R s m args below meth c nL A D (MQ below (bx_Q none ws D A) args s 0 0 A) ws pc lv [] := fun H locs ls hP hD hS hl => W.vret C.1 C.2.1 C.2.2.2.2.2.2.2.1 (bx_qq hP hD hS) hS.2.2 d C.2.2.2.2.2.2.2.2
theorem go_aret {nm : String} (C : bx_Cx p s m args meth c nL A D cI cZ own cc (some (.object nm))) {a : Nat} (d : decode cc pc = .ok (.areturn, 1)) : bx_Go p l e R s m args below meth c nL A D (MQ below (bx_Q (some (.ref a)) ws D A) args s 0 0 A) ws pc lv [.ref a] := fun H locs ls hP hD hS hl => W.aret C.1 C.2.1 C.2.2.2.2.2.2.2.1 (Or.inl ⟨nm, rfl⟩) (Or.inr ⟨a, rfl⟩) (bx_qq hP hD hS) hS.2.2 d C.2.2.2.2.2.2.2.2
end bxB
/-- a contract out of its body's walk -/
theorem bx_mk {l : Launch} {D : va_G} {cI cZ : ClassId} {y : MethodName} {cc : ByteArray} {maxL : Nat} {ret : Option FieldType} {d : Nat} {As : List Value} {lv : List (Nat × Value)} {ws ws' : va_W} {r : Option Value} (hy : plainName y.cls = true) (hl : (lg_sl As).length ≤ maxL) (hlv : lv_args 0 As = lv)
    (body : ∀ (p : Program) (e : Env) (s : State) (m : MethodId) (args : Array Value) (below : List Frame) (meth : Method) (c : Code) (A : Nat → Prop), bx_Cx p s m args meth c maxL A D cI cZ y.cls cc ret → bx_Go p l e (bx_rm d) s m args below meth c maxL A D (MQ below (bx_Q r ws' D A) args s 0 0 A) ws 0 lv []) : bx_Mt l D cI cZ y cc maxL ret d As ws r ws' := by
  intro sz
  refine Met.ofW (cc := cc) (maxL := maxL) (ret := ret) hy rfl ?_
  intro p e s m args below meth c s₁ B hml hv
  obtain ⟨rfl, hsz, hP, hK, hD0⟩ := hv
  have hts := atoms_spec (ws := Cond.code y cc maxL ret :: bx_tbl) B.pre
  have hown : s.vm.findClass y.cls = some m.cls := findClass_of_methodNamed B.named
  subst hsz
  subst hlv
  have hent := lv_entry As hl
  rw [lg_entry_eq]
  exact body p e s m As.toArray below meth c (va_A ws s.heap.size) ⟨B.exec, B.bytes, hml, hown, fun w hw => hts w (List.mem_cons_of_mem _ hw), hK, fun q h => Or.inr h, B.returns, B.notSynchronized⟩ s.heap [] _ hP (hD0.self (sz := s.heap.size)) va_S.rf hent
/-- behind a call, whatever it answers -/
theorem bx_callg {p : Program} {l : Launch} {e : Env} {R : Room} {s : State} {m : MethodId} {args : Array Value} {below : List Frame} {meth : Method} {c : Code} {H : Heap} {locs : List Loc} {cells slots : Nat} {Q : State → Prop} {pc : Nat} {ls : Array Slot} {rest st0 : List Value} {a : Array Value} {A0 A1 : Nat → Prop} {H0 : Heap} {free : Addr → Prop} {D : va_G} {ws' : va_W} {r : Option Value} (hr : va_Run p l e R s m args below meth c H locs cells slots 0 0 (F0 m pc ls st0) rest (bx_Q r ws' D A1 a) free) (hS : va_S A0 H0 H locs) (hA : ∀ q, q < H.size → A1 q → A0 q) (hf : ∀ q, free q → A0 q)
    (kk : ∀ (H1 : Heap) (locs1 : List Loc), va_P D vwCl ws' H1 → va_D A1 ws' → H.size ≤ H1.size → (∀ q : Nat, q < H.size → ¬ A1 q → H1[q]? = H[q]?) → va_S A0 H0 H1 locs1 → W p l e R s m args below meth c H1 locs1 cells slots Q (F0 m (pc + 3) ls (r.toList ++ rest))) : W p l e R s m args below meth c H locs cells slots Q (F0 m pc ls st0) := by
  intro T hT X
  obtain ⟨v, st₀, t, T', L, h0, X', hL, e1, e2, ⟨⟨hv, hp, hd⟩, hz, hk⟩, st⟩ := hr T hT X
  cases hv
  rw [h0] at hz hk
  obtain ⟨t2, a1, b1⟩ := kk T'.heap (locs ++ L) (by rw [e1]; exact hp) hd (by rw [e1]; exact hz) (fun q h1 h2 => by rw [e1]; exact hk q h1 h2)
    ⟨Nat.le_trans hS.1 (by rw [e1]; exact hz), fun q h1 h2 => by rw [e1, hk q (Nat.lt_of_lt_of_le h1 hS.1) (fun z => h2 (hA q (Nat.lt_of_lt_of_le h1 hS.1) z))]; exact hS.2.1 q h1 h2, fun q hq => by
      rcases List.mem_append.mp hq with h | h
      · exact hS.2.2 q h
      · exact hf _ (hL q h)⟩ T' rfl X'
  exact ⟨t2, st t2 a1, b1⟩
theorem bx_blind {As : List Value} {sz : Nat} {D : va_G} {ws : va_W} {cI cZ : ClassId} : FrameBlind (va_Pc As (fun U => U.heap.size = sz ∧ va_P D vwCl ws U.heap ∧ (va_K D vwCl (bx_tys cI cZ) U ∧ bx_NW U) ∧ va_D (fun _ => True) ws)) := by
  intro a U g mk q
  obtain ⟨q0, q1, qP, qK, qD⟩ := q
  exact ⟨q0, q1, qP, ⟨va_K.moved (u := U) (U := U.calling g mk a) (Vm.Alike.refl U.vm) qK.1, qK.2.same rfl⟩, qD⟩
theorem bx_gi (y : MethodName) (cc : ByteArray) (maxL : Nat) (ret : Option FieldType) (h : Cond.code y cc maxL ret ∈ bx_tbl) : GoodIn bx_tbl (Cond.code y cc maxL ret :: bx_tbl) := by
  intro w hw
  rcases List.mem_cons.mp hw with rfl | h2
  · exact ⟨h, bx_good _ h⟩
  · exact ⟨h2, bx_good _ h2⟩
section bxC
variable {p : Program} {l : Launch} {e : Env} {s : State} {m : MethodId} {args : Array Value} {below : List Frame} {meth : Method} {c : Code} {nL : Nat} {A : Nat → Prop} {D : va_G} {Q : State → Prop} {ws ws' : va_W} {pc n d d' idx nA : Nat} {lv : List (Nat × Value)} {st0 rest As : List Value} {cI cZ : ClassId} {own : String} {cc cc' : ByteArray} {ret ret' : Option FieldType} {y : MethodName} {maxL : Nat} {r : Option Value} {b : Nat}
theorem go_callV (C : bx_Cx p s m args meth c nL A D cI cZ own cc ret) (dc : decode cc pc = .ok (.invokevirtual idx, 3)) (M : bx_MW y cc' maxL ret' nA) (hl : Cond.methodLink own idx y ∈ bx_tbl) (hM : bx_Mt l D cI cZ y cc' maxL ret' d' (.ref b :: As) ws r ws') {ci N : Nat} {T : u_T} (ho : bx_HasO ws b ci) (hc : vwCl[ci]? = some (y.cls, T, N)) (hd : d' < d) (hlen : As.length = nA) (hst : st0 = As.reverse ++ .ref b :: rest) (hW : (rest.map fun v => v.category).sum ≤ 8) (hn : pc + 3 = n)
    (k : bx_Go p l e (bx_rm d) s m args below meth c nL A D Q ws' n lv (r.toList ++ rest)) : bx_Go p l e (bx_rm d) s m args below meth c nL A D Q ws pc lv st0 := fun H locs ls hP hD hS hlv => by
  subst hn
  subst hst
  obtain ⟨hx, hb, hml, hown, hts, hK, hA, -, -⟩ := C
  obtain ⟨m1, m2, m3, m4, m5, m6⟩ := M
  have hF : ∀ q, va_A ws H.size q → A q := by
    intro q h
    rcases h with ⟨k, e, h⟩ | h
    · exact hD.2 k (q, e) h
    · exact hA q (Nat.le_trans hS.1 h)
  obtain ⟨q0, fs, ho⟩ := ho
  refine bx_callg (va_runV (As := As) (rest := rest) (C := y.cls) (nL := nL) ⟨hx, hb, hml, hown, hts⟩ (hM H.size) ⟨callB_of nA hts (bx_gi _ _ _ _ m1) rfl rfl rfl (hts _ m4) (hts _ hl) m5 ⟨by show d' + 1 ≤ d; omega, by show 8 + (maxL + 11) + 64 * d' ≤ 64 * d; omega⟩, hts _ m2, hts _ m3⟩ ⟨bx_blind, va_recv hK.1 hP hc ho, fun U hU hW2 => ⟨rfl, by rw [hU], by rw [hU]; exact hP, ⟨va_K.moved hW2.alike hK.1, hK.2.warm hW2⟩, hD.weaken (fun _ _ _ _ => trivial)⟩⟩ rfl hlen hlv.1 rfl (lv_room hW) dc ⟨Nat.le_refl _, Nat.le_refl _⟩) hS (fun q _ h => hF q h) hF (fun H1 locs1 hP1 hD1 hz hk hS1 => ?_)
  exact k H1 locs1 ls hP1 (hD1.weaken (fun k q _ h => hF q.1 h)) hS1 hlv
theorem go_callS (C : bx_Cx p s m args meth c nL A D cI cZ own cc ret) (dc : decode cc pc = .ok (.invokestatic idx, 3)) (M : bx_SW y cc' maxL ret' nA) (hl : Cond.methodLink own idx y ∈ bx_tbl) (hM : bx_Mt l D cI cZ y cc' maxL ret' d' As ws r ws') (hd : d' < d) (hlen : As.length = nA) (hst : st0 = As.reverse ++ rest) (hW : (rest.map fun v => v.category).sum ≤ 8) (hn : pc + 3 = n)
    (k : bx_Go p l e (bx_rm d) s m args below meth c nL A D Q ws' n lv (r.toList ++ rest)) : bx_Go p l e (bx_rm d) s m args below meth c nL A D Q ws pc lv st0 := fun H locs ls hP hD hS hlv => by
  subst hn
  subst hst
  obtain ⟨hx, hb, hml, hown, hts, hK, hA, -, -⟩ := C
  obtain ⟨m1, m2, m4, m5, m6⟩ := M
  have hF : ∀ q, va_A ws H.size q → A q := by
    intro q h
    rcases h with ⟨k, e, h⟩ | h
    · exact hD.2 k (q, e) h
    · exact hA q (Nat.le_trans hS.1 h)
  refine bx_callg (va_runS (As := As) (rest := rest) (nL := nL) ⟨hx, hb, hml, hown, hts⟩ (hM H.size) ⟨callB_of nA hts (bx_gi _ _ _ _ m1) rfl rfl rfl (hts _ m4) (hts _ hl) m5 ⟨by show d' + 1 ≤ d; omega, by show 8 + (maxL + 11) + 64 * d' ≤ 64 * d; omega⟩, hts _ m2⟩ ⟨bx_blind, fun U hU hW2 => ⟨rfl, by rw [hU], by rw [hU]; exact hP, ⟨va_K.moved hW2.alike hK.1, hK.2.warm hW2⟩, hD.weaken (fun _ _ _ _ => trivial)⟩⟩ rfl hlen hlv.1 rfl (lv_room hW) dc ⟨Nat.le_refl _, Nat.le_refl _⟩) hS (fun q _ h => hF q h) hF (fun H1 locs1 hP1 hD1 hz hk hS1 => ?_)
  exact k H1 locs1 ls hP1 (hD1.weaken (fun k q _ h => hF q.1 h)) hS1 hlv
/-- a nest mate's static method -/
theorem go_callN (C : bx_Cx p s m args meth c nL A D cI cZ own cc ret) (dc : decode cc pc = .ok (.invokestatic idx, 3)) (M : bx_SW y cc' maxL ret' nA) (hl : bx_NW s → va_Nw (.methodLinkNest own idx y "BoxFlickers") s) (hM : bx_Mt l D cI cZ y cc' maxL ret' d' As ws r ws') (hd : d' < d) (hlen : As.length = nA) (hst : st0 = As.reverse ++ rest) (hW : (rest.map fun v => v.category).sum ≤ 8) (hn : pc + 3 = n)
    (k : bx_Go p l e (bx_rm d) s m args below meth c nL A D Q ws' n lv (r.toList ++ rest)) : bx_Go p l e (bx_rm d) s m args below meth c nL A D Q ws pc lv st0 := fun H locs ls hP hD hS hlv => by
  subst hn
  subst hst
  obtain ⟨hx, hb, hml, hown, hts, hK, hA, -, -⟩ := C
  obtain ⟨m1, m2, m4, m5, m6⟩ := M
  have hF : ∀ q, va_A ws H.size q → A q := by
    intro q h
    rcases h with ⟨k, e, h⟩ | h
    · exact hD.2 k (q, e) h
    · exact hA q (Nat.le_trans hS.1 h)
  refine bx_callg (va_runSN (As := As) (rest := rest) (nL := nL) (host := "BoxFlickers") ⟨hx, hb, hml, hown, hts⟩ (hM H.size) ⟨va_cnB nA hts (bx_gi _ _ _ _ m1) rfl rfl rfl (hl hK.2) (hts _ m4) m5 ⟨by show d' + 1 ≤ d; omega, by show 8 + (maxL + 11) + 64 * d' ≤ 64 * d; omega⟩, hts _ m2, trivial⟩ ⟨bx_blind, fun U hU hW2 => ⟨rfl, by rw [hU], by rw [hU]; exact hP, ⟨va_K.moved hW2.alike hK.1, hK.2.warm hW2⟩, hD.weaken (fun _ _ _ _ => trivial)⟩⟩ rfl hlen hlv.1 rfl (lv_room hW) dc ⟨Nat.le_refl _, Nat.le_refl _⟩) hS (fun q _ h => hF q h) hF (fun H1 locs1 hP1 hD1 hz hk hS1 => ?_)
  exact k H1 locs1 ls hP1 (hD1.weaken (fun k q _ h => hF q.1 h)) hS1 hlv
end bxC
/-! the pure states -/
abbrev bx_St : Type := (Nat → Nat → Int32) × Int64
def bx_up (σ : bx_St) (k i : Nat) (v : Int32) : bx_St := (fun k' => if k' = k then upd (σ.1 k) i v else σ.1 k', σ.2)
abbrev bx_line (q : Nat → Nat) (cI : ClassId) (σ : bx_St) (k : Nat) : va_W := [(q k, .inr (1, [.ref (q (k + 1)), .ref (q (k + 2)), .ref (q (k + 3)), .ref (q (k + 4)), .int (σ.1 k 4), .int (σ.1 k 5)])), (q (k + 1), .inl (cI, 12, .inl (σ.1 (k + 1)))), (q (k + 2), .inl (cI, 12, .inl (σ.1 (k + 2)))), (q (k + 3), .inl (cI, 24, .inl (σ.1 (k + 3)))), (q (k + 4), .inl (cI, 12, .inl (σ.1 (k + 4))))]
/-- the world of a BoxFlickers: cells 0 to 22 -/
def bx_xw (q : Nat → Nat) (cI : ClassId) (σ : bx_St) : va_W := [(q 0, .inr (3, [.ref (q 2), .ref (q 8), .ref (q 13), .ref (q 18), .ref (q 5), .ref (q 1), .int (σ.1 0 6), .int (σ.1 0 7)])), (q 1, .inl (cI, 12, .inl (σ.1 1))), (q 2, .inr (2, [.ref (q 3), .int (σ.1 2 1), .ref (q 4), .int (σ.1 2 3), .int (σ.1 2 4), .int (σ.1 2 5), .int (σ.1 2 6)])), (q 3, .inl (cI, 60, .inl (σ.1 3))), (q 4, .inl (cI, 24, .inl (σ.1 4))), (q 5, .inr (0, [.ref (q 6), .ref (q 7), .int (σ.1 5 2), .int (σ.1 5 3), .int (σ.1 5 4), .int (σ.1 5 5), .int (σ.1 5 6), .int (σ.1 5 7), .int (σ.1 5 8), .int (σ.1 5 9), .int (σ.1 5 10)])), (q 6, .inl (cI, 66, .inl (σ.1 6))), (q 7, .inl (cI, 3, .inl (σ.1 7)))] ++ (bx_line q cI σ 8 ++ (bx_line q cI σ 13 ++ bx_line q cI σ 18))
def bx_isL (k : Nat) : Prop := k = 8 ∨ k = 13 ∨ k = 18
theorem xo3 (q : Nat → Nat) (cI : ClassId) (σ : bx_St) : bx_HasO (bx_xw q cI σ) (q 0) 3 := ⟨0, _, rfl⟩
theorem xf3_0 (q : Nat → Nat) (cI : ClassId) (σ : bx_St) : bx_HasF (bx_xw q cI σ) (q 0) 3 0 (.ref (q 2)) := ⟨0, _, rfl, rfl⟩
theorem xf3_1 (q : Nat → Nat) (cI : ClassId) (σ : bx_St) : bx_HasF (bx_xw q cI σ) (q 0) 3 1 (.ref (q 8)) := ⟨0, _, rfl, rfl⟩
theorem xf3_2 (q : Nat → Nat) (cI : ClassId) (σ : bx_St) : bx_HasF (bx_xw q cI σ) (q 0) 3 2 (.ref (q 13)) := ⟨0, _, rfl, rfl⟩
theorem xf3_3 (q : Nat → Nat) (cI : ClassId) (σ : bx_St) : bx_HasF (bx_xw q cI σ) (q 0) 3 3 (.ref (q 18)) := ⟨0, _, rfl, rfl⟩
theorem xf3_4 (q : Nat → Nat) (cI : ClassId) (σ : bx_St) : bx_HasF (bx_xw q cI σ) (q 0) 3 4 (.ref (q 5)) := ⟨0, _, rfl, rfl⟩
theorem xf3_5 (q : Nat → Nat) (cI : ClassId) (σ : bx_St) : bx_HasF (bx_xw q cI σ) (q 0) 3 5 (.ref (q 1)) := ⟨0, _, rfl, rfl⟩
theorem xf3_6 (q : Nat → Nat) (cI : ClassId) (σ : bx_St) : bx_HasF (bx_xw q cI σ) (q 0) 3 6 (.int (σ.1 0 6)) := ⟨0, _, rfl, rfl⟩
theorem xp3_6 (q : Nat → Nat) (cI : ClassId) (σ : bx_St) (v : Int32) : bx_PutF (bx_xw q cI σ) (q 0) 3 6 (.int v) (bx_xw q cI (bx_up σ 0 6 v)) := ⟨0, _, rfl, Nat.le_of_ble_eq_true rfl, rfl⟩
theorem xf3_7 (q : Nat → Nat) (cI : ClassId) (σ : bx_St) : bx_HasF (bx_xw q cI σ) (q 0) 3 7 (.int (σ.1 0 7)) := ⟨0, _, rfl, rfl⟩
theorem xp3_7 (q : Nat → Nat) (cI : ClassId) (σ : bx_St) (v : Int32) : bx_PutF (bx_xw q cI σ) (q 0) 3 7 (.int v) (bx_xw q cI (bx_up σ 0 7 v)) := ⟨0, _, rfl, Nat.le_of_ble_eq_true rfl, rfl⟩
theorem xo2 (q : Nat → Nat) (cI : ClassId) (σ : bx_St) : bx_HasO (bx_xw q cI σ) (q 2) 2 := ⟨2, _, rfl⟩
theorem xf2_0 (q : Nat → Nat) (cI : ClassId) (σ : bx_St) : bx_HasF (bx_xw q cI σ) (q 2) 2 0 (.ref (q 3)) := ⟨2, _, rfl, rfl⟩
theorem xf2_1 (q : Nat → Nat) (cI : ClassId) (σ : bx_St) : bx_HasF (bx_xw q cI σ) (q 2) 2 1 (.int (σ.1 2 1)) := ⟨2, _, rfl, rfl⟩
theorem xp2_1 (q : Nat → Nat) (cI : ClassId) (σ : bx_St) (v : Int32) : bx_PutF (bx_xw q cI σ) (q 2) 2 1 (.int v) (bx_xw q cI (bx_up σ 2 1 v)) := ⟨2, _, rfl, Nat.le_of_ble_eq_true rfl, rfl⟩
theorem xf2_2 (q : Nat → Nat) (cI : ClassId) (σ : bx_St) : bx_HasF (bx_xw q cI σ) (q 2) 2 2 (.ref (q 4)) := ⟨2, _, rfl, rfl⟩
theorem xf2_3 (q : Nat → Nat) (cI : ClassId) (σ : bx_St) : bx_HasF (bx_xw q cI σ) (q 2) 2 3 (.int (σ.1 2 3)) := ⟨2, _, rfl, rfl⟩
theorem xp2_3 (q : Nat → Nat) (cI : ClassId) (σ : bx_St) (v : Int32) : bx_PutF (bx_xw q cI σ) (q 2) 2 3 (.int v) (bx_xw q cI (bx_up σ 2 3 v)) := ⟨2, _, rfl, Nat.le_of_ble_eq_true rfl, rfl⟩
theorem xf2_4 (q : Nat → Nat) (cI : ClassId) (σ : bx_St) : bx_HasF (bx_xw q cI σ) (q 2) 2 4 (.int (σ.1 2 4)) := ⟨2, _, rfl, rfl⟩
theorem xp2_4 (q : Nat → Nat) (cI : ClassId) (σ : bx_St) (v : Int32) : bx_PutF (bx_xw q cI σ) (q 2) 2 4 (.int v) (bx_xw q cI (bx_up σ 2 4 v)) := ⟨2, _, rfl, Nat.le_of_ble_eq_true rfl, rfl⟩
theorem xf2_5 (q : Nat → Nat) (cI : ClassId) (σ : bx_St) : bx_HasF (bx_xw q cI σ) (q 2) 2 5 (.int (σ.1 2 5)) := ⟨2, _, rfl, rfl⟩
theorem xp2_5 (q : Nat → Nat) (cI : ClassId) (σ : bx_St) (v : Int32) : bx_PutF (bx_xw q cI σ) (q 2) 2 5 (.int v) (bx_xw q cI (bx_up σ 2 5 v)) := ⟨2, _, rfl, Nat.le_of_ble_eq_true rfl, rfl⟩
theorem xf2_6 (q : Nat → Nat) (cI : ClassId) (σ : bx_St) : bx_HasF (bx_xw q cI σ) (q 2) 2 6 (.int (σ.1 2 6)) := ⟨2, _, rfl, rfl⟩
theorem xp2_6 (q : Nat → Nat) (cI : ClassId) (σ : bx_St) (v : Int32) : bx_PutF (bx_xw q cI σ) (q 2) 2 6 (.int v) (bx_xw q cI (bx_up σ 2 6 v)) := ⟨2, _, rfl, Nat.le_of_ble_eq_true rfl, rfl⟩
theorem xo0 (q : Nat → Nat) (cI : ClassId) (σ : bx_St) : bx_HasO (bx_xw q cI σ) (q 5) 0 := ⟨5, _, rfl⟩
theorem xf0_0 (q : Nat → Nat) (cI : ClassId) (σ : bx_St) : bx_HasF (bx_xw q cI σ) (q 5) 0 0 (.ref (q 6)) := ⟨5, _, rfl, rfl⟩
theorem xf0_1 (q : Nat → Nat) (cI : ClassId) (σ : bx_St) : bx_HasF (bx_xw q cI σ) (q 5) 0 1 (.ref (q 7)) := ⟨5, _, rfl, rfl⟩
theorem xf0_2 (q : Nat → Nat) (cI : ClassId) (σ : bx_St) : bx_HasF (bx_xw q cI σ) (q 5) 0 2 (.int (σ.1 5 2)) := ⟨5, _, rfl, rfl⟩
theorem xp0_2 (q : Nat → Nat) (cI : ClassId) (σ : bx_St) (v : Int32) : bx_PutF (bx_xw q cI σ) (q 5) 0 2 (.int v) (bx_xw q cI (bx_up σ 5 2 v)) := ⟨5, _, rfl, Nat.le_of_ble_eq_true rfl, rfl⟩
theorem xf0_3 (q : Nat → Nat) (cI : ClassId) (σ : bx_St) : bx_HasF (bx_xw q cI σ) (q 5) 0 3 (.int (σ.1 5 3)) := ⟨5, _, rfl, rfl⟩
theorem xp0_3 (q : Nat → Nat) (cI : ClassId) (σ : bx_St) (v : Int32) : bx_PutF (bx_xw q cI σ) (q 5) 0 3 (.int v) (bx_xw q cI (bx_up σ 5 3 v)) := ⟨5, _, rfl, Nat.le_of_ble_eq_true rfl, rfl⟩
theorem xf0_4 (q : Nat → Nat) (cI : ClassId) (σ : bx_St) : bx_HasF (bx_xw q cI σ) (q 5) 0 4 (.int (σ.1 5 4)) := ⟨5, _, rfl, rfl⟩
theorem xp0_4 (q : Nat → Nat) (cI : ClassId) (σ : bx_St) (v : Int32) : bx_PutF (bx_xw q cI σ) (q 5) 0 4 (.int v) (bx_xw q cI (bx_up σ 5 4 v)) := ⟨5, _, rfl, Nat.le_of_ble_eq_true rfl, rfl⟩
theorem xf0_5 (q : Nat → Nat) (cI : ClassId) (σ : bx_St) : bx_HasF (bx_xw q cI σ) (q 5) 0 5 (.int (σ.1 5 5)) := ⟨5, _, rfl, rfl⟩
theorem xp0_5 (q : Nat → Nat) (cI : ClassId) (σ : bx_St) (v : Int32) : bx_PutF (bx_xw q cI σ) (q 5) 0 5 (.int v) (bx_xw q cI (bx_up σ 5 5 v)) := ⟨5, _, rfl, Nat.le_of_ble_eq_true rfl, rfl⟩
theorem xf0_6 (q : Nat → Nat) (cI : ClassId) (σ : bx_St) : bx_HasF (bx_xw q cI σ) (q 5) 0 6 (.int (σ.1 5 6)) := ⟨5, _, rfl, rfl⟩
theorem xp0_6 (q : Nat → Nat) (cI : ClassId) (σ : bx_St) (v : Int32) : bx_PutF (bx_xw q cI σ) (q 5) 0 6 (.int v) (bx_xw q cI (bx_up σ 5 6 v)) := ⟨5, _, rfl, Nat.le_of_ble_eq_true rfl, rfl⟩
theorem xf0_7 (q : Nat → Nat) (cI : ClassId) (σ : bx_St) : bx_HasF (bx_xw q cI σ) (q 5) 0 7 (.int (σ.1 5 7)) := ⟨5, _, rfl, rfl⟩
theorem xp0_7 (q : Nat → Nat) (cI : ClassId) (σ : bx_St) (v : Int32) : bx_PutF (bx_xw q cI σ) (q 5) 0 7 (.int v) (bx_xw q cI (bx_up σ 5 7 v)) := ⟨5, _, rfl, Nat.le_of_ble_eq_true rfl, rfl⟩
theorem xf0_8 (q : Nat → Nat) (cI : ClassId) (σ : bx_St) : bx_HasF (bx_xw q cI σ) (q 5) 0 8 (.int (σ.1 5 8)) := ⟨5, _, rfl, rfl⟩
theorem xp0_8 (q : Nat → Nat) (cI : ClassId) (σ : bx_St) (v : Int32) : bx_PutF (bx_xw q cI σ) (q 5) 0 8 (.int v) (bx_xw q cI (bx_up σ 5 8 v)) := ⟨5, _, rfl, Nat.le_of_ble_eq_true rfl, rfl⟩
theorem xf0_9 (q : Nat → Nat) (cI : ClassId) (σ : bx_St) : bx_HasF (bx_xw q cI σ) (q 5) 0 9 (.int (σ.1 5 9)) := ⟨5, _, rfl, rfl⟩
theorem xp0_9 (q : Nat → Nat) (cI : ClassId) (σ : bx_St) (v : Int32) : bx_PutF (bx_xw q cI σ) (q 5) 0 9 (.int v) (bx_xw q cI (bx_up σ 5 9 v)) := ⟨5, _, rfl, Nat.le_of_ble_eq_true rfl, rfl⟩
theorem xf0_10 (q : Nat → Nat) (cI : ClassId) (σ : bx_St) : bx_HasF (bx_xw q cI σ) (q 5) 0 10 (.int (σ.1 5 10)) := ⟨5, _, rfl, rfl⟩
theorem xp0_10 (q : Nat → Nat) (cI : ClassId) (σ : bx_St) (v : Int32) : bx_PutF (bx_xw q cI σ) (q 5) 0 10 (.int v) (bx_xw q cI (bx_up σ 5 10 v)) := ⟨5, _, rfl, Nat.le_of_ble_eq_true rfl, rfl⟩
theorem xo1 (q : Nat → Nat) (cI : ClassId) (σ : bx_St) {k : Nat} (h : bx_isL k) : bx_HasO (bx_xw q cI σ) (q k) 1 := ⟨k, [.ref (q (k + 1)), .ref (q (k + 2)), .ref (q (k + 3)), .ref (q (k + 4)), .int (σ.1 k 4), .int (σ.1 k 5)], by rcases h with rfl | rfl | rfl <;> rfl⟩
theorem xf1_0 (q : Nat → Nat) (cI : ClassId) (σ : bx_St) {k : Nat} (h : bx_isL k) : bx_HasF (bx_xw q cI σ) (q k) 1 0 (.ref (q (k + 1))) := ⟨k, [.ref (q (k + 1)), .ref (q (k + 2)), .ref (q (k + 3)), .ref (q (k + 4)), .int (σ.1 k 4), .int (σ.1 k 5)], by rcases h with rfl | rfl | rfl <;> rfl, rfl⟩
theorem xf1_1 (q : Nat → Nat) (cI : ClassId) (σ : bx_St) {k : Nat} (h : bx_isL k) : bx_HasF (bx_xw q cI σ) (q k) 1 1 (.ref (q (k + 2))) := ⟨k, [.ref (q (k + 1)), .ref (q (k + 2)), .ref (q (k + 3)), .ref (q (k + 4)), .int (σ.1 k 4), .int (σ.1 k 5)], by rcases h with rfl | rfl | rfl <;> rfl, rfl⟩
theorem xf1_2 (q : Nat → Nat) (cI : ClassId) (σ : bx_St) {k : Nat} (h : bx_isL k) : bx_HasF (bx_xw q cI σ) (q k) 1 2 (.ref (q (k + 3))) := ⟨k, [.ref (q (k + 1)), .ref (q (k + 2)), .ref (q (k + 3)), .ref (q (k + 4)), .int (σ.1 k 4), .int (σ.1 k 5)], by rcases h with rfl | rfl | rfl <;> rfl, rfl⟩
theorem xf1_3 (q : Nat → Nat) (cI : ClassId) (σ : bx_St) {k : Nat} (h : bx_isL k) : bx_HasF (bx_xw q cI σ) (q k) 1 3 (.ref (q (k + 4))) := ⟨k, [.ref (q (k + 1)), .ref (q (k + 2)), .ref (q (k + 3)), .ref (q (k + 4)), .int (σ.1 k 4), .int (σ.1 k 5)], by rcases h with rfl | rfl | rfl <;> rfl, rfl⟩
theorem xf1_4 (q : Nat → Nat) (cI : ClassId) (σ : bx_St) {k : Nat} (h : bx_isL k) : bx_HasF (bx_xw q cI σ) (q k) 1 4 (.int (σ.1 k 4)) := ⟨k, [.ref (q (k + 1)), .ref (q (k + 2)), .ref (q (k + 3)), .ref (q (k + 4)), .int (σ.1 k 4), .int (σ.1 k 5)], by rcases h with rfl | rfl | rfl <;> rfl, rfl⟩
theorem xp1_4 (q : Nat → Nat) (cI : ClassId) (σ : bx_St) {k : Nat} (h : bx_isL k) (v : Int32) : bx_PutF (bx_xw q cI σ) (q k) 1 4 (.int v) (bx_xw q cI (bx_up σ k 4 v)) := ⟨k, [.ref (q (k + 1)), .ref (q (k + 2)), .ref (q (k + 3)), .ref (q (k + 4)), .int (σ.1 k 4), .int (σ.1 k 5)], by rcases h with rfl | rfl | rfl <;> rfl, Nat.le_of_ble_eq_true rfl, by rcases h with rfl | rfl | rfl <;> rfl⟩
theorem xf1_5 (q : Nat → Nat) (cI : ClassId) (σ : bx_St) {k : Nat} (h : bx_isL k) : bx_HasF (bx_xw q cI σ) (q k) 1 5 (.int (σ.1 k 5)) := ⟨k, [.ref (q (k + 1)), .ref (q (k + 2)), .ref (q (k + 3)), .ref (q (k + 4)), .int (σ.1 k 4), .int (σ.1 k 5)], by rcases h with rfl | rfl | rfl <;> rfl, rfl⟩
theorem xp1_5 (q : Nat → Nat) (cI : ClassId) (σ : bx_St) {k : Nat} (h : bx_isL k) (v : Int32) : bx_PutF (bx_xw q cI σ) (q k) 1 5 (.int v) (bx_xw q cI (bx_up σ k 5 v)) := ⟨k, [.ref (q (k + 1)), .ref (q (k + 2)), .ref (q (k + 3)), .ref (q (k + 4)), .int (σ.1 k 4), .int (σ.1 k 5)], by rcases h with rfl | rfl | rfl <;> rfl, Nat.le_of_ble_eq_true rfl, by rcases h with rfl | rfl | rfl <;> rfl⟩
theorem xa_1 (q : Nat → Nat) (cI : ClassId) (σ : bx_St) : bx_HasA (bx_xw q cI σ) (q 1) cI 12 (σ.1 1) := ⟨1, rfl⟩
theorem xu_1 (q : Nat → Nat) (cI : ClassId) (σ : bx_St) (i v : Int32) : bx_PutA (bx_xw q cI σ) (q 1) cI 12 i v (bx_xw q cI (bx_up σ 1 i.toNatClampNeg v)) := ⟨1, σ.1 1, rfl, rfl⟩
theorem xa_3 (q : Nat → Nat) (cI : ClassId) (σ : bx_St) : bx_HasA (bx_xw q cI σ) (q 3) cI 60 (σ.1 3) := ⟨3, rfl⟩
theorem xu_3 (q : Nat → Nat) (cI : ClassId) (σ : bx_St) (i v : Int32) : bx_PutA (bx_xw q cI σ) (q 3) cI 60 i v (bx_xw q cI (bx_up σ 3 i.toNatClampNeg v)) := ⟨3, σ.1 3, rfl, rfl⟩
theorem xa_4 (q : Nat → Nat) (cI : ClassId) (σ : bx_St) : bx_HasA (bx_xw q cI σ) (q 4) cI 24 (σ.1 4) := ⟨4, rfl⟩
theorem xu_4 (q : Nat → Nat) (cI : ClassId) (σ : bx_St) (i v : Int32) : bx_PutA (bx_xw q cI σ) (q 4) cI 24 i v (bx_xw q cI (bx_up σ 4 i.toNatClampNeg v)) := ⟨4, σ.1 4, rfl, rfl⟩
theorem xa_6 (q : Nat → Nat) (cI : ClassId) (σ : bx_St) : bx_HasA (bx_xw q cI σ) (q 6) cI 66 (σ.1 6) := ⟨6, rfl⟩
theorem xu_6 (q : Nat → Nat) (cI : ClassId) (σ : bx_St) (i v : Int32) : bx_PutA (bx_xw q cI σ) (q 6) cI 66 i v (bx_xw q cI (bx_up σ 6 i.toNatClampNeg v)) := ⟨6, σ.1 6, rfl, rfl⟩
theorem xa_7 (q : Nat → Nat) (cI : ClassId) (σ : bx_St) : bx_HasA (bx_xw q cI σ) (q 7) cI 3 (σ.1 7) := ⟨7, rfl⟩
theorem xu_7 (q : Nat → Nat) (cI : ClassId) (σ : bx_St) (i v : Int32) : bx_PutA (bx_xw q cI σ) (q 7) cI 3 i v (bx_xw q cI (bx_up σ 7 i.toNatClampNeg v)) := ⟨7, σ.1 7, rfl, rfl⟩
theorem xal_1 (q : Nat → Nat) (cI : ClassId) (σ : bx_St) {k : Nat} (h : bx_isL k) : bx_HasA (bx_xw q cI σ) (q (k + 1)) cI 12 (σ.1 (k + 1)) := ⟨k + 1, by rcases h with rfl | rfl | rfl <;> rfl⟩
theorem xul_1 (q : Nat → Nat) (cI : ClassId) (σ : bx_St) {k : Nat} (h : bx_isL k) (i v : Int32) : bx_PutA (bx_xw q cI σ) (q (k + 1)) cI 12 i v (bx_xw q cI (bx_up σ (k + 1) i.toNatClampNeg v)) := ⟨k + 1, σ.1 (k + 1), by rcases h with rfl | rfl | rfl <;> rfl, by rcases h with rfl | rfl | rfl <;> rfl⟩
theorem xal_2 (q : Nat → Nat) (cI : ClassId) (σ : bx_St) {k : Nat} (h : bx_isL k) : bx_HasA (bx_xw q cI σ) (q (k + 2)) cI 12 (σ.1 (k + 2)) := ⟨k + 2, by rcases h with rfl | rfl | rfl <;> rfl⟩
theorem xul_2 (q : Nat → Nat) (cI : ClassId) (σ : bx_St) {k : Nat} (h : bx_isL k) (i v : Int32) : bx_PutA (bx_xw q cI σ) (q (k + 2)) cI 12 i v (bx_xw q cI (bx_up σ (k + 2) i.toNatClampNeg v)) := ⟨k + 2, σ.1 (k + 2), by rcases h with rfl | rfl | rfl <;> rfl, by rcases h with rfl | rfl | rfl <;> rfl⟩
theorem xal_3 (q : Nat → Nat) (cI : ClassId) (σ : bx_St) {k : Nat} (h : bx_isL k) : bx_HasA (bx_xw q cI σ) (q (k + 3)) cI 24 (σ.1 (k + 3)) := ⟨k + 3, by rcases h with rfl | rfl | rfl <;> rfl⟩
theorem xul_3 (q : Nat → Nat) (cI : ClassId) (σ : bx_St) {k : Nat} (h : bx_isL k) (i v : Int32) : bx_PutA (bx_xw q cI σ) (q (k + 3)) cI 24 i v (bx_xw q cI (bx_up σ (k + 3) i.toNatClampNeg v)) := ⟨k + 3, σ.1 (k + 3), by rcases h with rfl | rfl | rfl <;> rfl, by rcases h with rfl | rfl | rfl <;> rfl⟩
theorem xal_4 (q : Nat → Nat) (cI : ClassId) (σ : bx_St) {k : Nat} (h : bx_isL k) : bx_HasA (bx_xw q cI σ) (q (k + 4)) cI 12 (σ.1 (k + 4)) := ⟨k + 4, by rcases h with rfl | rfl | rfl <;> rfl⟩
theorem xul_4 (q : Nat → Nat) (cI : ClassId) (σ : bx_St) {k : Nat} (h : bx_isL k) (i v : Int32) : bx_PutA (bx_xw q cI σ) (q (k + 4)) cI 12 i v (bx_xw q cI (bx_up σ (k + 4) i.toNatClampNeg v)) := ⟨k + 4, σ.1 (k + 4), by rcases h with rfl | rfl | rfl <;> rfl, by rcases h with rfl | rfl | rfl <;> rfl⟩
/-- the world of a BoxFlickersModel: cells 0 to 10 -/
def bx_mw (q : Nat → Nat) (cI cZ : ClassId) (σ : bx_St) : va_W := [(q 0, .inr (4, [.int (σ.1 0 0), .ref (q 1), .int (σ.1 0 2), .int (σ.1 0 3), .ref (q 2), .int (σ.1 0 5), .ref (q 3), .ref (q 4), .int (σ.1 0 8), .ref (q 5), .ref (q 6), .int (σ.1 0 11), .int (σ.1 0 12), .ref (q 7), .int (σ.1 0 14), .int (σ.1 0 15), .int (σ.1 0 16), .int (σ.1 0 17), .int (σ.1 0 18), .int (σ.1 0 19), .ref (q 8), .int (σ.1 0 21), .int (σ.1 0 22), .ref (q 9), .int (σ.1 0 24), .int (σ.1 0 25), .ref (q 10), .long σ.2])), (q 1, .inl (cI, 60, .inl (σ.1 1))), (q 2, .inl (cI, 72, .inl (σ.1 2))), (q 3, .inl (cI, 72, .inl (σ.1 3))), (q 4, .inl (cI, 144, .inl (σ.1 4))), (q 5, .inl (cI, 66, .inl (σ.1 5))), (q 6, .inl (cI, 66, .inl (σ.1 6))), (q 7, .inl (cI, 3, .inl (σ.1 7))), (q 8, .inl (cI, 24, .inl (σ.1 8))), (q 9, .inl (cZ, 144, .inl (σ.1 9))), (q 10, .inl (cI, 66, .inl (σ.1 10)))]
theorem mo4 (q : Nat → Nat) (cI cZ : ClassId) (σ : bx_St) : bx_HasO (bx_mw q cI cZ σ) (q 0) 4 := ⟨0, _, rfl⟩
theorem mf4_0 (q : Nat → Nat) (cI cZ : ClassId) (σ : bx_St) : bx_HasF (bx_mw q cI cZ σ) (q 0) 4 0 (.int (σ.1 0 0)) := ⟨0, _, rfl, rfl⟩
theorem mp4_0 (q : Nat → Nat) (cI cZ : ClassId) (σ : bx_St) (v : Int32) : bx_PutF (bx_mw q cI cZ σ) (q 0) 4 0 (.int v) (bx_mw q cI cZ (bx_up σ 0 0 v)) := ⟨0, _, rfl, Nat.le_of_ble_eq_true rfl, rfl⟩
theorem mf4_1 (q : Nat → Nat) (cI cZ : ClassId) (σ : bx_St) : bx_HasF (bx_mw q cI cZ σ) (q 0) 4 1 (.ref (q 1)) := ⟨0, _, rfl, rfl⟩
theorem mf4_2 (q : Nat → Nat) (cI cZ : ClassId) (σ : bx_St) : bx_HasF (bx_mw q cI cZ σ) (q 0) 4 2 (.int (σ.1 0 2)) := ⟨0, _, rfl, rfl⟩
theorem mp4_2 (q : Nat → Nat) (cI cZ : ClassId) (σ : bx_St) (v : Int32) : bx_PutF (bx_mw q cI cZ σ) (q 0) 4 2 (.int v) (bx_mw q cI cZ (bx_up σ 0 2 v)) := ⟨0, _, rfl, Nat.le_of_ble_eq_true rfl, rfl⟩
theorem mf4_3 (q : Nat → Nat) (cI cZ : ClassId) (σ : bx_St) : bx_HasF (bx_mw q cI cZ σ) (q 0) 4 3 (.int (σ.1 0 3)) := ⟨0, _, rfl, rfl⟩
theorem mp4_3 (q : Nat → Nat) (cI cZ : ClassId) (σ : bx_St) (v : Int32) : bx_PutF (bx_mw q cI cZ σ) (q 0) 4 3 (.int v) (bx_mw q cI cZ (bx_up σ 0 3 v)) := ⟨0, _, rfl, Nat.le_of_ble_eq_true rfl, rfl⟩
theorem mf4_4 (q : Nat → Nat) (cI cZ : ClassId) (σ : bx_St) : bx_HasF (bx_mw q cI cZ σ) (q 0) 4 4 (.ref (q 2)) := ⟨0, _, rfl, rfl⟩
theorem mf4_5 (q : Nat → Nat) (cI cZ : ClassId) (σ : bx_St) : bx_HasF (bx_mw q cI cZ σ) (q 0) 4 5 (.int (σ.1 0 5)) := ⟨0, _, rfl, rfl⟩
theorem mp4_5 (q : Nat → Nat) (cI cZ : ClassId) (σ : bx_St) (v : Int32) : bx_PutF (bx_mw q cI cZ σ) (q 0) 4 5 (.int v) (bx_mw q cI cZ (bx_up σ 0 5 v)) := ⟨0, _, rfl, Nat.le_of_ble_eq_true rfl, rfl⟩
theorem mf4_6 (q : Nat → Nat) (cI cZ : ClassId) (σ : bx_St) : bx_HasF (bx_mw q cI cZ σ) (q 0) 4 6 (.ref (q 3)) := ⟨0, _, rfl, rfl⟩
theorem mf4_7 (q : Nat → Nat) (cI cZ : ClassId) (σ : bx_St) : bx_HasF (bx_mw q cI cZ σ) (q 0) 4 7 (.ref (q 4)) := ⟨0, _, rfl, rfl⟩
theorem mf4_8 (q : Nat → Nat) (cI cZ : ClassId) (σ : bx_St) : bx_HasF (bx_mw q cI cZ σ) (q 0) 4 8 (.int (σ.1 0 8)) := ⟨0, _, rfl, rfl⟩
theorem mp4_8 (q : Nat → Nat) (cI cZ : ClassId) (σ : bx_St) (v : Int32) : bx_PutF (bx_mw q cI cZ σ) (q 0) 4 8 (.int v) (bx_mw q cI cZ (bx_up σ 0 8 v)) := ⟨0, _, rfl, Nat.le_of_ble_eq_true rfl, rfl⟩
theorem mf4_9 (q : Nat → Nat) (cI cZ : ClassId) (σ : bx_St) : bx_HasF (bx_mw q cI cZ σ) (q 0) 4 9 (.ref (q 5)) := ⟨0, _, rfl, rfl⟩
theorem mf4_10 (q : Nat → Nat) (cI cZ : ClassId) (σ : bx_St) : bx_HasF (bx_mw q cI cZ σ) (q 0) 4 10 (.ref (q 6)) := ⟨0, _, rfl, rfl⟩
theorem mf4_11 (q : Nat → Nat) (cI cZ : ClassId) (σ : bx_St) : bx_HasF (bx_mw q cI cZ σ) (q 0) 4 11 (.int (σ.1 0 11)) := ⟨0, _, rfl, rfl⟩
theorem mp4_11 (q : Nat → Nat) (cI cZ : ClassId) (σ : bx_St) (v : Int32) : bx_PutF (bx_mw q cI cZ σ) (q 0) 4 11 (.int v) (bx_mw q cI cZ (bx_up σ 0 11 v)) := ⟨0, _, rfl, Nat.le_of_ble_eq_true rfl, rfl⟩
theorem mf4_12 (q : Nat → Nat) (cI cZ : ClassId) (σ : bx_St) : bx_HasF (bx_mw q cI cZ σ) (q 0) 4 12 (.int (σ.1 0 12)) := ⟨0, _, rfl, rfl⟩
theorem mp4_12 (q : Nat → Nat) (cI cZ : ClassId) (σ : bx_St) (v : Int32) : bx_PutF (bx_mw q cI cZ σ) (q 0) 4 12 (.int v) (bx_mw q cI cZ (bx_up σ 0 12 v)) := ⟨0, _, rfl, Nat.le_of_ble_eq_true rfl, rfl⟩
theorem mf4_13 (q : Nat → Nat) (cI cZ : ClassId) (σ : bx_St) : bx_HasF (bx_mw q cI cZ σ) (q 0) 4 13 (.ref (q 7)) := ⟨0, _, rfl, rfl⟩
theorem mf4_14 (q : Nat → Nat) (cI cZ : ClassId) (σ : bx_St) : bx_HasF (bx_mw q cI cZ σ) (q 0) 4 14 (.int (σ.1 0 14)) := ⟨0, _, rfl, rfl⟩
theorem mp4_14 (q : Nat → Nat) (cI cZ : ClassId) (σ : bx_St) (v : Int32) : bx_PutF (bx_mw q cI cZ σ) (q 0) 4 14 (.int v) (bx_mw q cI cZ (bx_up σ 0 14 v)) := ⟨0, _, rfl, Nat.le_of_ble_eq_true rfl, rfl⟩
theorem mf4_15 (q : Nat → Nat) (cI cZ : ClassId) (σ : bx_St) : bx_HasF (bx_mw q cI cZ σ) (q 0) 4 15 (.int (σ.1 0 15)) := ⟨0, _, rfl, rfl⟩
theorem mp4_15 (q : Nat → Nat) (cI cZ : ClassId) (σ : bx_St) (v : Int32) : bx_PutF (bx_mw q cI cZ σ) (q 0) 4 15 (.int v) (bx_mw q cI cZ (bx_up σ 0 15 v)) := ⟨0, _, rfl, Nat.le_of_ble_eq_true rfl, rfl⟩
theorem mf4_16 (q : Nat → Nat) (cI cZ : ClassId) (σ : bx_St) : bx_HasF (bx_mw q cI cZ σ) (q 0) 4 16 (.int (σ.1 0 16)) := ⟨0, _, rfl, rfl⟩
theorem mp4_16 (q : Nat → Nat) (cI cZ : ClassId) (σ : bx_St) (v : Int32) : bx_PutF (bx_mw q cI cZ σ) (q 0) 4 16 (.int v) (bx_mw q cI cZ (bx_up σ 0 16 v)) := ⟨0, _, rfl, Nat.le_of_ble_eq_true rfl, rfl⟩
theorem mf4_17 (q : Nat → Nat) (cI cZ : ClassId) (σ : bx_St) : bx_HasF (bx_mw q cI cZ σ) (q 0) 4 17 (.int (σ.1 0 17)) := ⟨0, _, rfl, rfl⟩
theorem mp4_17 (q : Nat → Nat) (cI cZ : ClassId) (σ : bx_St) (v : Int32) : bx_PutF (bx_mw q cI cZ σ) (q 0) 4 17 (.int v) (bx_mw q cI cZ (bx_up σ 0 17 v)) := ⟨0, _, rfl, Nat.le_of_ble_eq_true rfl, rfl⟩
theorem mf4_18 (q : Nat → Nat) (cI cZ : ClassId) (σ : bx_St) : bx_HasF (bx_mw q cI cZ σ) (q 0) 4 18 (.int (σ.1 0 18)) := ⟨0, _, rfl, rfl⟩
theorem mp4_18 (q : Nat → Nat) (cI cZ : ClassId) (σ : bx_St) (v : Int32) : bx_PutF (bx_mw q cI cZ σ) (q 0) 4 18 (.int v) (bx_mw q cI cZ (bx_up σ 0 18 v)) := ⟨0, _, rfl, Nat.le_of_ble_eq_true rfl, rfl⟩
theorem mf4_19 (q : Nat → Nat) (cI cZ : ClassId) (σ : bx_St) : bx_HasF (bx_mw q cI cZ σ) (q 0) 4 19 (.int (σ.1 0 19)) := ⟨0, _, rfl, rfl⟩
theorem mp4_19 (q : Nat → Nat) (cI cZ : ClassId) (σ : bx_St) (v : Int32) : bx_PutF (bx_mw q cI cZ σ) (q 0) 4 19 (.int v) (bx_mw q cI cZ (bx_up σ 0 19 v)) := ⟨0, _, rfl, Nat.le_of_ble_eq_true rfl, rfl⟩
theorem mf4_20 (q : Nat → Nat) (cI cZ : ClassId) (σ : bx_St) : bx_HasF (bx_mw q cI cZ σ) (q 0) 4 20 (.ref (q 8)) := ⟨0, _, rfl, rfl⟩
theorem mf4_21 (q : Nat → Nat) (cI cZ : ClassId) (σ : bx_St) : bx_HasF (bx_mw q cI cZ σ) (q 0) 4 21 (.int (σ.1 0 21)) := ⟨0, _, rfl, rfl⟩
theorem mp4_21 (q : Nat → Nat) (cI cZ : ClassId) (σ : bx_St) (v : Int32) : bx_PutF (bx_mw q cI cZ σ) (q 0) 4 21 (.int v) (bx_mw q cI cZ (bx_up σ 0 21 v)) := ⟨0, _, rfl, Nat.le_of_ble_eq_true rfl, rfl⟩
theorem mf4_22 (q : Nat → Nat) (cI cZ : ClassId) (σ : bx_St) : bx_HasF (bx_mw q cI cZ σ) (q 0) 4 22 (.int (σ.1 0 22)) := ⟨0, _, rfl, rfl⟩
theorem mp4_22 (q : Nat → Nat) (cI cZ : ClassId) (σ : bx_St) (v : Int32) : bx_PutF (bx_mw q cI cZ σ) (q 0) 4 22 (.int v) (bx_mw q cI cZ (bx_up σ 0 22 v)) := ⟨0, _, rfl, Nat.le_of_ble_eq_true rfl, rfl⟩
theorem mf4_23 (q : Nat → Nat) (cI cZ : ClassId) (σ : bx_St) : bx_HasF (bx_mw q cI cZ σ) (q 0) 4 23 (.ref (q 9)) := ⟨0, _, rfl, rfl⟩
theorem mf4_24 (q : Nat → Nat) (cI cZ : ClassId) (σ : bx_St) : bx_HasF (bx_mw q cI cZ σ) (q 0) 4 24 (.int (σ.1 0 24)) := ⟨0, _, rfl, rfl⟩
theorem mp4_24 (q : Nat → Nat) (cI cZ : ClassId) (σ : bx_St) (v : Int32) : bx_PutF (bx_mw q cI cZ σ) (q 0) 4 24 (.int v) (bx_mw q cI cZ (bx_up σ 0 24 v)) := ⟨0, _, rfl, Nat.le_of_ble_eq_true rfl, rfl⟩
theorem mf4_25 (q : Nat → Nat) (cI cZ : ClassId) (σ : bx_St) : bx_HasF (bx_mw q cI cZ σ) (q 0) 4 25 (.int (σ.1 0 25)) := ⟨0, _, rfl, rfl⟩
theorem mp4_25 (q : Nat → Nat) (cI cZ : ClassId) (σ : bx_St) (v : Int32) : bx_PutF (bx_mw q cI cZ σ) (q 0) 4 25 (.int v) (bx_mw q cI cZ (bx_up σ 0 25 v)) := ⟨0, _, rfl, Nat.le_of_ble_eq_true rfl, rfl⟩
theorem mf4_26 (q : Nat → Nat) (cI cZ : ClassId) (σ : bx_St) : bx_HasF (bx_mw q cI cZ σ) (q 0) 4 26 (.ref (q 10)) := ⟨0, _, rfl, rfl⟩
theorem mf4_27 (q : Nat → Nat) (cI cZ : ClassId) (σ : bx_St) : bx_HasF (bx_mw q cI cZ σ) (q 0) 4 27 (.long σ.2) := ⟨0, _, rfl, rfl⟩
theorem mp4_27 (q : Nat → Nat) (cI cZ : ClassId) (σ : bx_St) (v : Int64) : bx_PutF (bx_mw q cI cZ σ) (q 0) 4 27 (.long v) (bx_mw q cI cZ (σ.1, v)) := ⟨0, _, rfl, Nat.le_of_ble_eq_true rfl, rfl⟩
theorem ma_1 (q : Nat → Nat) (cI cZ : ClassId) (σ : bx_St) : bx_HasA (bx_mw q cI cZ σ) (q 1) cI 60 (σ.1 1) := ⟨1, rfl⟩
theorem mu_1 (q : Nat → Nat) (cI cZ : ClassId) (σ : bx_St) (i v : Int32) : bx_PutA (bx_mw q cI cZ σ) (q 1) cI 60 i v (bx_mw q cI cZ (bx_up σ 1 i.toNatClampNeg v)) := ⟨1, σ.1 1, rfl, rfl⟩
theorem ma_2 (q : Nat → Nat) (cI cZ : ClassId) (σ : bx_St) : bx_HasA (bx_mw q cI cZ σ) (q 2) cI 72 (σ.1 2) := ⟨2, rfl⟩
theorem mu_2 (q : Nat → Nat) (cI cZ : ClassId) (σ : bx_St) (i v : Int32) : bx_PutA (bx_mw q cI cZ σ) (q 2) cI 72 i v (bx_mw q cI cZ (bx_up σ 2 i.toNatClampNeg v)) := ⟨2, σ.1 2, rfl, rfl⟩
theorem ma_3 (q : Nat → Nat) (cI cZ : ClassId) (σ : bx_St) : bx_HasA (bx_mw q cI cZ σ) (q 3) cI 72 (σ.1 3) := ⟨3, rfl⟩
theorem mu_3 (q : Nat → Nat) (cI cZ : ClassId) (σ : bx_St) (i v : Int32) : bx_PutA (bx_mw q cI cZ σ) (q 3) cI 72 i v (bx_mw q cI cZ (bx_up σ 3 i.toNatClampNeg v)) := ⟨3, σ.1 3, rfl, rfl⟩
theorem ma_4 (q : Nat → Nat) (cI cZ : ClassId) (σ : bx_St) : bx_HasA (bx_mw q cI cZ σ) (q 4) cI 144 (σ.1 4) := ⟨4, rfl⟩
theorem mu_4 (q : Nat → Nat) (cI cZ : ClassId) (σ : bx_St) (i v : Int32) : bx_PutA (bx_mw q cI cZ σ) (q 4) cI 144 i v (bx_mw q cI cZ (bx_up σ 4 i.toNatClampNeg v)) := ⟨4, σ.1 4, rfl, rfl⟩
theorem ma_5 (q : Nat → Nat) (cI cZ : ClassId) (σ : bx_St) : bx_HasA (bx_mw q cI cZ σ) (q 5) cI 66 (σ.1 5) := ⟨5, rfl⟩
theorem mu_5 (q : Nat → Nat) (cI cZ : ClassId) (σ : bx_St) (i v : Int32) : bx_PutA (bx_mw q cI cZ σ) (q 5) cI 66 i v (bx_mw q cI cZ (bx_up σ 5 i.toNatClampNeg v)) := ⟨5, σ.1 5, rfl, rfl⟩
theorem ma_6 (q : Nat → Nat) (cI cZ : ClassId) (σ : bx_St) : bx_HasA (bx_mw q cI cZ σ) (q 6) cI 66 (σ.1 6) := ⟨6, rfl⟩
theorem mu_6 (q : Nat → Nat) (cI cZ : ClassId) (σ : bx_St) (i v : Int32) : bx_PutA (bx_mw q cI cZ σ) (q 6) cI 66 i v (bx_mw q cI cZ (bx_up σ 6 i.toNatClampNeg v)) := ⟨6, σ.1 6, rfl, rfl⟩
theorem ma_7 (q : Nat → Nat) (cI cZ : ClassId) (σ : bx_St) : bx_HasA (bx_mw q cI cZ σ) (q 7) cI 3 (σ.1 7) := ⟨7, rfl⟩
theorem mu_7 (q : Nat → Nat) (cI cZ : ClassId) (σ : bx_St) (i v : Int32) : bx_PutA (bx_mw q cI cZ σ) (q 7) cI 3 i v (bx_mw q cI cZ (bx_up σ 7 i.toNatClampNeg v)) := ⟨7, σ.1 7, rfl, rfl⟩
theorem ma_8 (q : Nat → Nat) (cI cZ : ClassId) (σ : bx_St) : bx_HasA (bx_mw q cI cZ σ) (q 8) cI 24 (σ.1 8) := ⟨8, rfl⟩
theorem mu_8 (q : Nat → Nat) (cI cZ : ClassId) (σ : bx_St) (i v : Int32) : bx_PutA (bx_mw q cI cZ σ) (q 8) cI 24 i v (bx_mw q cI cZ (bx_up σ 8 i.toNatClampNeg v)) := ⟨8, σ.1 8, rfl, rfl⟩
theorem ma_9 (q : Nat → Nat) (cI cZ : ClassId) (σ : bx_St) : bx_HasA (bx_mw q cI cZ σ) (q 9) cZ 144 (σ.1 9) := ⟨9, rfl⟩
theorem mu_9 (q : Nat → Nat) (cI cZ : ClassId) (σ : bx_St) (i v : Int32) : bx_PutA (bx_mw q cI cZ σ) (q 9) cZ 144 i v (bx_mw q cI cZ (bx_up σ 9 i.toNatClampNeg v)) := ⟨9, σ.1 9, rfl, rfl⟩
theorem ma_10 (q : Nat → Nat) (cI cZ : ClassId) (σ : bx_St) : bx_HasA (bx_mw q cI cZ σ) (q 10) cI 66 (σ.1 10) := ⟨10, rfl⟩
theorem mu_10 (q : Nat → Nat) (cI cZ : ClassId) (σ : bx_St) (i v : Int32) : bx_PutA (bx_mw q cI cZ σ) (q 10) cI 66 i v (bx_mw q cI cZ (bx_up σ 10 i.toNatClampNeg v)) := ⟨10, σ.1 10, rfl, rfl⟩
