-- ===== end of PART A; then your names; then what follows =====
/-! THE CLAIM OUT OF ONE WALK OF THE LAW'S BODY. Your part is whole_start (and what it stands on); all else here is the same for every law, but numbers. -/
def R_law : String := "BoxFlickersLaw"
def lw_P (b : Addr) (xs : List Int32) (args : Array Value) (s : State) : Prop := args = #[.ref b] ∧ s.IntsAt b xs ∧ xs.length ≤ 3584 ∧ (Jvm.Cond.and given_1 narrow_1).before args s = true
def lw_Q (_ : Array Value) (s : State) (o : Outcome) (t : State) : Prop := o = .returned (some (.int 1)) ∧ Framed s o t [] 600000 7302250
def lw_Z (below : List Frame) (a : Array Value) (s : State) : State → Prop := fun t => ∃ o, t.status = .running ∧ Ended t below o ∧ lw_Q a s o t
/-- the law's own end, with 1 on the stack, nothing written that was there before, its room as the claim has it -/
theorem lw_ret {p : Program} {l : Launch} {e : Env} {s : State} {m : MethodId} {below : List Frame} {meth : Method} {c : Code} {b : Nat} (hx : p.tables.exec = Jvm.exec) (hb : c.code = code) (hr : meth.sig.returnType = ret) (hlocks : meth.locks = false) {pc : Nat} {H : Heap} {ls : Array Slot} (hdg : decode code pc = .ok (.ireturn, 1)) : W p l e room_1 s m #[Value.ref b] below meth c H [] 600000 7302250 (lw_Z below #[Value.ref b] s) (F0 m pc ls [.int 1]) := by
  intro T hT X
  obtain ⟨fs, hret, hrun, hended, hW, hframe⟩ := X.leave (v := some (.int 1)) (hlocks := hlocks) (fun h => by rw [hr] at h; cases h)
  have hmeth' : T.vm.method? m = some meth := X.method'
  refine ⟨T.setFrames fs, ?_, .returned (some (.int 1)), hrun, hended, rfl, ⟨_, rfl⟩, hW, hframe⟩
  jvm_step X.here [X.here.top, hx, hb, hdg, hmeth', hr, ret, narrow_b1]
  (try refine ⟨rfl, ?_⟩); (try refine ⟨rfl, ?_⟩)
  first | (intro acts; rw [hret _ acts rfl rfl rfl]) | rw [hret _ _ rfl rfl rfl]
  exact Steps.refl _
/-- what holds at the law's entry: the machine, the code, the tables' words (any of lw_tbl by 'hts w (by decide +kernel)'), the script of L ints xs at the cell b, what the Statement gives of the start (any of its parts by flat_of_before) -/
def lw_At (p : Program) (s : State) (m : MethodId) (meth : Method) (c : Code) (b L : Nat) (xs : Nat → Int32) : Prop :=
  p.tables.exec = Jvm.exec ∧ c.code = code ∧ meth.sig.returnType = ret ∧ c.maxLocals = 4 ∧ s.vm.findClass R_law = some m.cls ∧ (∀ w ∈ lw_tbl, w.before #[Value.ref b] s = true) ∧ va_X b L xs s s.heap ∧ b < s.heap.size ∧ meth.locks = false ∧ (Jvm.Cond.and given_1 narrow_1).before #[Value.ref b] s = true

/-- what the pure part owes: a relation that holds at the start, and that every operation keeps, answering alike -/
def bx_Ops (Rl : bx_St → bx_St → Prop) : Prop := Rl (fun _ _ => 0, 0) (fun _ _ => 0, 0) ∧
  (∀ (σ τ : bx_St) (v1 : Int32), Rl σ τ → ∃ u w, mX3_letter v1 σ = some u ∧ mX4_letter v1 τ = some w ∧ u.1 = w.1 ∧ Rl u.2 w.2) ∧
  (∀ (σ τ : bx_St), Rl σ τ → ∃ u w, mX3_blank σ = some u ∧ mX4_blank τ = some w ∧ u.1 = w.1 ∧ Rl u.2 w.2) ∧
  (∀ (σ τ : bx_St), Rl σ τ → ∃ u w, mX3_fault σ = some u ∧ mX4_fault τ = some w ∧ u.1 = w.1 ∧ Rl u.2 w.2) ∧
  (∀ (σ τ : bx_St), Rl σ τ → ∃ u w, mX3_boxes σ = some u ∧ mX4_boxes τ = some w ∧ u.1 = w.1 ∧ Rl u.2 w.2) ∧
  (∀ (σ τ : bx_St) (v1 : Int32), Rl σ τ → ∃ u w, mX3_remove v1 σ = some u ∧ mX4_remove v1 τ = some w ∧ u.1 = w.1 ∧ Rl u.2 w.2) ∧
  (∀ (σ τ : bx_St) (v1 v2 v3 v4 : Int32), Rl σ τ → ∃ u w, mX3_move v1 v2 v3 v4 σ = some u ∧ mX4_move v1 v2 v3 v4 τ = some w ∧ u.1 = w.1 ∧ Rl u.2 w.2) ∧
  (∀ (σ τ : bx_St) (v1 v2 v3 v4 : Int32), Rl σ τ → ∃ u w, mX3_lay v1 v2 v3 v4 σ = some u ∧ mX4_lay v1 v2 v3 v4 τ = some w ∧ u.1 = w.1 ∧ Rl u.2 w.2) ∧
  (∀ (σ τ : bx_St) (v1 : Int32), Rl σ τ → bx_bo v1 → ∃ u w, mX3_touch v1 σ = some u ∧ mX4_touch v1 τ = some w ∧ u.1 = w.1 ∧ Rl u.2 w.2) ∧
  (∀ (σ τ : bx_St) (v1 v2 : Int32), Rl σ τ → ∃ u w, mX3_box v1 v2 σ = some u ∧ mX4_box v1 v2 τ = some w ∧ u = w ∧ Rl σ τ) ∧
  (∀ (σ τ : bx_St) (v1 v2 v3 : Int32), Rl σ τ → ∃ u w, mX3_end v1 v2 v3 σ = some u ∧ mX4_end v1 v2 v3 τ = some w ∧ u = w ∧ Rl σ τ) ∧
  (∀ (σ τ : bx_St) (v1 v2 : Int32), Rl σ τ → ∃ u w, mX3_meet v1 v2 σ = some u ∧ mX4_meet v1 v2 τ = some w ∧ u = w ∧ Rl σ τ) ∧
  (∀ (σ τ : bx_St) (v1 : Int32), Rl σ τ → ∃ u w, mX3_pair v1 σ = some u ∧ mX4_pair v1 τ = some w ∧ u = w.1 ∧ Rl σ w.2) ∧
  (∀ (σ τ : bx_St) (v1 v2 : Int32), Rl σ τ → ∃ u w, mX3_event v1 v2 σ = some u ∧ mX4_event v1 v2 τ = some w ∧ u = w ∧ Rl σ τ) ∧
  (∀ (σ τ : bx_St) (v1 : Int32), Rl σ τ → ∃ u w, mX3_latest v1 σ = some u ∧ mX4_latest v1 τ = some w ∧ u = w ∧ Rl σ τ) ∧
  (∀ (σ τ : bx_St) (v1 v2 v3 : Int32), Rl σ τ → ∃ u w, mX3_let v1 v2 v3 σ = some u ∧ mX4_let v1 v2 v3 τ = some w ∧ u = w ∧ Rl σ τ) ∧
  (∀ (σ τ : bx_St) (v1 : Int32), Rl σ τ → ∃ u w, mX3_heap v1 σ = some u ∧ mX4_heap v1 τ = some w ∧ u = w ∧ Rl σ τ) ∧
  (∀ (σ τ : bx_St) (v1 v2 v3 v4 v5 v6 : Int32), Rl σ τ → ∃ u w, mX3_probe v1 v2 v3 v4 v5 v6 σ = some u ∧ mX4_probe v1 v2 v3 v4 v5 v6 τ = some w ∧ u = w ∧ Rl σ τ) ∧
  (∀ (σ τ : bx_St) (v1 : Int32), Rl σ τ → ∃ u w, mX3_count v1 σ = some u ∧ mX4_count v1 τ = some w ∧ u = w.1 ∧ Rl σ w.2) ∧
  (∀ (σ τ : bx_St), Rl σ τ → ∃ u w, mX3_digest σ = some u ∧ mX4_digest τ = some w ∧ u = w.1 ∧ Rl σ w.2)
section bxL
variable {p : Program} {l : Launch} {e : Env} {R : Room} {s : State} {m : MethodId} {args : Array Value} {below : List Frame} {meth : Method} {c : Code} {nL : Nat} {A : Nat → Prop} {D : va_G} {Q : State → Prop} {cells slots : Nat} {ws ws' : va_W} {pc n : Nat} {lv lv' : List (Nat × Value)} {st : List Value} {cI cZ : ClassId} {own : String} {cc : ByteArray} {ret : Option FieldType}
theorem gc_istore_n (C : bx_Cx p s m args meth c nL A D cI cZ own cc ret) {i : Nat} {f : Fin 4} {x : Int32} (d : decode cc pc = .ok (.istore_n f, 1)) (hi : (f : Nat) = i) (hb : i < nL) (hv : (i, Value.int x) :: lv.filter (fun q => !(q.1 == i) && !(q.1 + 1 == i && q.2.category == 2)) = lv') (hn : pc + 1 = n) (k : bx_Gc p l e R s m args below meth c nL A D Q cells slots ws n lv' st) : bx_Gc p l e R s m args below meth c nL A D Q cells slots ws pc lv (.int x :: st) := fun H locs ls hP hD hS hl => by
  subst hn
  exact lv_istore_n C.1 C.2.1 d hi hl hb hv (fun ls2 hl2 => k H locs ls2 hP hD hS hl2)
theorem gc_astore_n (C : bx_Cx p s m args meth c nL A D cI cZ own cc ret) {i : Nat} {f : Fin 4} {x : Nat} (d : decode cc pc = .ok (.astore_n f, 1)) (hi : (f : Nat) = i) (hb : i < nL) (hv : (i, Value.ref x) :: lv.filter (fun q => !(q.1 == i) && !(q.1 + 1 == i && q.2.category == 2)) = lv') (hn : pc + 1 = n) (k : bx_Gc p l e R s m args below meth c nL A D Q cells slots ws n lv' st) : bx_Gc p l e R s m args below meth c nL A D Q cells slots ws pc lv (.ref x :: st) := fun H locs ls hP hD hS hl => by
  subst hn
  exact lv_astore_n C.1 C.2.1 d hi hl hb hv (fun ls2 hl2 => k H locs ls2 hP hD hS hl2)
theorem gc_iinc (C : bx_Cx p s m args meth c nL A D cI cZ own cc ret) {i j : Nat} {g : Int} {x v : Int32} (d : decode cc pc = .ok (.iinc i g, 3)) (hj : lv[j]? = some (i, .int x)) (hg : x + Int32.ofInt g = v) (hb : i < nL) (hv : (i, Value.int v) :: lv.filter (fun q => !(q.1 == i) && !(q.1 + 1 == i && q.2.category == 2)) = lv') (hn : pc + 3 = n) (k : bx_Gc p l e R s m args below meth c nL A D Q cells slots ws n lv' st) : bx_Gc p l e R s m args below meth c nL A D Q cells slots ws pc lv st := fun H locs ls hP hD hS hl => by
  subst hn
  exact lv_iinc C.1 C.2.1 d hl hj hg hb hv (fun ls2 hl2 => k H locs ls2 hP hD hS hl2)
theorem gc_lv (ks : List Nat) (h : lv_pick lv ks = lv') (k : bx_Gc p l e R s m args below meth c nL A D Q cells slots ws pc lv' st) : bx_Gc p l e R s m args below meth c nL A D Q cells slots ws pc lv st := fun H locs ls hP hD hS hl => k H locs ls hP hD hS (lv_sub hl ks h)
theorem gc_goto (C : bx_Cx p s m args meth c nL A D cI cZ own cc ret) {off : Int} (t : Nat) (d : decode cc pc = .ok (.goto off, 3)) (ht : (pc : Int) + off = (t : Int)) (k : bx_Gc p l e R s m args below meth c nL A D Q cells slots ws t lv st) : bx_Gc p l e R s m args below meth c nL A D Q cells slots ws pc lv st := fun H locs ls hP hD hS hl => lv_goto C.1 C.2.1 d ht (k H locs ls hP hD hS hl)
theorem gc_if_eq (C : bx_Cx p s m args meth c nL A D cI cZ own cc ret) {x : Int32} {off : Int} (t : Nat) (d : decode cc pc = .ok (.ifCond .eq off, 3)) (ht : (pc : Int) + off = (t : Int)) (hn : pc + 3 = n) (kt : x = 0 → bx_Gc p l e R s m args below meth c nL A D Q cells slots ws t lv st) (kf : ¬ x = 0 → bx_Gc p l e R s m args below meth c nL A D Q cells slots ws n lv st) : bx_Gc p l e R s m args below meth c nL A D Q cells slots ws pc lv (.int x :: st) := fun H locs ls hP hD hS hl => by
  subst hn
  exact lv_if_eq C.1 C.2.1 d ht (fun h => kt h H locs ls hP hD hS hl) (fun h => kf h H locs ls hP hD hS hl)
theorem gc_icmp_eq (C : bx_Cx p s m args meth c nL A D cI cZ own cc ret) {x y : Int32} {off : Int} (t : Nat) (d : decode cc pc = .ok (.if_icmp .eq off, 3)) (ht : (pc : Int) + off = (t : Int)) (hn : pc + 3 = n) (kt : x = y → bx_Gc p l e R s m args below meth c nL A D Q cells slots ws t lv st) (kf : ¬ x = y → bx_Gc p l e R s m args below meth c nL A D Q cells slots ws n lv st) : bx_Gc p l e R s m args below meth c nL A D Q cells slots ws pc lv (.int y :: .int x :: st) := fun H locs ls hP hD hS hl => by
  subst hn
  exact lv_icmp_eq C.1 C.2.1 d ht (fun h => kt h H locs ls hP hD hS hl) (fun h => kf h H locs ls hP hD hS hl)
theorem gc_icmp_gt (C : bx_Cx p s m args meth c nL A D cI cZ own cc ret) {x y : Int32} {off : Int} (t : Nat) (d : decode cc pc = .ok (.if_icmp .gt off, 3)) (ht : (pc : Int) + off = (t : Int)) (hn : pc + 3 = n) (kt : y < x → bx_Gc p l e R s m args below meth c nL A D Q cells slots ws t lv st) (kf : ¬ y < x → bx_Gc p l e R s m args below meth c nL A D Q cells slots ws n lv st) : bx_Gc p l e R s m args below meth c nL A D Q cells slots ws pc lv (.int y :: .int x :: st) := fun H locs ls hP hD hS hl => by
  subst hn
  exact lv_icmp_gt C.1 C.2.1 d ht (fun h => kt h H locs ls hP hD hS hl) (fun h => kf h H locs ls hP hD hS hl)
theorem gc_tableIn (C : bx_Cx p s m args meth c nL A D cI cZ own cc ret) {dflt lo hi : Int} {offs : Array Int} {len : Nat} {x : Int32} {off : Int} (t : Nat) (d : decode cc pc = .ok (.tableswitch dflt lo hi offs, len)) (h1 : ¬ x.toInt < lo) (h2 : ¬ hi < x.toInt) (ho : offs[(x.toInt - lo).toNat]? = some off) (ht : (pc : Int) + off = (t : Int)) (k : bx_Gc p l e R s m args below meth c nL A D Q cells slots ws t lv st) : bx_Gc p l e R s m args below meth c nL A D Q cells slots ws pc lv (.int x :: st) := fun H locs ls hP hD hS hl => lv_tableIn C.1 C.2.1 d h1 h2 ho ht (k H locs ls hP hD hS hl)
theorem gc_tableOut (C : bx_Cx p s m args meth c nL A D cI cZ own cc ret) {dflt lo hi : Int} {offs : Array Int} {len : Nat} {x : Int32} (t : Nat) (d : decode cc pc = .ok (.tableswitch dflt lo hi offs, len)) (h : x.toInt < lo ∨ hi < x.toInt) (ht : (pc : Int) + dflt = (t : Int)) (k : bx_Gc p l e R s m args below meth c nL A D Q cells slots ws t lv st) : bx_Gc p l e R s m args below meth c nL A D Q cells slots ws pc lv (.int x :: st) := fun H locs ls hP hD hS hl => lv_tableOut C.1 C.2.1 d h ht (k H locs ls hP hD hS hl)
theorem gc_sld (C : bx_Cx p s m args meth c nL A D cI cZ own cc ret) {b L : Nat} {xs : Nat → Int32} (hX : va_X b L xs s s.heap) (hbl : b < s.heap.size) (hbA : ¬ A b) {i : Int32} (hin : vp_in i L) (d : decode cc pc = .ok (.iaload, 1)) (hn : pc + 1 = n) (k : bx_Gc p l e R s m args below meth c nL A D Q cells slots ws n lv (.int (xs i.toNatClampNeg) :: st)) : bx_Gc p l e R s m args below meth c nL A D Q cells slots ws pc lv (.int i :: .ref b :: st) := fun H locs ls hP hD hS hl => by
  subst hn
  exact va_sld C.1 C.2.1 hX hbl hbA hS hin d (k H locs ls hP hD hS hl)
theorem gc_slen (C : bx_Cx p s m args meth c nL A D cI cZ own cc ret) {b L : Nat} {xs : Nat → Int32} (hX : va_X b L xs s s.heap) (hbl : b < s.heap.size) (hbA : ¬ A b) (d : decode cc pc = .ok (.arraylength, 1)) (hn : pc + 1 = n) (k : bx_Gc p l e R s m args below meth c nL A D Q cells slots ws n lv (.int (Int32.ofNat L) :: st)) : bx_Gc p l e R s m args below meth c nL A D Q cells slots ws pc lv (.ref b :: st) := fun H locs ls hP hD hS hl => by
  subst hn
  exact va_slen C.1 C.2.1 hX hbl hbA hS d (k H locs ls hP hD hS hl)
theorem gc_callL (C : bx_Cx p s m args meth c nL A D cI cZ own cc ret) {w1 w1' w2 : va_W} {y : MethodName} {cc' : ByteArray} {maxL nA d' idx b : Nat} {ret' : Option FieldType} {As rest st0 : List Value} {r : Option Value} (dc : decode cc pc = .ok (.invokevirtual idx, 3)) (M : bx_MW y cc' maxL ret' nA) (hl : Cond.methodLink own idx y ∈ bx_tbl) (hM : bx_Mt l D cI cZ y cc' maxL ret' d' (.ref b :: As) w1 r w1') {ci N : Nat} {T : u_T} (ho : bx_HasO w1 b ci) (hc : vwCl[ci]? = some (y.cls, T, N)) (hd : d' + 1 ≤ R.frames) (hd2 : 59 + 64 * d' ≤ R.locals) (hce : cells ≤ R.cells) (hsl : slots ≤ R.slots) (hlen : As.length = nA) (hst : st0 = As.reverse ++ .ref b :: rest) (hW : (rest.map fun v => v.category).sum ≤ 8) (hn : pc + 3 = n)
    (k : bx_Gc p l e R s m args below meth c nL A D Q cells slots (w1' ++ w2) n lv (r.toList ++ rest)) : bx_Gc p l e R s m args below meth c nL A D Q cells slots (w1 ++ w2) pc lv st0 := fun H locs ls hP hD hS hlv => by
  subst hn
  subst hst
  obtain ⟨hx, hb, hml, hown, hts, hK, hA, -, -⟩ := C
  obtain ⟨m1, m2, m3, m4, m5, m6⟩ := M
  obtain ⟨hPc, hPr⟩ := bx_splitP hP
  obtain ⟨hDc, hDr, hdis⟩ := bx_split hD
  have hF := bx_inA hDc hS hA
  obtain ⟨q0, fs, ho⟩ := ho
  refine bx_callg (va_runV (As := As) (rest := rest) (C := y.cls) (nL := nL) ⟨hx, hb, hml, hown, hts⟩ (hM H.size) ⟨callB_of nA hts (bx_gi _ _ _ _ m1) rfl rfl rfl (hts _ m4) (hts _ hl) m5 ⟨hd, by show 8 + (maxL + 11) + 64 * d' ≤ _; omega⟩, hts _ m2, hts _ m3⟩ ⟨bx_blind, va_recv hK.1 hPc hc ho, fun U hU hW2 => ⟨rfl, by rw [hU], by rw [hU]; exact hPc, ⟨va_K.moved hW2.alike hK.1, hK.2.warm hW2⟩, hDc.weaken (fun _ _ _ _ => trivial)⟩⟩ rfl hlen hlv.1 rfl (lv_room hW) dc ⟨hce, hsl⟩) hS (fun q _ h => hF q h) hF (fun H1 locs1 hP1 hD1 hz hk hS1 => ?_)
  obtain ⟨j1, j2, j3⟩ := bx_join (A := A) hPr (fun i j x y hx hy => (hdis j i y x hy hx).symm) hk hF hD1
  exact k H1 locs1 ls (hP1.app j1) (j2.app hDr (fun i j x y hx hy => (j3 j i y x hy hx).symm)) hS1 hlv
theorem gc_callR (C : bx_Cx p s m args meth c nL A D cI cZ own cc ret) {w1 w1' w2 : va_W} {y : MethodName} {cc' : ByteArray} {maxL nA d' idx b : Nat} {ret' : Option FieldType} {As rest st0 : List Value} {r : Option Value} (dc : decode cc pc = .ok (.invokevirtual idx, 3)) (M : bx_MW y cc' maxL ret' nA) (hl : Cond.methodLink own idx y ∈ bx_tbl) (hM : bx_Mt l D cI cZ y cc' maxL ret' d' (.ref b :: As) w1 r w1') {ci N : Nat} {T : u_T} (ho : bx_HasO w1 b ci) (hc : vwCl[ci]? = some (y.cls, T, N)) (hd : d' + 1 ≤ R.frames) (hd2 : 59 + 64 * d' ≤ R.locals) (hce : cells ≤ R.cells) (hsl : slots ≤ R.slots) (hlen : As.length = nA) (hst : st0 = As.reverse ++ .ref b :: rest) (hW : (rest.map fun v => v.category).sum ≤ 8) (hn : pc + 3 = n)
    (k : bx_Gc p l e R s m args below meth c nL A D Q cells slots (w2 ++ w1') n lv (r.toList ++ rest)) : bx_Gc p l e R s m args below meth c nL A D Q cells slots (w2 ++ w1) pc lv st0 := fun H locs ls hP hD hS hlv => by
  subst hn
  subst hst
  obtain ⟨hx, hb, hml, hown, hts, hK, hA, -, -⟩ := C
  obtain ⟨m1, m2, m3, m4, m5, m6⟩ := M
  obtain ⟨hPr, hPc⟩ := bx_splitP hP
  obtain ⟨hDr, hDc, hdis⟩ := bx_split hD
  have hF := bx_inA hDc hS hA
  obtain ⟨q0, fs, ho⟩ := ho
  refine bx_callg (va_runV (As := As) (rest := rest) (C := y.cls) (nL := nL) ⟨hx, hb, hml, hown, hts⟩ (hM H.size) ⟨callB_of nA hts (bx_gi _ _ _ _ m1) rfl rfl rfl (hts _ m4) (hts _ hl) m5 ⟨hd, by show 8 + (maxL + 11) + 64 * d' ≤ _; omega⟩, hts _ m2, hts _ m3⟩ ⟨bx_blind, va_recv hK.1 hPc hc ho, fun U hU hW2 => ⟨rfl, by rw [hU], by rw [hU]; exact hPc, ⟨va_K.moved hW2.alike hK.1, hK.2.warm hW2⟩, hDc.weaken (fun _ _ _ _ => trivial)⟩⟩ rfl hlen hlv.1 rfl (lv_room hW) dc ⟨hce, hsl⟩) hS (fun q _ h => hF q h) hF (fun H1 locs1 hP1 hD1 hz hk hS1 => ?_)
  obtain ⟨j1, j2, j3⟩ := bx_join (A := A) hPr (fun i j x y hx hy => hdis i j x y hx hy) hk hF hD1
  exact k H1 locs1 ls (j1.app hP1) (hDr.app j2 j3) hS1 hlv
end bxL
theorem bx_sub7 {i L : Nat} (hL : L ≤ 3584) (hi : i ≤ L) (h : ¬ (Int32.ofNat L - (7 : Int32)) < nI i) : i + 7 ≤ L := by
  have e1 : (Int32.ofNat L).toInt = (L : Int) := nI_toInt (by omega)
  have e2 : (nI i).toInt = (i : Int) := nI_toInt (by omega)
  have e3 : (Int32.ofNat L - (7 : Int32)).toInt = (L : Int) - 7 := by
    rw [Int32.toInt_sub, e1, show (7 : Int32).toInt = 7 from by decide]
    rw [Int.bmod_def]
    split <;> omega
  rw [Int32.lt_iff_toInt_lt, e2, e3] at h
  omega
theorem bx_ix {i L k : Nat} {v : Int32} (hv : nI k = v) (hL : L ≤ 3584) (h : i + k < L) : vp_in (nI i + v) L := by
  rw [← hv, nI_add]
  exact vp_in_nI h (by omega)
theorem bx_ix0 {i L : Nat} (hL : L ≤ 3584) (h : i < L) : vp_in (nI i) L := vp_in_nI h (by omega)
set_option maxRecDepth 20000 in
set_option maxHeartbeats 40000000 in
/-- THE LAW'S LOOP -/
theorem law_loop {Rl : bx_St → bx_St → Prop} (hO : bx_Ops Rl) {p : Program} {l : Launch} {e : Env} {s : State} {m : MethodId} {below : List Frame} {meth : Method} {c : Code} {D : va_G} {cI cZ : ClassId} {b L : Nat} {xs : Nat → Int32} (hL : L ≤ 3584) (hX : va_X b L xs s s.heap) (hbl : b < s.heap.size) (C : bx_Cx p s m #[Value.ref b] meth c 4 (fun q => s.heap.size ≤ q) D cI cZ RL code ret) (qx qm : Nat → Nat) :
    ∀ (k i : Nat) (x3 : Int32) (σ τ : bx_St), i ≤ L → L + 1 ≤ i + k → x3 = nI i → Rl σ τ → bx_Gc p l e room_1 s m #[Value.ref b] below meth c 4 (fun q => s.heap.size ≤ q) D (lw_Z below #[Value.ref b] s) 34 1134 (bx_xw qx cI σ ++ bx_mw qm cI cZ τ) 18 [(0, .ref b), (1, .ref (qx 0)), (2, .ref (qm 0)), (3, .int x3)] [] := by
  obtain ⟨-, o_letter, o_blank, o_fault, o_boxes, o_remove, o_move, o_lay, o_touch, o_box, o_end, o_meet, o_pair, o_event, o_latest, o_let, o_heap, o_probe, o_count, o_digest⟩ := hO
  have hbA : ¬ (fun q : Nat => s.heap.size ≤ q) b := Nat.not_le.mpr hbl
  intro k
  induction k with
  | zero =>
    intro i x3 σ τ h1 h2
    exact absurd h2 (by omega)
  | succ k ih =>
    intro i x3 σ τ hi hik ex3 hR
    refine gc_iload_n C dL_law_18 rfl 3 rfl (n := 19) rfl ?_
    refine gc_aload_n C dL_law_19 rfl 0 rfl (n := 20) rfl ?_
    refine gc_slen C hX hbl hbA dL_law_20 (n := 21) rfl ?_
    refine gc_bipush C dL_law_21 (v := (7 : Int32)) (by decide) (n := 23) rfl ?_
    refine gc_isub C dL_law_23 (n := 24) rfl ?_
    refine gc_icmp_gt C 726 dL_law_24 (by decide) (n := 27) rfl (fun _ => ?_) (fun c1 => ?_)
    · refine gc_iconst C dL_law_726 (v := (1 : Int32)) (by decide) (n := 727) rfl ?_
      intro H locs ls hP hD hS hl
      refine va_forget (fun q hq => hS.2.2 q hq) ?_
      refine W.widen (k := 600000) (n := 7302250) (Nat.le_of_ble_eq_true rfl) (Nat.le_of_ble_eq_true rfl) ?_
      exact lw_ret C.1 C.2.1 C.2.2.2.2.2.2.2.1 C.2.2.2.2.2.2.2.2 dL_law_727
    rw [ex3] at c1
    have h7 : i + 7 ≤ L := bx_sub7 hL hi c1
    have h0 : vp_in x3 L := by rw [ex3]; exact bx_ix0 hL (by omega)
    have h1 : vp_in (x3 + (1 : Int32)) L := by rw [ex3]; exact bx_ix (k := 1) (by decide) hL (by omega)
    have h2 : vp_in (x3 + (2 : Int32)) L := by rw [ex3]; exact bx_ix (k := 2) (by decide) hL (by omega)
    have h3 : vp_in (x3 + (3 : Int32)) L := by rw [ex3]; exact bx_ix (k := 3) (by decide) hL (by omega)
    have h4 : vp_in (x3 + (4 : Int32)) L := by rw [ex3]; exact bx_ix (k := 4) (by decide) hL (by omega)
    have h5 : vp_in (x3 + (5 : Int32)) L := by rw [ex3]; exact bx_ix (k := 5) (by decide) hL (by omega)
    have h6 : vp_in (x3 + (6 : Int32)) L := by rw [ex3]; exact bx_ix (k := 6) (by decide) hL (by omega)
    have tail : ∀ (σ τ : bx_St), Rl σ τ → bx_Gc p l e room_1 s m #[Value.ref b] below meth c 4 (fun q => s.heap.size ≤ q) D (lw_Z below #[Value.ref b] s) 34 1134 (bx_xw qx cI σ ++ bx_mw qm cI cZ τ) 720 [(0, .ref b), (1, .ref (qx 0)), (2, .ref (qm 0)), (3, .int x3)] [] := by
      intro σ τ hR
      refine gc_iinc C (j := 3) dL_law_720 rfl (v := (x3 + 7)) rfl (by decide) (lv' := [(3, .int (x3 + 7)), (0, .ref b), (1, .ref (qx 0)), (2, .ref (qm 0))]) rfl (n := 723) rfl ?_
      refine gc_goto C 18 dL_law_723 (by decide) ?_
      refine gc_lv (lv' := [(0, .ref b), (1, .ref (qx 0)), (2, .ref (qm 0)), (3, .int (x3 + 7))]) [1, 2, 3, 0] rfl ?_
      exact ih (i + 7) (x3 + 7) σ τ h7 (by omega) (by rw [ex3]; exact nI_add i 7) hR
    refine gc_aload_n C dL_law_27 rfl 0 rfl (n := 28) rfl ?_
    refine gc_iload_n C dL_law_28 rfl 3 rfl (n := 29) rfl ?_
    refine gc_sld C hX hbl hbA h0 dL_law_29 (n := 30) rfl ?_
    refine gc_bipush C dL_law_30 (v := (31 : Int32)) (by decide) (n := 32) rfl ?_
    refine gc_iand C dL_law_32 (n := 33) rfl ?_
    generalize (xs x3.toNatClampNeg &&& (31 : Int32)) = z
    by_cases c100 : z = (0 : Int32)
    · refine gc_tableIn C 124 dL_law_33 (off := 91) (by rw [c100]; decide) (by rw [c100]; decide) (by rw [c100]; decide) (by decide) ?_
      refine gc_aload_n C dL_law_124 rfl 1 rfl (n := 125) rfl ?_
      refine gc_aload_n C dL_law_125 rfl 0 rfl (n := 126) rfl ?_
      refine gc_iload_n C dL_law_126 rfl 3 rfl (n := 127) rfl ?_
      refine gc_iconst C dL_law_127 (v := (1 : Int32)) (by decide) (n := 128) rfl ?_
      refine gc_iadd C dL_law_128 (n := 129) rfl ?_
      refine gc_sld C hX hbl hbA (h1) dL_law_129 (n := 130) rfl ?_
      obtain ⟨u, w, e1, e2, e3, hR⟩ := o_letter σ τ (xs (x3 + (1 : Int32)).toNatClampNeg) hR
      refine gc_callL C dL_law_130 mw_X3_letter ml_L_13 (rest := []) (ktX3_letter e1) (xo3 qx cI σ) rfl (by decide) (by decide) (by decide) (by decide) rfl rfl (Nat.le_of_ble_eq_true rfl) (n := 133) rfl ?_
      refine gc_aload_n C dL_law_133 rfl 2 rfl (n := 134) rfl ?_
      refine gc_aload_n C dL_law_134 rfl 0 rfl (n := 135) rfl ?_
      refine gc_iload_n C dL_law_135 rfl 3 rfl (n := 136) rfl ?_
      refine gc_iconst C dL_law_136 (v := (1 : Int32)) (by decide) (n := 137) rfl ?_
      refine gc_iadd C dL_law_137 (n := 138) rfl ?_
      refine gc_sld C hX hbl hbA (h1) dL_law_138 (n := 139) rfl ?_
      refine gc_callR C dL_law_139 mw_X4_letter ml_L_17 (rest := [.int u.1]) (ktX4_letter e2) (mo4 qm cI cZ τ) rfl (by decide) (by decide) (by decide) (by decide) rfl rfl (Nat.le_of_ble_eq_true rfl) (n := 142) rfl ?_
      refine gc_icmp_eq C 720 dL_law_142 (by decide) (n := 145) rfl (fun _ => ?_) (fun h => absurd e3 h)
      exact tail u.2 w.2 hR
    by_cases c101 : z = (1 : Int32)
    · refine gc_tableIn C 147 dL_law_33 (off := 114) (by rw [c101]; decide) (by rw [c101]; decide) (by rw [c101]; decide) (by decide) ?_
      refine gc_aload_n C dL_law_147 rfl 1 rfl (n := 148) rfl ?_
      obtain ⟨u, w, e1, e2, e3, hR⟩ := o_blank σ τ hR
      refine gc_callL C dL_law_148 mw_X3_blank ml_L_18 (rest := []) (ktX3_blank e1) (xo3 qx cI σ) rfl (by decide) (by decide) (by decide) (by decide) rfl rfl (Nat.le_of_ble_eq_true rfl) (n := 151) rfl ?_
      refine gc_aload_n C dL_law_151 rfl 2 rfl (n := 152) rfl ?_
      refine gc_callR C dL_law_152 mw_X4_blank ml_L_22 (rest := [.int u.1]) (ktX4_blank e2) (mo4 qm cI cZ τ) rfl (by decide) (by decide) (by decide) (by decide) rfl rfl (Nat.le_of_ble_eq_true rfl) (n := 155) rfl ?_
      refine gc_icmp_eq C 720 dL_law_155 (by decide) (n := 158) rfl (fun _ => ?_) (fun h => absurd e3 h)
      exact tail u.2 w.2 hR
    by_cases c102 : z = (2 : Int32)
    · refine gc_tableIn C 160 dL_law_33 (off := 127) (by rw [c102]; decide) (by rw [c102]; decide) (by rw [c102]; decide) (by decide) ?_
      refine gc_aload_n C dL_law_160 rfl 1 rfl (n := 161) rfl ?_
      obtain ⟨u, w, e1, e2, e3, hR⟩ := o_fault σ τ hR
      refine gc_callL C dL_law_161 mw_X3_fault ml_L_23 (rest := []) (ktX3_fault e1) (xo3 qx cI σ) rfl (by decide) (by decide) (by decide) (by decide) rfl rfl (Nat.le_of_ble_eq_true rfl) (n := 164) rfl ?_
      refine gc_aload_n C dL_law_164 rfl 2 rfl (n := 165) rfl ?_
      refine gc_callR C dL_law_165 mw_X4_fault ml_L_26 (rest := [.int u.1]) (ktX4_fault e2) (mo4 qm cI cZ τ) rfl (by decide) (by decide) (by decide) (by decide) rfl rfl (Nat.le_of_ble_eq_true rfl) (n := 168) rfl ?_
      refine gc_icmp_eq C 720 dL_law_168 (by decide) (n := 171) rfl (fun _ => ?_) (fun h => absurd e3 h)
      exact tail u.2 w.2 hR
    by_cases c103 : z = (3 : Int32)
    · refine gc_tableIn C 173 dL_law_33 (off := 140) (by rw [c103]; decide) (by rw [c103]; decide) (by rw [c103]; decide) (by decide) ?_
      refine gc_aload_n C dL_law_173 rfl 1 rfl (n := 174) rfl ?_
      obtain ⟨u, w, e1, e2, e3, hR⟩ := o_boxes σ τ hR
      refine gc_callL C dL_law_174 mw_X3_boxes ml_L_27 (rest := []) (ktX3_boxes e1) (xo3 qx cI σ) rfl (by decide) (by decide) (by decide) (by decide) rfl rfl (Nat.le_of_ble_eq_true rfl) (n := 177) rfl ?_
      refine gc_aload_n C dL_law_177 rfl 2 rfl (n := 178) rfl ?_
      refine gc_callR C dL_law_178 mw_X4_boxes ml_L_30 (rest := [.int u.1]) (ktX4_boxes e2) (mo4 qm cI cZ τ) rfl (by decide) (by decide) (by decide) (by decide) rfl rfl (Nat.le_of_ble_eq_true rfl) (n := 181) rfl ?_
      refine gc_icmp_eq C 720 dL_law_181 (by decide) (n := 184) rfl (fun _ => ?_) (fun h => absurd e3 h)
      exact tail u.2 w.2 hR
    by_cases c104 : z = (4 : Int32)
    · refine gc_tableIn C 186 dL_law_33 (off := 153) (by rw [c104]; decide) (by rw [c104]; decide) (by rw [c104]; decide) (by decide) ?_
      refine gc_aload_n C dL_law_186 rfl 1 rfl (n := 187) rfl ?_
      refine gc_aload_n C dL_law_187 rfl 0 rfl (n := 188) rfl ?_
      refine gc_iload_n C dL_law_188 rfl 3 rfl (n := 189) rfl ?_
      refine gc_iconst C dL_law_189 (v := (1 : Int32)) (by decide) (n := 190) rfl ?_
      refine gc_iadd C dL_law_190 (n := 191) rfl ?_
      refine gc_sld C hX hbl hbA (h1) dL_law_191 (n := 192) rfl ?_
      obtain ⟨u, w, e1, e2, e3, hR⟩ := o_remove σ τ (xs (x3 + (1 : Int32)).toNatClampNeg) hR
      refine gc_callL C dL_law_192 mw_X3_remove ml_L_31 (rest := []) (ktX3_remove e1) (xo3 qx cI σ) rfl (by decide) (by decide) (by decide) (by decide) rfl rfl (Nat.le_of_ble_eq_true rfl) (n := 195) rfl ?_
      refine gc_aload_n C dL_law_195 rfl 2 rfl (n := 196) rfl ?_
      refine gc_aload_n C dL_law_196 rfl 0 rfl (n := 197) rfl ?_
      refine gc_iload_n C dL_law_197 rfl 3 rfl (n := 198) rfl ?_
      refine gc_iconst C dL_law_198 (v := (1 : Int32)) (by decide) (n := 199) rfl ?_
      refine gc_iadd C dL_law_199 (n := 200) rfl ?_
      refine gc_sld C hX hbl hbA (h1) dL_law_200 (n := 201) rfl ?_
      refine gc_callR C dL_law_201 mw_X4_remove ml_L_34 (rest := [.int u.1]) (ktX4_remove e2) (mo4 qm cI cZ τ) rfl (by decide) (by decide) (by decide) (by decide) rfl rfl (Nat.le_of_ble_eq_true rfl) (n := 204) rfl ?_
      refine gc_icmp_eq C 720 dL_law_204 (by decide) (n := 207) rfl (fun _ => ?_) (fun h => absurd e3 h)
      exact tail u.2 w.2 hR
    by_cases c105 : z = (5 : Int32)
    · refine gc_tableIn C 209 dL_law_33 (off := 176) (by rw [c105]; decide) (by rw [c105]; decide) (by rw [c105]; decide) (by decide) ?_
      refine gc_aload_n C dL_law_209 rfl 1 rfl (n := 210) rfl ?_
      refine gc_aload_n C dL_law_210 rfl 0 rfl (n := 211) rfl ?_
      refine gc_iload_n C dL_law_211 rfl 3 rfl (n := 212) rfl ?_
      refine gc_iconst C dL_law_212 (v := (1 : Int32)) (by decide) (n := 213) rfl ?_
      refine gc_iadd C dL_law_213 (n := 214) rfl ?_
      refine gc_sld C hX hbl hbA (h1) dL_law_214 (n := 215) rfl ?_
      refine gc_aload_n C dL_law_215 rfl 0 rfl (n := 216) rfl ?_
      refine gc_iload_n C dL_law_216 rfl 3 rfl (n := 217) rfl ?_
      refine gc_iconst C dL_law_217 (v := (2 : Int32)) (by decide) (n := 218) rfl ?_
      refine gc_iadd C dL_law_218 (n := 219) rfl ?_
      refine gc_sld C hX hbl hbA (h2) dL_law_219 (n := 220) rfl ?_
      refine gc_aload_n C dL_law_220 rfl 0 rfl (n := 221) rfl ?_
      refine gc_iload_n C dL_law_221 rfl 3 rfl (n := 222) rfl ?_
      refine gc_iconst C dL_law_222 (v := (3 : Int32)) (by decide) (n := 223) rfl ?_
      refine gc_iadd C dL_law_223 (n := 224) rfl ?_
      refine gc_sld C hX hbl hbA (h3) dL_law_224 (n := 225) rfl ?_
      refine gc_aload_n C dL_law_225 rfl 0 rfl (n := 226) rfl ?_
      refine gc_iload_n C dL_law_226 rfl 3 rfl (n := 227) rfl ?_
      refine gc_iconst C dL_law_227 (v := (4 : Int32)) (by decide) (n := 228) rfl ?_
      refine gc_iadd C dL_law_228 (n := 229) rfl ?_
      refine gc_sld C hX hbl hbA (h4) dL_law_229 (n := 230) rfl ?_
      obtain ⟨u, w, e1, e2, e3, hR⟩ := o_move σ τ (xs (x3 + (1 : Int32)).toNatClampNeg) (xs (x3 + (2 : Int32)).toNatClampNeg) (xs (x3 + (3 : Int32)).toNatClampNeg) (xs (x3 + (4 : Int32)).toNatClampNeg) hR
      refine gc_callL C dL_law_230 mw_X3_move ml_L_35 (rest := []) (ktX3_move e1) (xo3 qx cI σ) rfl (by decide) (by decide) (by decide) (by decide) rfl rfl (Nat.le_of_ble_eq_true rfl) (n := 233) rfl ?_
      refine gc_aload_n C dL_law_233 rfl 2 rfl (n := 234) rfl ?_
      refine gc_aload_n C dL_law_234 rfl 0 rfl (n := 235) rfl ?_
      refine gc_iload_n C dL_law_235 rfl 3 rfl (n := 236) rfl ?_
      refine gc_iconst C dL_law_236 (v := (1 : Int32)) (by decide) (n := 237) rfl ?_
      refine gc_iadd C dL_law_237 (n := 238) rfl ?_
      refine gc_sld C hX hbl hbA (h1) dL_law_238 (n := 239) rfl ?_
      refine gc_aload_n C dL_law_239 rfl 0 rfl (n := 240) rfl ?_
      refine gc_iload_n C dL_law_240 rfl 3 rfl (n := 241) rfl ?_
      refine gc_iconst C dL_law_241 (v := (2 : Int32)) (by decide) (n := 242) rfl ?_
      refine gc_iadd C dL_law_242 (n := 243) rfl ?_
      refine gc_sld C hX hbl hbA (h2) dL_law_243 (n := 244) rfl ?_
      refine gc_aload_n C dL_law_244 rfl 0 rfl (n := 245) rfl ?_
      refine gc_iload_n C dL_law_245 rfl 3 rfl (n := 246) rfl ?_
      refine gc_iconst C dL_law_246 (v := (3 : Int32)) (by decide) (n := 247) rfl ?_
      refine gc_iadd C dL_law_247 (n := 248) rfl ?_
      refine gc_sld C hX hbl hbA (h3) dL_law_248 (n := 249) rfl ?_
      refine gc_aload_n C dL_law_249 rfl 0 rfl (n := 250) rfl ?_
      refine gc_iload_n C dL_law_250 rfl 3 rfl (n := 251) rfl ?_
      refine gc_iconst C dL_law_251 (v := (4 : Int32)) (by decide) (n := 252) rfl ?_
      refine gc_iadd C dL_law_252 (n := 253) rfl ?_
      refine gc_sld C hX hbl hbA (h4) dL_law_253 (n := 254) rfl ?_
      refine gc_callR C dL_law_254 mw_X4_move ml_L_39 (rest := [.int u.1]) (ktX4_move e2) (mo4 qm cI cZ τ) rfl (by decide) (by decide) (by decide) (by decide) rfl rfl (Nat.le_of_ble_eq_true rfl) (n := 257) rfl ?_
      refine gc_icmp_eq C 720 dL_law_257 (by decide) (n := 260) rfl (fun _ => ?_) (fun h => absurd e3 h)
      exact tail u.2 w.2 hR
    by_cases c106 : z = (6 : Int32)
    · refine gc_tableIn C 262 dL_law_33 (off := 229) (by rw [c106]; decide) (by rw [c106]; decide) (by rw [c106]; decide) (by decide) ?_
      refine gc_aload_n C dL_law_262 rfl 1 rfl (n := 263) rfl ?_
      refine gc_aload_n C dL_law_263 rfl 0 rfl (n := 264) rfl ?_
      refine gc_iload_n C dL_law_264 rfl 3 rfl (n := 265) rfl ?_
      refine gc_iconst C dL_law_265 (v := (1 : Int32)) (by decide) (n := 266) rfl ?_
      refine gc_iadd C dL_law_266 (n := 267) rfl ?_
      refine gc_sld C hX hbl hbA (h1) dL_law_267 (n := 268) rfl ?_
      refine gc_aload_n C dL_law_268 rfl 0 rfl (n := 269) rfl ?_
      refine gc_iload_n C dL_law_269 rfl 3 rfl (n := 270) rfl ?_
      refine gc_iconst C dL_law_270 (v := (2 : Int32)) (by decide) (n := 271) rfl ?_
      refine gc_iadd C dL_law_271 (n := 272) rfl ?_
      refine gc_sld C hX hbl hbA (h2) dL_law_272 (n := 273) rfl ?_
      refine gc_aload_n C dL_law_273 rfl 0 rfl (n := 274) rfl ?_
      refine gc_iload_n C dL_law_274 rfl 3 rfl (n := 275) rfl ?_
      refine gc_iconst C dL_law_275 (v := (3 : Int32)) (by decide) (n := 276) rfl ?_
      refine gc_iadd C dL_law_276 (n := 277) rfl ?_
      refine gc_sld C hX hbl hbA (h3) dL_law_277 (n := 278) rfl ?_
      refine gc_aload_n C dL_law_278 rfl 0 rfl (n := 279) rfl ?_
      refine gc_iload_n C dL_law_279 rfl 3 rfl (n := 280) rfl ?_
      refine gc_iconst C dL_law_280 (v := (4 : Int32)) (by decide) (n := 281) rfl ?_
      refine gc_iadd C dL_law_281 (n := 282) rfl ?_
      refine gc_sld C hX hbl hbA (h4) dL_law_282 (n := 283) rfl ?_
      obtain ⟨u, w, e1, e2, e3, hR⟩ := o_lay σ τ (xs (x3 + (1 : Int32)).toNatClampNeg) (xs (x3 + (2 : Int32)).toNatClampNeg) (xs (x3 + (3 : Int32)).toNatClampNeg) (xs (x3 + (4 : Int32)).toNatClampNeg) hR
      refine gc_callL C dL_law_283 mw_X3_lay ml_L_40 (rest := []) (ktX3_lay e1) (xo3 qx cI σ) rfl (by decide) (by decide) (by decide) (by decide) rfl rfl (Nat.le_of_ble_eq_true rfl) (n := 286) rfl ?_
      refine gc_aload_n C dL_law_286 rfl 2 rfl (n := 287) rfl ?_
      refine gc_aload_n C dL_law_287 rfl 0 rfl (n := 288) rfl ?_
      refine gc_iload_n C dL_law_288 rfl 3 rfl (n := 289) rfl ?_
      refine gc_iconst C dL_law_289 (v := (1 : Int32)) (by decide) (n := 290) rfl ?_
      refine gc_iadd C dL_law_290 (n := 291) rfl ?_
      refine gc_sld C hX hbl hbA (h1) dL_law_291 (n := 292) rfl ?_
      refine gc_aload_n C dL_law_292 rfl 0 rfl (n := 293) rfl ?_
      refine gc_iload_n C dL_law_293 rfl 3 rfl (n := 294) rfl ?_
      refine gc_iconst C dL_law_294 (v := (2 : Int32)) (by decide) (n := 295) rfl ?_
      refine gc_iadd C dL_law_295 (n := 296) rfl ?_
      refine gc_sld C hX hbl hbA (h2) dL_law_296 (n := 297) rfl ?_
      refine gc_aload_n C dL_law_297 rfl 0 rfl (n := 298) rfl ?_
      refine gc_iload_n C dL_law_298 rfl 3 rfl (n := 299) rfl ?_
      refine gc_iconst C dL_law_299 (v := (3 : Int32)) (by decide) (n := 300) rfl ?_
      refine gc_iadd C dL_law_300 (n := 301) rfl ?_
      refine gc_sld C hX hbl hbA (h3) dL_law_301 (n := 302) rfl ?_
      refine gc_aload_n C dL_law_302 rfl 0 rfl (n := 303) rfl ?_
      refine gc_iload_n C dL_law_303 rfl 3 rfl (n := 304) rfl ?_
      refine gc_iconst C dL_law_304 (v := (4 : Int32)) (by decide) (n := 305) rfl ?_
      refine gc_iadd C dL_law_305 (n := 306) rfl ?_
      refine gc_sld C hX hbl hbA (h4) dL_law_306 (n := 307) rfl ?_
      refine gc_callR C dL_law_307 mw_X4_lay ml_L_43 (rest := [.int u.1]) (ktX4_lay e2) (mo4 qm cI cZ τ) rfl (by decide) (by decide) (by decide) (by decide) rfl rfl (Nat.le_of_ble_eq_true rfl) (n := 310) rfl ?_
      refine gc_icmp_eq C 720 dL_law_310 (by decide) (n := 313) rfl (fun _ => ?_) (fun h => absurd e3 h)
      exact tail u.2 w.2 hR
    by_cases c107 : z = (7 : Int32)
    · refine gc_tableIn C 315 dL_law_33 (off := 282) (by rw [c107]; decide) (by rw [c107]; decide) (by rw [c107]; decide) (by decide) ?_
      refine gc_aload_n C dL_law_315 rfl 1 rfl (n := 316) rfl ?_
      refine gc_aload_n C dL_law_316 rfl 0 rfl (n := 317) rfl ?_
      refine gc_iload_n C dL_law_317 rfl 3 rfl (n := 318) rfl ?_
      refine gc_iconst C dL_law_318 (v := (1 : Int32)) (by decide) (n := 319) rfl ?_
      refine gc_iadd C dL_law_319 (n := 320) rfl ?_
      refine gc_sld C hX hbl hbA (h1) dL_law_320 (n := 321) rfl ?_
      refine gc_if_eq C 328 dL_law_321 (by decide) (n := 324) rfl (fun c321 => ?_) (fun c321 => ?_)
      · refine gc_iconst C dL_law_328 (v := (0 : Int32)) (by decide) (n := 329) rfl ?_
        obtain ⟨u, w, e1, e2, e3, hR⟩ := o_touch σ τ (0 : Int32) hR (by decide)
        refine gc_callL C dL_law_329 mw_X3_touch ml_L_44 (rest := []) (ktX3_touch e1) (xo3 qx cI σ) rfl (by decide) (by decide) (by decide) (by decide) rfl rfl (Nat.le_of_ble_eq_true rfl) (n := 332) rfl ?_
        refine gc_aload_n C dL_law_332 rfl 2 rfl (n := 333) rfl ?_
        refine gc_aload_n C dL_law_333 rfl 0 rfl (n := 334) rfl ?_
        refine gc_iload_n C dL_law_334 rfl 3 rfl (n := 335) rfl ?_
        refine gc_iconst C dL_law_335 (v := (1 : Int32)) (by decide) (n := 336) rfl ?_
        refine gc_iadd C dL_law_336 (n := 337) rfl ?_
        refine gc_sld C hX hbl hbA (h1) dL_law_337 (n := 338) rfl ?_
        refine gc_if_eq C 345 dL_law_338 (by decide) (n := 341) rfl (fun c338 => ?_) (fun c338 => ?_)
        · refine gc_iconst C dL_law_345 (v := (0 : Int32)) (by decide) (n := 346) rfl ?_
          refine gc_callR C dL_law_346 mw_X4_touch ml_L_48 (rest := [.int u.1]) (ktX4_touch e2) (mo4 qm cI cZ τ) rfl (by decide) (by decide) (by decide) (by decide) rfl rfl (Nat.le_of_ble_eq_true rfl) (n := 349) rfl ?_
          refine gc_icmp_eq C 720 dL_law_349 (by decide) (n := 352) rfl (fun _ => ?_) (fun h => absurd e3 h)
          exact tail u.2 w.2 hR
        · exact absurd c321 c338
      · refine gc_iconst C dL_law_324 (v := (1 : Int32)) (by decide) (n := 325) rfl ?_
        refine gc_goto C 329 dL_law_325 (by decide) ?_
        obtain ⟨u, w, e1, e2, e3, hR⟩ := o_touch σ τ (1 : Int32) hR (by decide)
        refine gc_callL C dL_law_329 mw_X3_touch ml_L_44 (rest := []) (ktX3_touch e1) (xo3 qx cI σ) rfl (by decide) (by decide) (by decide) (by decide) rfl rfl (Nat.le_of_ble_eq_true rfl) (n := 332) rfl ?_
        refine gc_aload_n C dL_law_332 rfl 2 rfl (n := 333) rfl ?_
        refine gc_aload_n C dL_law_333 rfl 0 rfl (n := 334) rfl ?_
        refine gc_iload_n C dL_law_334 rfl 3 rfl (n := 335) rfl ?_
        refine gc_iconst C dL_law_335 (v := (1 : Int32)) (by decide) (n := 336) rfl ?_
        refine gc_iadd C dL_law_336 (n := 337) rfl ?_
        refine gc_sld C hX hbl hbA (h1) dL_law_337 (n := 338) rfl ?_
        refine gc_if_eq C 345 dL_law_338 (by decide) (n := 341) rfl (fun c338 => ?_) (fun c338 => ?_)
        · exact absurd c338 c321
        · refine gc_iconst C dL_law_341 (v := (1 : Int32)) (by decide) (n := 342) rfl ?_
          refine gc_goto C 346 dL_law_342 (by decide) ?_
          refine gc_callR C dL_law_346 mw_X4_touch ml_L_48 (rest := [.int u.1]) (ktX4_touch e2) (mo4 qm cI cZ τ) rfl (by decide) (by decide) (by decide) (by decide) rfl rfl (Nat.le_of_ble_eq_true rfl) (n := 349) rfl ?_
          refine gc_icmp_eq C 720 dL_law_349 (by decide) (n := 352) rfl (fun _ => ?_) (fun h => absurd e3 h)
          exact tail u.2 w.2 hR
    by_cases c108 : z = (8 : Int32)
    · refine gc_tableIn C 354 dL_law_33 (off := 321) (by rw [c108]; decide) (by rw [c108]; decide) (by rw [c108]; decide) (by decide) ?_
      refine gc_aload_n C dL_law_354 rfl 1 rfl (n := 355) rfl ?_
      refine gc_aload_n C dL_law_355 rfl 0 rfl (n := 356) rfl ?_
      refine gc_iload_n C dL_law_356 rfl 3 rfl (n := 357) rfl ?_
      refine gc_iconst C dL_law_357 (v := (1 : Int32)) (by decide) (n := 358) rfl ?_
      refine gc_iadd C dL_law_358 (n := 359) rfl ?_
      refine gc_sld C hX hbl hbA (h1) dL_law_359 (n := 360) rfl ?_
      refine gc_aload_n C dL_law_360 rfl 0 rfl (n := 361) rfl ?_
      refine gc_iload_n C dL_law_361 rfl 3 rfl (n := 362) rfl ?_
      refine gc_iconst C dL_law_362 (v := (2 : Int32)) (by decide) (n := 363) rfl ?_
      refine gc_iadd C dL_law_363 (n := 364) rfl ?_
      refine gc_sld C hX hbl hbA (h2) dL_law_364 (n := 365) rfl ?_
      obtain ⟨u, w, e1, e2, e3, hR⟩ := o_box σ τ (xs (x3 + (1 : Int32)).toNatClampNeg) (xs (x3 + (2 : Int32)).toNatClampNeg) hR
      refine gc_callL C dL_law_365 mw_X3_box ml_L_49 (rest := []) (ktX3_box e1) (xo3 qx cI σ) rfl (by decide) (by decide) (by decide) (by decide) rfl rfl (Nat.le_of_ble_eq_true rfl) (n := 368) rfl ?_
      refine gc_aload_n C dL_law_368 rfl 2 rfl (n := 369) rfl ?_
      refine gc_aload_n C dL_law_369 rfl 0 rfl (n := 370) rfl ?_
      refine gc_iload_n C dL_law_370 rfl 3 rfl (n := 371) rfl ?_
      refine gc_iconst C dL_law_371 (v := (1 : Int32)) (by decide) (n := 372) rfl ?_
      refine gc_iadd C dL_law_372 (n := 373) rfl ?_
      refine gc_sld C hX hbl hbA (h1) dL_law_373 (n := 374) rfl ?_
      refine gc_aload_n C dL_law_374 rfl 0 rfl (n := 375) rfl ?_
      refine gc_iload_n C dL_law_375 rfl 3 rfl (n := 376) rfl ?_
      refine gc_iconst C dL_law_376 (v := (2 : Int32)) (by decide) (n := 377) rfl ?_
      refine gc_iadd C dL_law_377 (n := 378) rfl ?_
      refine gc_sld C hX hbl hbA (h2) dL_law_378 (n := 379) rfl ?_
      refine gc_callR C dL_law_379 mw_X4_box ml_L_53 (rest := [.int u]) (ktX4_box e2) (mo4 qm cI cZ τ) rfl (by decide) (by decide) (by decide) (by decide) rfl rfl (Nat.le_of_ble_eq_true rfl) (n := 382) rfl ?_
      refine gc_icmp_eq C 720 dL_law_382 (by decide) (n := 385) rfl (fun _ => ?_) (fun h => absurd e3 h)
      exact tail σ τ hR
    by_cases c109 : z = (9 : Int32)
    · refine gc_tableIn C 387 dL_law_33 (off := 354) (by rw [c109]; decide) (by rw [c109]; decide) (by rw [c109]; decide) (by decide) ?_
      refine gc_aload_n C dL_law_387 rfl 1 rfl (n := 388) rfl ?_
      refine gc_aload_n C dL_law_388 rfl 0 rfl (n := 389) rfl ?_
      refine gc_iload_n C dL_law_389 rfl 3 rfl (n := 390) rfl ?_
      refine gc_iconst C dL_law_390 (v := (1 : Int32)) (by decide) (n := 391) rfl ?_
      refine gc_iadd C dL_law_391 (n := 392) rfl ?_
      refine gc_sld C hX hbl hbA (h1) dL_law_392 (n := 393) rfl ?_
      refine gc_aload_n C dL_law_393 rfl 0 rfl (n := 394) rfl ?_
      refine gc_iload_n C dL_law_394 rfl 3 rfl (n := 395) rfl ?_
      refine gc_iconst C dL_law_395 (v := (2 : Int32)) (by decide) (n := 396) rfl ?_
      refine gc_iadd C dL_law_396 (n := 397) rfl ?_
      refine gc_sld C hX hbl hbA (h2) dL_law_397 (n := 398) rfl ?_
      refine gc_aload_n C dL_law_398 rfl 0 rfl (n := 399) rfl ?_
      refine gc_iload_n C dL_law_399 rfl 3 rfl (n := 400) rfl ?_
      refine gc_iconst C dL_law_400 (v := (3 : Int32)) (by decide) (n := 401) rfl ?_
      refine gc_iadd C dL_law_401 (n := 402) rfl ?_
      refine gc_sld C hX hbl hbA (h3) dL_law_402 (n := 403) rfl ?_
      obtain ⟨u, w, e1, e2, e3, hR⟩ := o_end σ τ (xs (x3 + (1 : Int32)).toNatClampNeg) (xs (x3 + (2 : Int32)).toNatClampNeg) (xs (x3 + (3 : Int32)).toNatClampNeg) hR
      refine gc_callL C dL_law_403 mw_X3_end ml_L_54 (rest := []) (ktX3_end e1) (xo3 qx cI σ) rfl (by decide) (by decide) (by decide) (by decide) rfl rfl (Nat.le_of_ble_eq_true rfl) (n := 406) rfl ?_
      refine gc_aload_n C dL_law_406 rfl 2 rfl (n := 407) rfl ?_
      refine gc_aload_n C dL_law_407 rfl 0 rfl (n := 408) rfl ?_
      refine gc_iload_n C dL_law_408 rfl 3 rfl (n := 409) rfl ?_
      refine gc_iconst C dL_law_409 (v := (1 : Int32)) (by decide) (n := 410) rfl ?_
      refine gc_iadd C dL_law_410 (n := 411) rfl ?_
      refine gc_sld C hX hbl hbA (h1) dL_law_411 (n := 412) rfl ?_
      refine gc_aload_n C dL_law_412 rfl 0 rfl (n := 413) rfl ?_
      refine gc_iload_n C dL_law_413 rfl 3 rfl (n := 414) rfl ?_
      refine gc_iconst C dL_law_414 (v := (2 : Int32)) (by decide) (n := 415) rfl ?_
      refine gc_iadd C dL_law_415 (n := 416) rfl ?_
      refine gc_sld C hX hbl hbA (h2) dL_law_416 (n := 417) rfl ?_
      refine gc_aload_n C dL_law_417 rfl 0 rfl (n := 418) rfl ?_
      refine gc_iload_n C dL_law_418 rfl 3 rfl (n := 419) rfl ?_
      refine gc_iconst C dL_law_419 (v := (3 : Int32)) (by decide) (n := 420) rfl ?_
      refine gc_iadd C dL_law_420 (n := 421) rfl ?_
      refine gc_sld C hX hbl hbA (h3) dL_law_421 (n := 422) rfl ?_
      refine gc_callR C dL_law_422 mw_X4_end ml_L_58 (rest := [.int u]) (ktX4_end e2) (mo4 qm cI cZ τ) rfl (by decide) (by decide) (by decide) (by decide) rfl rfl (Nat.le_of_ble_eq_true rfl) (n := 425) rfl ?_
      refine gc_icmp_eq C 720 dL_law_425 (by decide) (n := 428) rfl (fun _ => ?_) (fun h => absurd e3 h)
      exact tail σ τ hR
    by_cases c110 : z = (10 : Int32)
    · refine gc_tableIn C 430 dL_law_33 (off := 397) (by rw [c110]; decide) (by rw [c110]; decide) (by rw [c110]; decide) (by decide) ?_
      refine gc_aload_n C dL_law_430 rfl 1 rfl (n := 431) rfl ?_
      refine gc_aload_n C dL_law_431 rfl 0 rfl (n := 432) rfl ?_
      refine gc_iload_n C dL_law_432 rfl 3 rfl (n := 433) rfl ?_
      refine gc_iconst C dL_law_433 (v := (1 : Int32)) (by decide) (n := 434) rfl ?_
      refine gc_iadd C dL_law_434 (n := 435) rfl ?_
      refine gc_sld C hX hbl hbA (h1) dL_law_435 (n := 436) rfl ?_
      refine gc_aload_n C dL_law_436 rfl 0 rfl (n := 437) rfl ?_
      refine gc_iload_n C dL_law_437 rfl 3 rfl (n := 438) rfl ?_
      refine gc_iconst C dL_law_438 (v := (2 : Int32)) (by decide) (n := 439) rfl ?_
      refine gc_iadd C dL_law_439 (n := 440) rfl ?_
      refine gc_sld C hX hbl hbA (h2) dL_law_440 (n := 441) rfl ?_
      obtain ⟨u, w, e1, e2, e3, hR⟩ := o_meet σ τ (xs (x3 + (1 : Int32)).toNatClampNeg) (xs (x3 + (2 : Int32)).toNatClampNeg) hR
      refine gc_callL C dL_law_441 mw_X3_meet ml_L_59 (rest := []) (ktX3_meet e1) (xo3 qx cI σ) rfl (by decide) (by decide) (by decide) (by decide) rfl rfl (Nat.le_of_ble_eq_true rfl) (n := 444) rfl ?_
      refine gc_aload_n C dL_law_444 rfl 2 rfl (n := 445) rfl ?_
      refine gc_aload_n C dL_law_445 rfl 0 rfl (n := 446) rfl ?_
      refine gc_iload_n C dL_law_446 rfl 3 rfl (n := 447) rfl ?_
      refine gc_iconst C dL_law_447 (v := (1 : Int32)) (by decide) (n := 448) rfl ?_
      refine gc_iadd C dL_law_448 (n := 449) rfl ?_
      refine gc_sld C hX hbl hbA (h1) dL_law_449 (n := 450) rfl ?_
      refine gc_aload_n C dL_law_450 rfl 0 rfl (n := 451) rfl ?_
      refine gc_iload_n C dL_law_451 rfl 3 rfl (n := 452) rfl ?_
      refine gc_iconst C dL_law_452 (v := (2 : Int32)) (by decide) (n := 453) rfl ?_
      refine gc_iadd C dL_law_453 (n := 454) rfl ?_
      refine gc_sld C hX hbl hbA (h2) dL_law_454 (n := 455) rfl ?_
      refine gc_callR C dL_law_455 mw_X4_meet ml_L_62 (rest := [.int u]) (ktX4_meet e2) (mo4 qm cI cZ τ) rfl (by decide) (by decide) (by decide) (by decide) rfl rfl (Nat.le_of_ble_eq_true rfl) (n := 458) rfl ?_
      refine gc_icmp_eq C 720 dL_law_458 (by decide) (n := 461) rfl (fun _ => ?_) (fun h => absurd e3 h)
      exact tail σ τ hR
    by_cases c111 : z = (11 : Int32)
    · refine gc_tableIn C 463 dL_law_33 (off := 430) (by rw [c111]; decide) (by rw [c111]; decide) (by rw [c111]; decide) (by decide) ?_
      refine gc_aload_n C dL_law_463 rfl 1 rfl (n := 464) rfl ?_
      refine gc_aload_n C dL_law_464 rfl 0 rfl (n := 465) rfl ?_
      refine gc_iload_n C dL_law_465 rfl 3 rfl (n := 466) rfl ?_
      refine gc_iconst C dL_law_466 (v := (1 : Int32)) (by decide) (n := 467) rfl ?_
      refine gc_iadd C dL_law_467 (n := 468) rfl ?_
      refine gc_sld C hX hbl hbA (h1) dL_law_468 (n := 469) rfl ?_
      obtain ⟨u, w, e1, e2, e3, hR⟩ := o_pair σ τ (xs (x3 + (1 : Int32)).toNatClampNeg) hR
      refine gc_callL C dL_law_469 mw_X3_pair ml_L_63 (rest := []) (ktX3_pair e1) (xo3 qx cI σ) rfl (by decide) (by decide) (by decide) (by decide) rfl rfl (Nat.le_of_ble_eq_true rfl) (n := 472) rfl ?_
      refine gc_aload_n C dL_law_472 rfl 2 rfl (n := 473) rfl ?_
      refine gc_aload_n C dL_law_473 rfl 0 rfl (n := 474) rfl ?_
      refine gc_iload_n C dL_law_474 rfl 3 rfl (n := 475) rfl ?_
      refine gc_iconst C dL_law_475 (v := (1 : Int32)) (by decide) (n := 476) rfl ?_
      refine gc_iadd C dL_law_476 (n := 477) rfl ?_
      refine gc_sld C hX hbl hbA (h1) dL_law_477 (n := 478) rfl ?_
      refine gc_callR C dL_law_478 mw_X4_pair ml_L_66 (rest := [.int u]) (ktX4_pair e2) (mo4 qm cI cZ τ) rfl (by decide) (by decide) (by decide) (by decide) rfl rfl (Nat.le_of_ble_eq_true rfl) (n := 481) rfl ?_
      refine gc_icmp_eq C 720 dL_law_481 (by decide) (n := 484) rfl (fun _ => ?_) (fun h => absurd e3 h)
      exact tail σ w.2 hR
    by_cases c112 : z = (12 : Int32)
    · refine gc_tableIn C 486 dL_law_33 (off := 453) (by rw [c112]; decide) (by rw [c112]; decide) (by rw [c112]; decide) (by decide) ?_
      refine gc_aload_n C dL_law_486 rfl 1 rfl (n := 487) rfl ?_
      refine gc_aload_n C dL_law_487 rfl 0 rfl (n := 488) rfl ?_
      refine gc_iload_n C dL_law_488 rfl 3 rfl (n := 489) rfl ?_
      refine gc_iconst C dL_law_489 (v := (1 : Int32)) (by decide) (n := 490) rfl ?_
      refine gc_iadd C dL_law_490 (n := 491) rfl ?_
      refine gc_sld C hX hbl hbA (h1) dL_law_491 (n := 492) rfl ?_
      refine gc_aload_n C dL_law_492 rfl 0 rfl (n := 493) rfl ?_
      refine gc_iload_n C dL_law_493 rfl 3 rfl (n := 494) rfl ?_
      refine gc_iconst C dL_law_494 (v := (2 : Int32)) (by decide) (n := 495) rfl ?_
      refine gc_iadd C dL_law_495 (n := 496) rfl ?_
      refine gc_sld C hX hbl hbA (h2) dL_law_496 (n := 497) rfl ?_
      obtain ⟨u, w, e1, e2, e3, hR⟩ := o_event σ τ (xs (x3 + (1 : Int32)).toNatClampNeg) (xs (x3 + (2 : Int32)).toNatClampNeg) hR
      refine gc_callL C dL_law_497 mw_X3_event ml_L_67 (rest := []) (ktX3_event e1) (xo3 qx cI σ) rfl (by decide) (by decide) (by decide) (by decide) rfl rfl (Nat.le_of_ble_eq_true rfl) (n := 500) rfl ?_
      refine gc_aload_n C dL_law_500 rfl 2 rfl (n := 501) rfl ?_
      refine gc_aload_n C dL_law_501 rfl 0 rfl (n := 502) rfl ?_
      refine gc_iload_n C dL_law_502 rfl 3 rfl (n := 503) rfl ?_
      refine gc_iconst C dL_law_503 (v := (1 : Int32)) (by decide) (n := 504) rfl ?_
      refine gc_iadd C dL_law_504 (n := 505) rfl ?_
      refine gc_sld C hX hbl hbA (h1) dL_law_505 (n := 506) rfl ?_
      refine gc_aload_n C dL_law_506 rfl 0 rfl (n := 507) rfl ?_
      refine gc_iload_n C dL_law_507 rfl 3 rfl (n := 508) rfl ?_
      refine gc_iconst C dL_law_508 (v := (2 : Int32)) (by decide) (n := 509) rfl ?_
      refine gc_iadd C dL_law_509 (n := 510) rfl ?_
      refine gc_sld C hX hbl hbA (h2) dL_law_510 (n := 511) rfl ?_
      refine gc_callR C dL_law_511 mw_X4_event ml_L_70 (rest := [.int u]) (ktX4_event e2) (mo4 qm cI cZ τ) rfl (by decide) (by decide) (by decide) (by decide) rfl rfl (Nat.le_of_ble_eq_true rfl) (n := 514) rfl ?_
      refine gc_icmp_eq C 720 dL_law_514 (by decide) (n := 517) rfl (fun _ => ?_) (fun h => absurd e3 h)
      exact tail σ τ hR
    by_cases c113 : z = (13 : Int32)
    · refine gc_tableIn C 519 dL_law_33 (off := 486) (by rw [c113]; decide) (by rw [c113]; decide) (by rw [c113]; decide) (by decide) ?_
      refine gc_aload_n C dL_law_519 rfl 1 rfl (n := 520) rfl ?_
      refine gc_aload_n C dL_law_520 rfl 0 rfl (n := 521) rfl ?_
      refine gc_iload_n C dL_law_521 rfl 3 rfl (n := 522) rfl ?_
      refine gc_iconst C dL_law_522 (v := (1 : Int32)) (by decide) (n := 523) rfl ?_
      refine gc_iadd C dL_law_523 (n := 524) rfl ?_
      refine gc_sld C hX hbl hbA (h1) dL_law_524 (n := 525) rfl ?_
      obtain ⟨u, w, e1, e2, e3, hR⟩ := o_latest σ τ (xs (x3 + (1 : Int32)).toNatClampNeg) hR
      refine gc_callL C dL_law_525 mw_X3_latest ml_L_71 (rest := []) (ktX3_latest e1) (xo3 qx cI σ) rfl (by decide) (by decide) (by decide) (by decide) rfl rfl (Nat.le_of_ble_eq_true rfl) (n := 528) rfl ?_
      refine gc_aload_n C dL_law_528 rfl 2 rfl (n := 529) rfl ?_
      refine gc_aload_n C dL_law_529 rfl 0 rfl (n := 530) rfl ?_
      refine gc_iload_n C dL_law_530 rfl 3 rfl (n := 531) rfl ?_
      refine gc_iconst C dL_law_531 (v := (1 : Int32)) (by decide) (n := 532) rfl ?_
      refine gc_iadd C dL_law_532 (n := 533) rfl ?_
      refine gc_sld C hX hbl hbA (h1) dL_law_533 (n := 534) rfl ?_
      refine gc_callR C dL_law_534 mw_X4_latest ml_L_74 (rest := [.int u]) (ktX4_latest e2) (mo4 qm cI cZ τ) rfl (by decide) (by decide) (by decide) (by decide) rfl rfl (Nat.le_of_ble_eq_true rfl) (n := 537) rfl ?_
      refine gc_icmp_eq C 720 dL_law_537 (by decide) (n := 540) rfl (fun _ => ?_) (fun h => absurd e3 h)
      exact tail σ τ hR
    by_cases c114 : z = (14 : Int32)
    · refine gc_tableIn C 542 dL_law_33 (off := 509) (by rw [c114]; decide) (by rw [c114]; decide) (by rw [c114]; decide) (by decide) ?_
      refine gc_aload_n C dL_law_542 rfl 1 rfl (n := 543) rfl ?_
      refine gc_aload_n C dL_law_543 rfl 0 rfl (n := 544) rfl ?_
      refine gc_iload_n C dL_law_544 rfl 3 rfl (n := 545) rfl ?_
      refine gc_iconst C dL_law_545 (v := (1 : Int32)) (by decide) (n := 546) rfl ?_
      refine gc_iadd C dL_law_546 (n := 547) rfl ?_
      refine gc_sld C hX hbl hbA (h1) dL_law_547 (n := 548) rfl ?_
      refine gc_aload_n C dL_law_548 rfl 0 rfl (n := 549) rfl ?_
      refine gc_iload_n C dL_law_549 rfl 3 rfl (n := 550) rfl ?_
      refine gc_iconst C dL_law_550 (v := (2 : Int32)) (by decide) (n := 551) rfl ?_
      refine gc_iadd C dL_law_551 (n := 552) rfl ?_
      refine gc_sld C hX hbl hbA (h2) dL_law_552 (n := 553) rfl ?_
      refine gc_aload_n C dL_law_553 rfl 0 rfl (n := 554) rfl ?_
      refine gc_iload_n C dL_law_554 rfl 3 rfl (n := 555) rfl ?_
      refine gc_iconst C dL_law_555 (v := (3 : Int32)) (by decide) (n := 556) rfl ?_
      refine gc_iadd C dL_law_556 (n := 557) rfl ?_
      refine gc_sld C hX hbl hbA (h3) dL_law_557 (n := 558) rfl ?_
      obtain ⟨u, w, e1, e2, e3, hR⟩ := o_let σ τ (xs (x3 + (1 : Int32)).toNatClampNeg) (xs (x3 + (2 : Int32)).toNatClampNeg) (xs (x3 + (3 : Int32)).toNatClampNeg) hR
      refine gc_callL C dL_law_558 mw_X3_let ml_L_75 (rest := []) (ktX3_let e1) (xo3 qx cI σ) rfl (by decide) (by decide) (by decide) (by decide) rfl rfl (Nat.le_of_ble_eq_true rfl) (n := 561) rfl ?_
      refine gc_aload_n C dL_law_561 rfl 2 rfl (n := 562) rfl ?_
      refine gc_aload_n C dL_law_562 rfl 0 rfl (n := 563) rfl ?_
      refine gc_iload_n C dL_law_563 rfl 3 rfl (n := 564) rfl ?_
      refine gc_iconst C dL_law_564 (v := (1 : Int32)) (by decide) (n := 565) rfl ?_
      refine gc_iadd C dL_law_565 (n := 566) rfl ?_
      refine gc_sld C hX hbl hbA (h1) dL_law_566 (n := 567) rfl ?_
      refine gc_aload_n C dL_law_567 rfl 0 rfl (n := 568) rfl ?_
      refine gc_iload_n C dL_law_568 rfl 3 rfl (n := 569) rfl ?_
      refine gc_iconst C dL_law_569 (v := (2 : Int32)) (by decide) (n := 570) rfl ?_
      refine gc_iadd C dL_law_570 (n := 571) rfl ?_
      refine gc_sld C hX hbl hbA (h2) dL_law_571 (n := 572) rfl ?_
      refine gc_aload_n C dL_law_572 rfl 0 rfl (n := 573) rfl ?_
      refine gc_iload_n C dL_law_573 rfl 3 rfl (n := 574) rfl ?_
      refine gc_iconst C dL_law_574 (v := (3 : Int32)) (by decide) (n := 575) rfl ?_
      refine gc_iadd C dL_law_575 (n := 576) rfl ?_
      refine gc_sld C hX hbl hbA (h3) dL_law_576 (n := 577) rfl ?_
      refine gc_callR C dL_law_577 mw_X4_let ml_L_78 (rest := [.int u]) (ktX4_let e2) (mo4 qm cI cZ τ) rfl (by decide) (by decide) (by decide) (by decide) rfl rfl (Nat.le_of_ble_eq_true rfl) (n := 580) rfl ?_
      refine gc_icmp_eq C 720 dL_law_580 (by decide) (n := 583) rfl (fun _ => ?_) (fun h => absurd e3 h)
      exact tail σ τ hR
    by_cases c115 : z = (15 : Int32)
    · refine gc_tableIn C 585 dL_law_33 (off := 552) (by rw [c115]; decide) (by rw [c115]; decide) (by rw [c115]; decide) (by decide) ?_
      refine gc_aload_n C dL_law_585 rfl 1 rfl (n := 586) rfl ?_
      refine gc_aload_n C dL_law_586 rfl 0 rfl (n := 587) rfl ?_
      refine gc_iload_n C dL_law_587 rfl 3 rfl (n := 588) rfl ?_
      refine gc_iconst C dL_law_588 (v := (1 : Int32)) (by decide) (n := 589) rfl ?_
      refine gc_iadd C dL_law_589 (n := 590) rfl ?_
      refine gc_sld C hX hbl hbA (h1) dL_law_590 (n := 591) rfl ?_
      obtain ⟨u, w, e1, e2, e3, hR⟩ := o_heap σ τ (xs (x3 + (1 : Int32)).toNatClampNeg) hR
      refine gc_callL C dL_law_591 mw_X3_heap ml_L_79 (rest := []) (ktX3_heap e1) (xo3 qx cI σ) rfl (by decide) (by decide) (by decide) (by decide) rfl rfl (Nat.le_of_ble_eq_true rfl) (n := 594) rfl ?_
      refine gc_aload_n C dL_law_594 rfl 2 rfl (n := 595) rfl ?_
      refine gc_aload_n C dL_law_595 rfl 0 rfl (n := 596) rfl ?_
      refine gc_iload_n C dL_law_596 rfl 3 rfl (n := 597) rfl ?_
      refine gc_iconst C dL_law_597 (v := (1 : Int32)) (by decide) (n := 598) rfl ?_
      refine gc_iadd C dL_law_598 (n := 599) rfl ?_
      refine gc_sld C hX hbl hbA (h1) dL_law_599 (n := 600) rfl ?_
      refine gc_callR C dL_law_600 mw_X4_heap ml_L_82 (rest := [.int u]) (ktX4_heap e2) (mo4 qm cI cZ τ) rfl (by decide) (by decide) (by decide) (by decide) rfl rfl (Nat.le_of_ble_eq_true rfl) (n := 603) rfl ?_
      refine gc_icmp_eq C 720 dL_law_603 (by decide) (n := 606) rfl (fun _ => ?_) (fun h => absurd e3 h)
      exact tail σ τ hR
    by_cases c116 : z = (16 : Int32)
    · refine gc_tableIn C 608 dL_law_33 (off := 575) (by rw [c116]; decide) (by rw [c116]; decide) (by rw [c116]; decide) (by decide) ?_
      refine gc_aload_n C dL_law_608 rfl 1 rfl (n := 609) rfl ?_
      refine gc_aload_n C dL_law_609 rfl 0 rfl (n := 610) rfl ?_
      refine gc_iload_n C dL_law_610 rfl 3 rfl (n := 611) rfl ?_
      refine gc_iconst C dL_law_611 (v := (1 : Int32)) (by decide) (n := 612) rfl ?_
      refine gc_iadd C dL_law_612 (n := 613) rfl ?_
      refine gc_sld C hX hbl hbA (h1) dL_law_613 (n := 614) rfl ?_
      refine gc_aload_n C dL_law_614 rfl 0 rfl (n := 615) rfl ?_
      refine gc_iload_n C dL_law_615 rfl 3 rfl (n := 616) rfl ?_
      refine gc_iconst C dL_law_616 (v := (2 : Int32)) (by decide) (n := 617) rfl ?_
      refine gc_iadd C dL_law_617 (n := 618) rfl ?_
      refine gc_sld C hX hbl hbA (h2) dL_law_618 (n := 619) rfl ?_
      refine gc_aload_n C dL_law_619 rfl 0 rfl (n := 620) rfl ?_
      refine gc_iload_n C dL_law_620 rfl 3 rfl (n := 621) rfl ?_
      refine gc_iconst C dL_law_621 (v := (3 : Int32)) (by decide) (n := 622) rfl ?_
      refine gc_iadd C dL_law_622 (n := 623) rfl ?_
      refine gc_sld C hX hbl hbA (h3) dL_law_623 (n := 624) rfl ?_
      refine gc_aload_n C dL_law_624 rfl 0 rfl (n := 625) rfl ?_
      refine gc_iload_n C dL_law_625 rfl 3 rfl (n := 626) rfl ?_
      refine gc_iconst C dL_law_626 (v := (4 : Int32)) (by decide) (n := 627) rfl ?_
      refine gc_iadd C dL_law_627 (n := 628) rfl ?_
      refine gc_sld C hX hbl hbA (h4) dL_law_628 (n := 629) rfl ?_
      refine gc_aload_n C dL_law_629 rfl 0 rfl (n := 630) rfl ?_
      refine gc_iload_n C dL_law_630 rfl 3 rfl (n := 631) rfl ?_
      refine gc_iconst C dL_law_631 (v := (5 : Int32)) (by decide) (n := 632) rfl ?_
      refine gc_iadd C dL_law_632 (n := 633) rfl ?_
      refine gc_sld C hX hbl hbA (h5) dL_law_633 (n := 634) rfl ?_
      refine gc_aload_n C dL_law_634 rfl 0 rfl (n := 635) rfl ?_
      refine gc_iload_n C dL_law_635 rfl 3 rfl (n := 636) rfl ?_
      refine gc_bipush C dL_law_636 (v := (6 : Int32)) (by decide) (n := 638) rfl ?_
      refine gc_iadd C dL_law_638 (n := 639) rfl ?_
      refine gc_sld C hX hbl hbA (h6) dL_law_639 (n := 640) rfl ?_
      obtain ⟨u, w, e1, e2, e3, hR⟩ := o_probe σ τ (xs (x3 + (1 : Int32)).toNatClampNeg) (xs (x3 + (2 : Int32)).toNatClampNeg) (xs (x3 + (3 : Int32)).toNatClampNeg) (xs (x3 + (4 : Int32)).toNatClampNeg) (xs (x3 + (5 : Int32)).toNatClampNeg) (xs (x3 + (6 : Int32)).toNatClampNeg) hR
      refine gc_callL C dL_law_640 mw_X3_probe ml_L_83 (rest := []) (ktX3_probe e1) (xo3 qx cI σ) rfl (by decide) (by decide) (by decide) (by decide) rfl rfl (Nat.le_of_ble_eq_true rfl) (n := 643) rfl ?_
      refine gc_aload_n C dL_law_643 rfl 2 rfl (n := 644) rfl ?_
      refine gc_aload_n C dL_law_644 rfl 0 rfl (n := 645) rfl ?_
      refine gc_iload_n C dL_law_645 rfl 3 rfl (n := 646) rfl ?_
      refine gc_iconst C dL_law_646 (v := (1 : Int32)) (by decide) (n := 647) rfl ?_
      refine gc_iadd C dL_law_647 (n := 648) rfl ?_
      refine gc_sld C hX hbl hbA (h1) dL_law_648 (n := 649) rfl ?_
      refine gc_aload_n C dL_law_649 rfl 0 rfl (n := 650) rfl ?_
      refine gc_iload_n C dL_law_650 rfl 3 rfl (n := 651) rfl ?_
      refine gc_iconst C dL_law_651 (v := (2 : Int32)) (by decide) (n := 652) rfl ?_
      refine gc_iadd C dL_law_652 (n := 653) rfl ?_
      refine gc_sld C hX hbl hbA (h2) dL_law_653 (n := 654) rfl ?_
      refine gc_aload_n C dL_law_654 rfl 0 rfl (n := 655) rfl ?_
      refine gc_iload_n C dL_law_655 rfl 3 rfl (n := 656) rfl ?_
      refine gc_iconst C dL_law_656 (v := (3 : Int32)) (by decide) (n := 657) rfl ?_
      refine gc_iadd C dL_law_657 (n := 658) rfl ?_
      refine gc_sld C hX hbl hbA (h3) dL_law_658 (n := 659) rfl ?_
      refine gc_aload_n C dL_law_659 rfl 0 rfl (n := 660) rfl ?_
      refine gc_iload_n C dL_law_660 rfl 3 rfl (n := 661) rfl ?_
      refine gc_iconst C dL_law_661 (v := (4 : Int32)) (by decide) (n := 662) rfl ?_
      refine gc_iadd C dL_law_662 (n := 663) rfl ?_
      refine gc_sld C hX hbl hbA (h4) dL_law_663 (n := 664) rfl ?_
      refine gc_aload_n C dL_law_664 rfl 0 rfl (n := 665) rfl ?_
      refine gc_iload_n C dL_law_665 rfl 3 rfl (n := 666) rfl ?_
      refine gc_iconst C dL_law_666 (v := (5 : Int32)) (by decide) (n := 667) rfl ?_
      refine gc_iadd C dL_law_667 (n := 668) rfl ?_
      refine gc_sld C hX hbl hbA (h5) dL_law_668 (n := 669) rfl ?_
      refine gc_aload_n C dL_law_669 rfl 0 rfl (n := 670) rfl ?_
      refine gc_iload_n C dL_law_670 rfl 3 rfl (n := 671) rfl ?_
      refine gc_bipush C dL_law_671 (v := (6 : Int32)) (by decide) (n := 673) rfl ?_
      refine gc_iadd C dL_law_673 (n := 674) rfl ?_
      refine gc_sld C hX hbl hbA (h6) dL_law_674 (n := 675) rfl ?_
      refine gc_callR C dL_law_675 mw_X4_probe ml_L_87 (rest := [.int u]) (ktX4_probe e2) (mo4 qm cI cZ τ) rfl (by decide) (by decide) (by decide) (by decide) rfl rfl (Nat.le_of_ble_eq_true rfl) (n := 678) rfl ?_
      refine gc_icmp_eq C 720 dL_law_678 (by decide) (n := 681) rfl (fun _ => ?_) (fun h => absurd e3 h)
      exact tail σ τ hR
    by_cases c117 : z = (17 : Int32)
    · refine gc_tableIn C 683 dL_law_33 (off := 650) (by rw [c117]; decide) (by rw [c117]; decide) (by rw [c117]; decide) (by decide) ?_
      refine gc_aload_n C dL_law_683 rfl 1 rfl (n := 684) rfl ?_
      refine gc_aload_n C dL_law_684 rfl 0 rfl (n := 685) rfl ?_
      refine gc_iload_n C dL_law_685 rfl 3 rfl (n := 686) rfl ?_
      refine gc_iconst C dL_law_686 (v := (1 : Int32)) (by decide) (n := 687) rfl ?_
      refine gc_iadd C dL_law_687 (n := 688) rfl ?_
      refine gc_sld C hX hbl hbA (h1) dL_law_688 (n := 689) rfl ?_
      obtain ⟨u, w, e1, e2, e3, hR⟩ := o_count σ τ (xs (x3 + (1 : Int32)).toNatClampNeg) hR
      refine gc_callL C dL_law_689 mw_X3_count ml_L_88 (rest := []) (ktX3_count e1) (xo3 qx cI σ) rfl (by decide) (by decide) (by decide) (by decide) rfl rfl (Nat.le_of_ble_eq_true rfl) (n := 692) rfl ?_
      refine gc_aload_n C dL_law_692 rfl 2 rfl (n := 693) rfl ?_
      refine gc_aload_n C dL_law_693 rfl 0 rfl (n := 694) rfl ?_
      refine gc_iload_n C dL_law_694 rfl 3 rfl (n := 695) rfl ?_
      refine gc_iconst C dL_law_695 (v := (1 : Int32)) (by decide) (n := 696) rfl ?_
      refine gc_iadd C dL_law_696 (n := 697) rfl ?_
      refine gc_sld C hX hbl hbA (h1) dL_law_697 (n := 698) rfl ?_
      refine gc_callR C dL_law_698 mw_X4_count ml_L_91 (rest := [.int u]) (ktX4_count e2) (mo4 qm cI cZ τ) rfl (by decide) (by decide) (by decide) (by decide) rfl rfl (Nat.le_of_ble_eq_true rfl) (n := 701) rfl ?_
      refine gc_icmp_eq C 720 dL_law_701 (by decide) (n := 704) rfl (fun _ => ?_) (fun h => absurd e3 h)
      exact tail σ w.2 hR
    by_cases c118 : z = (18 : Int32)
    · refine gc_tableIn C 706 dL_law_33 (off := 673) (by rw [c118]; decide) (by rw [c118]; decide) (by rw [c118]; decide) (by decide) ?_
      refine gc_aload_n C dL_law_706 rfl 1 rfl (n := 707) rfl ?_
      obtain ⟨u, w, e1, e2, e3, hR⟩ := o_digest σ τ hR
      refine gc_callL C dL_law_707 mw_X3_digest ml_L_92 (rest := []) (ktX3_digest e1) (xo3 qx cI σ) rfl (by decide) (by decide) (by decide) (by decide) rfl rfl (Nat.le_of_ble_eq_true rfl) (n := 710) rfl ?_
      refine gc_aload_n C dL_law_710 rfl 2 rfl (n := 711) rfl ?_
      refine gc_callR C dL_law_711 mw_X4_digest ml_L_96 (rest := [.long u]) (ktX4_digest e2) (mo4 qm cI cZ τ) rfl (by decide) (by decide) (by decide) (by decide) rfl rfl (Nat.le_of_ble_eq_true rfl) (n := 714) rfl ?_
      refine gc_lcmp C dL_law_714 (n := 715) rfl ?_
      refine gc_if_eq C 720 dL_law_715 (by decide) (n := 718) rfl (fun _ => ?_) (fun h => absurd ((lg_cmp_eq _ _).mpr e3) h)
      exact tail σ w.2 hR
    have n0 := bx_ne (n := 0) (0 : Int32) (by decide) c100
    have n1 := bx_ne (n := 1) (1 : Int32) (by decide) c101
    have n2 := bx_ne (n := 2) (2 : Int32) (by decide) c102
    have n3 := bx_ne (n := 3) (3 : Int32) (by decide) c103
    have n4 := bx_ne (n := 4) (4 : Int32) (by decide) c104
    have n5 := bx_ne (n := 5) (5 : Int32) (by decide) c105
    have n6 := bx_ne (n := 6) (6 : Int32) (by decide) c106
    have n7 := bx_ne (n := 7) (7 : Int32) (by decide) c107
    have n8 := bx_ne (n := 8) (8 : Int32) (by decide) c108
    have n9 := bx_ne (n := 9) (9 : Int32) (by decide) c109
    have n10 := bx_ne (n := 10) (10 : Int32) (by decide) c110
    have n11 := bx_ne (n := 11) (11 : Int32) (by decide) c111
    have n12 := bx_ne (n := 12) (12 : Int32) (by decide) c112
    have n13 := bx_ne (n := 13) (13 : Int32) (by decide) c113
    have n14 := bx_ne (n := 14) (14 : Int32) (by decide) c114
    have n15 := bx_ne (n := 15) (15 : Int32) (by decide) c115
    have n16 := bx_ne (n := 16) (16 : Int32) (by decide) c116
    have n17 := bx_ne (n := 17) (17 : Int32) (by decide) c117
    have n18 := bx_ne (n := 18) (18 : Int32) (by decide) c118
    refine gc_tableOut C 720 dL_law_33 (by omega) (by decide) ?_
    exact tail σ τ hR
set_option maxRecDepth 20000 in
set_option maxHeartbeats 40000000 in
/-- THE LAW, from its entry, over what the pure part owes -/
theorem law_open {Rl : bx_St → bx_St → Prop} (hO : bx_Ops Rl) {p : Program} {e : Env} {s : State} {m : MethodId} {below : List Frame} {meth : Method} {c : Code} (l : Launch) {b L : Nat} {xs : Nat → Int32} (hL : L ≤ 3584) (C0 : lw_At p s m meth c b L xs) : W p l e room_1 s m #[Value.ref b] below meth c s.heap [] 0 0 (lw_Z below #[Value.ref b] s) (entryFrame m ([Value.ref b] : List Value).toArray 4) := by
  obtain ⟨hx, hb, hr, hml, hown, hts0, hX, hbl, hlocks, hgv⟩ := id C0
  have hts : ∀ w ∈ bx_tbl, w.before #[Value.ref b] s = true := fun w hw => hts0 w (List.mem_filter.mp hw).1
  obtain ⟨c0, iS0, hKn0⟩ := u_known (C := RX0) (T := TX0) (N := 11) (n := 11) hts inX0 (hts _ kw_in_X0)
  obtain ⟨c1, iS1, hKn1⟩ := u_known (C := RX1) (T := TX1) (N := 6) (n := 6) hts inX1 (hts _ kw_in_X1)
  obtain ⟨c2, iS2, hKn2⟩ := u_known (C := RX2) (T := TX2) (N := 7) (n := 7) hts inX2 (hts _ kw_in_X2)
  obtain ⟨c3, iS3, hKn3⟩ := u_known (C := RX3) (T := TX3) (N := 8) (n := 8) hts inX3 (hts _ kw_in_X3)
  obtain ⟨c4, iS4, hKn4⟩ := u_known (C := RX4) (T := TX4) (N := 28) (n := 28) hts inX4 (hts _ kw_in_X4)
  obtain ⟨dC, dI, hKc⟩ : ∃ (dC : Nat → ClassId) (dI : Nat → Nat → Nat), ∀ (k : Nat) (q : vw_C), vwCl[k]? = some q → u_Kn s q.1 q.2.1 q.2.2 (dC k) (dI k) := by
    refine ⟨fun k => if k = 0 then c0 else if k = 1 then c1 else if k = 2 then c2 else if k = 3 then c3 else c4, fun k => if k = 0 then iS0 else if k = 1 then iS1 else if k = 2 then iS2 else if k = 3 then iS3 else iS4, ?_⟩
    intro k q hq
    match k, hq with
    | 0, hq => cases hq; exact hKn0
    | 1, hq => cases hq; exact hKn1
    | 2, hq => cases hq; exact hKn2
    | 3, hq => cases hq; exact hKn3
    | 4, hq => cases hq; exact hKn4
    | k + 5, hq => simp [vwCl] at hq
  obtain ⟨cI, kI, comI, gI1, gI2, gI3⟩ := Cond.arrayClass_spec (hts _ kw_arI)
  obtain ⟨cZ, kZ, comZ, gZ1, gZ2, gZ3⟩ := Cond.arrayClass_spec (hts _ kw_arZ)
  have hK : va_K (dC, dI) vwCl (bx_tys cI cZ) s := by
    refine ⟨hKc, fun k q h => ?_⟩
    match k, h with
    | 0, h => cases h; exact ⟨fun n z => ⟨fun k h => (by cases h), kI, gI2, comI, gI3⟩, gI1⟩
    | 1, h => cases h; exact ⟨fun n z => ⟨fun k h => (by cases h), kZ, gZ2, comZ, gZ3⟩, gZ1⟩
    | k + 2, h => simp [bx_tys] at h
  have hN : bx_NW s := ⟨va_Nw.of rfl (hts0 _ (List.mem_of_getElem? (i := 333) (by decide +kernel))), va_Nw.of rfl (hts0 _ (List.mem_of_getElem? (i := 366) (by decide +kernel)))⟩
  have C : bx_Cx p s m #[Value.ref b] meth c 4 (fun q => s.heap.size ≤ q) (dC, dI) cI cZ RL code ret := ⟨hx, hb, hml, hown, hts, ⟨hK, hN⟩, fun _ h => h, hr, hlocks⟩
  have hl := lv_entry ([.ref b]) (n := 4) (Nat.le_of_ble_eq_true rfl)
  rw [lg_entry_eq]
  generalize (lg_sl ([.ref b]) ++ List.replicate (4 - (lg_sl ([.ref b])).length) Slot.unset).toArray = ls at hl ⊢
  have hl : lv_has ls 4 [(0, .ref b)] := hl
  have hS : va_S (fun q : Nat => s.heap.size ≤ q) s.heap s.heap [] := va_S.rf
  have hP : va_P (dC, dI) vwCl [] s.heap := fun k q h => by simp at h
  have hD : va_D (fun q : Nat => s.heap.size ≤ q) [] := ⟨fun i j p q h => by simp at h, fun k q h => by simp at h⟩
  suffices h : bx_Gc p l e room_1 s m #[Value.ref b] below meth c 4 (fun q => s.heap.size ≤ q) (dC, dI) (lw_Z below #[Value.ref b] s) 0 0 [] 0 [(0, .ref b)] [] from h s.heap [] ls hP hD hS hl
  refine gc_new C dL_law_0 (ci := 3) (fs := [.null, .null, .null, .null, .null, .null, .int 0, .int 0]) rfl inX3 tyX3_ok kw_cl_X3 kw_in_X3 ini_X3 (by decide) (Nat.le_of_ble_eq_true rfl) (Nat.le_of_ble_eq_true rfl) (n := 3) rfl (fun o1 => ?_)
  refine gc_dup C dL_law_3 rfl (n := 4) rfl ?_
  refine gc_ws (ws' := [] ++ [(o1, .inr (3, [.null, .null, .null, .null, .null, .null, .int 0, .int 0]))]) rfl ?_
  refine gc_init C dL_law_4 (kcX3_init (b := o1)) ml_L_9 iw_X3_init cw_X3_init ini_X3 rfl ⟨by decide, by decide, by decide +kernel⟩ (by decide) (by decide) (Nat.le_of_ble_eq_true rfl) (Nat.le_of_ble_eq_true rfl) (Nat.le_of_ble_eq_true rfl) (n := 7) rfl (fun g1 => ?_)
  obtain ⟨qx, hqx⟩ : ∃ qx : Nat → Nat, qx = fun k => if k = 0 then o1 else g1 k := ⟨_, rfl⟩
  have hq0 : qx 0 = o1 := by rw [hqx]; rfl
  refine gc_ws (ws' := bx_xw qx cI (fun _ _ => 0, 0)) (by rw [hqx]; rfl) ?_
  rw [← hq0]
  refine gc_astore_n C dL_law_7 rfl (by decide) (lv' := [(1, .ref (qx 0)), (0, .ref b)]) rfl (n := 8) rfl ?_
  refine gc_new C dL_law_8 (ci := 4) (fs := [.int 0, .null, .int 0, .int 0, .null, .int 0, .null, .null, .int 0, .null, .null, .int 0, .int 0, .null, .int 0, .int 0, .int 0, .int 0, .int 0, .int 0, .null, .int 0, .int 0, .null, .int 0, .int 0, .null, .long 0]) rfl inX4 tyX4_ok kw_cl_X4 kw_in_X4 ini_X4 (by decide) (Nat.le_of_ble_eq_true rfl) (Nat.le_of_ble_eq_true rfl) (n := 11) rfl (fun o2 => ?_)
  refine gc_dup C dL_law_11 rfl (n := 12) rfl ?_
  refine gc_init C dL_law_12 (kcX4_init (b := o2)) ml_L_12 iw_X4_init cw_X4_init ini_X4 rfl ⟨by decide, by decide, by decide +kernel⟩ (by decide) (by decide) (Nat.le_of_ble_eq_true rfl) (Nat.le_of_ble_eq_true rfl) (Nat.le_of_ble_eq_true rfl) (n := 15) rfl (fun g2 => ?_)
  obtain ⟨qm, hqm⟩ : ∃ qm : Nat → Nat, qm = fun k => if k = 0 then o2 else g2 k := ⟨_, rfl⟩
  have hm0 : qm 0 = o2 := by rw [hqm]; rfl
  refine gc_ws (ws' := bx_xw qx cI (fun _ _ => 0, 0) ++ bx_mw qm cI cZ (fun _ _ => 0, 0)) (by rw [hqm]) ?_
  rw [← hm0]
  refine gc_num (c2 := 34) (s2 := 1134) rfl rfl ?_
  refine gc_astore_n C dL_law_15 rfl (by decide) (lv' := [(2, .ref (qm 0)), (1, .ref (qx 0)), (0, .ref b)]) rfl (n := 16) rfl ?_
  refine gc_iconst C dL_law_16 (v := (0 : Int32)) (by decide) (n := 17) rfl ?_
  refine gc_istore_n C dL_law_17 rfl (by decide) (lv' := [(3, .int 0), (2, .ref (qm 0)), (1, .ref (qx 0)), (0, .ref b)]) rfl (n := 18) rfl ?_
  refine gc_lv (lv' := [(0, .ref b), (1, .ref (qx 0)), (2, .ref (qm 0)), (3, .int 0)]) [3, 2, 1, 0] rfl ?_
  exact law_loop hO hL hX hbl C qx qm (L + 1) 0 0 _ _ (Nat.zero_le L) (by omega) nI_0.symm hO.1
